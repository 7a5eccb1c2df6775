-- bytecode to functions, by program (wip/gen/decomp.py)
theorem dX11_learn_0 : decode cX11_learn 0 = .ok (.aload_n 0, 1) := by decide +kernel
theorem dX11_learn_1 : decode cX11_learn 1 = .ok (.iload_n 1, 1) := by decide +kernel
theorem dX11_learn_2 : decode cX11_learn 2 = .ok (.invokevirtual 214, 3) := by decide +kernel
theorem dX11_learn_5 : decode cX11_learn 5 = .ok (.ifCond .ne 5, 3) := by decide +kernel
theorem dX11_learn_8 : decode cX11_learn 8 = .ok (.iconst (-1), 1) := by decide +kernel
theorem dX11_learn_9 : decode cX11_learn 9 = .ok (.ireturn, 1) := by decide +kernel
theorem dX11_learn_10 : decode cX11_learn 10 = .ok (.iconst 0, 1) := by decide +kernel
theorem dX11_learn_11 : decode cX11_learn 11 = .ok (.istore_n 2, 1) := by decide +kernel
theorem dX11_learn_12 : decode cX11_learn 12 = .ok (.iconst 0, 1) := by decide +kernel
theorem dX11_learn_13 : decode cX11_learn 13 = .ok (.istore_n 3, 1) := by decide +kernel
theorem dX11_learn_14 : decode cX11_learn 14 = .ok (.iload_n 3, 1) := by decide +kernel
theorem dX11_learn_15 : decode cX11_learn 15 = .ok (.iconst 3, 1) := by decide +kernel
theorem dX11_learn_16 : decode cX11_learn 16 = .ok (.if_icmp .ge 65, 3) := by decide +kernel
theorem dX11_learn_19 : decode cX11_learn 19 = .ok (.bipush 32, 2) := by decide +kernel
theorem dX11_learn_21 : decode cX11_learn 21 = .ok (.iconst 3, 1) := by decide +kernel
theorem dX11_learn_22 : decode cX11_learn 22 = .ok (.iload_n 1, 1) := by decide +kernel
theorem dX11_learn_23 : decode cX11_learn 23 = .ok (.bipush 10, 2) := by decide +kernel
theorem dX11_learn_25 : decode cX11_learn 25 = .ok (.idiv, 1) := by decide +kernel
theorem dX11_learn_26 : decode cX11_learn 26 = .ok (.imul, 1) := by decide +kernel
theorem dX11_learn_27 : decode cX11_learn 27 = .ok (.iadd, 1) := by decide +kernel
theorem dX11_learn_28 : decode cX11_learn 28 = .ok (.iload_n 3, 1) := by decide +kernel
theorem dX11_learn_29 : decode cX11_learn 29 = .ok (.iadd, 1) := by decide +kernel
theorem dX11_learn_30 : decode cX11_learn 30 = .ok (.istore 4, 2) := by decide +kernel
theorem dX11_learn_32 : decode cX11_learn 32 = .ok (.aload_n 0, 1) := by decide +kernel
theorem dX11_learn_33 : decode cX11_learn 33 = .ok (.getfield 9, 3) := by decide +kernel
theorem dX11_learn_36 : decode cX11_learn 36 = .ok (.iload 4, 2) := by decide +kernel
theorem dX11_learn_38 : decode cX11_learn 38 = .ok (.aload_n 0, 1) := by decide +kernel
theorem dX11_learn_39 : decode cX11_learn 39 = .ok (.getfield 9, 3) := by decide +kernel
theorem dX11_learn_42 : decode cX11_learn 42 = .ok (.iload 4, 2) := by decide +kernel
theorem dX11_learn_44 : decode cX11_learn 44 = .ok (.iaload, 1) := by decide +kernel
theorem dX11_learn_45 : decode cX11_learn 45 = .ok (.aload_n 0, 1) := by decide +kernel
theorem dX11_learn_46 : decode cX11_learn 46 = .ok (.getfield 9, 3) := by decide +kernel
theorem dX11_learn_49 : decode cX11_learn 49 = .ok (.iconst 3, 1) := by decide +kernel
theorem dX11_learn_50 : decode cX11_learn 50 = .ok (.iload_n 1, 1) := by decide +kernel
theorem dX11_learn_51 : decode cX11_learn 51 = .ok (.bipush 10, 2) := by decide +kernel
theorem dX11_learn_53 : decode cX11_learn 53 = .ok (.irem, 1) := by decide +kernel
theorem dX11_learn_54 : decode cX11_learn 54 = .ok (.imul, 1) := by decide +kernel
theorem dX11_learn_55 : decode cX11_learn 55 = .ok (.iload_n 3, 1) := by decide +kernel
theorem dX11_learn_56 : decode cX11_learn 56 = .ok (.iadd, 1) := by decide +kernel
theorem dX11_learn_57 : decode cX11_learn 57 = .ok (.iaload, 1) := by decide +kernel
theorem dX11_learn_58 : decode cX11_learn 58 = .ok (.invokestatic 211, 3) := by decide +kernel
theorem dX11_learn_61 : decode cX11_learn 61 = .ok (.iastore, 1) := by decide +kernel
theorem dX11_learn_62 : decode cX11_learn 62 = .ok (.bipush 13, 2) := by decide +kernel
theorem dX11_learn_64 : decode cX11_learn 64 = .ok (.iload_n 2, 1) := by decide +kernel
theorem dX11_learn_65 : decode cX11_learn 65 = .ok (.imul, 1) := by decide +kernel
theorem dX11_learn_66 : decode cX11_learn 66 = .ok (.aload_n 0, 1) := by decide +kernel
theorem dX11_learn_67 : decode cX11_learn 67 = .ok (.getfield 9, 3) := by decide +kernel
theorem dX11_learn_70 : decode cX11_learn 70 = .ok (.iload 4, 2) := by decide +kernel
theorem dX11_learn_72 : decode cX11_learn 72 = .ok (.iaload, 1) := by decide +kernel
theorem dX11_learn_73 : decode cX11_learn 73 = .ok (.iadd, 1) := by decide +kernel
theorem dX11_learn_74 : decode cX11_learn 74 = .ok (.istore_n 2, 1) := by decide +kernel
theorem dX11_learn_75 : decode cX11_learn 75 = .ok (.iinc 3 1, 3) := by decide +kernel
theorem dX11_learn_78 : decode cX11_learn 78 = .ok (.goto (-64), 3) := by decide +kernel
theorem dX11_learn_81 : decode cX11_learn 81 = .ok (.aload_n 0, 1) := by decide +kernel
theorem dX11_learn_82 : decode cX11_learn 82 = .ok (.getfield 53, 3) := by decide +kernel
theorem dX11_learn_85 : decode cX11_learn 85 = .ok (.iconst 2, 1) := by decide +kernel
theorem dX11_learn_86 : decode cX11_learn 86 = .ok (.dup2, 1) := by decide +kernel
theorem dX11_learn_87 : decode cX11_learn 87 = .ok (.iaload, 1) := by decide +kernel
theorem dX11_learn_88 : decode cX11_learn 88 = .ok (.iconst 1, 1) := by decide +kernel
theorem dX11_learn_89 : decode cX11_learn 89 = .ok (.iadd, 1) := by decide +kernel
theorem dX11_learn_90 : decode cX11_learn 90 = .ok (.iastore, 1) := by decide +kernel
theorem dX11_learn_91 : decode cX11_learn 91 = .ok (.iload_n 2, 1) := by decide +kernel
theorem dX11_learn_92 : decode cX11_learn 92 = .ok (.ireturn, 1) := by decide +kernel
def fX11_learn_b14 : Nat → Int32 → Int32 → Int32 → mS → Option (Int32 × mS)
  | 0, _, _, _, _ => none
  | k + 1, y1, y2, y3, s =>
    if (nI 3) ≤ y3 then
      ldA s aX_ledNow 4 (nI 2) fun v4 =>
      stA s aX_ledNow 4 (nI 2) (v4 + (nI 1)) fun s5 =>
      some (y2, s5)
    else
      bnd (((nI 32) + ((nI 3) * (y1 / (nI 10)))) + y3) fun v6 =>
      ldA s aX_may 65 v6 fun v7 =>
      ldA s aX_may 65 (((nI 3) * (y1 - y1 / (nI 10) * (nI 10))) + y3) fun v8 =>
      bO (fX11_nearer v7 v8 s) fun r9 =>
      stA s aX_may 65 v6 r9 fun s10 =>
      ldA s10 aX_may 65 v6 fun v11 =>
      bnd (((nI 13) * y2) + v11) fun v12 =>
      bnd (y3 + (nI 1)) fun v13 =>
      fX11_learn_b14 k y1 v12 v13 s10

def fX11_learn (x1 : Int32) (s : mS) : Option (Int32 × mS) :=
  bO (fX11_isWm x1 s) fun r1 =>
  if r1 = 0 then
    some ((-1), s)
  else
    bnd (nI 0) fun v2 =>
    bnd (nI 0) fun v3 =>
    fX11_learn_b14 mFu x1 v2 v3 s

set_option maxRecDepth 20000 in
theorem wX11_learn_b14 {ρ : mRo} {d : Nat} {P : mPo} {V : mS → List mE} (hV : mView LX V)  {res : (Int32 × mS)} (hP : P (some (.int res.1)) (V res.2)) : ∀ (k : Nat) (y1 : Int32) (y2 : Int32) (y3 : Int32) (s : mS), fX11_learn_b14 k y1 y2 y3 s = some res → mG ρ (mC ρ (d + 3)) 11 5 cX11_learn (some .int) P 14 [(0, .ref qX), (1, .int y1), (2, .int y2), (3, .int y3)] [] (V s) := by
  intro k
  induction k with
  | zero => intro y1 y2 y3 s hf; rw [fX11_learn_b14] at hf; cases hf
  | succ k ih =>
    intro y1 y2 y3 s hf
    rw [fX11_learn_b14] at hf
    refine e_iload_n 3 dX11_learn_14 rfl rfl ?_
    refine e_iconst (w := (nI 3)) dX11_learn_15 (by decide) ?_
    refine e_icmp_ge 81 dX11_learn_16 (by decide) hf (fun hf => ?_) (fun hf => ?_)
    · refine e_aload_n 0 dX11_learn_81 rfl rfl ?_
      refine e_getr hV dX11_learn_82 rfl lx_X rfl ?_
      refine e_iconst (w := (nI 2)) dX11_learn_85 (by decide) ?_
      refine e_dup2 dX11_learn_86 rfl rfl ?_
      refine e_iald hV dX11_learn_87 lx_X_ledNow hf (fun v4 hf => ?_)
      refine e_iconst (w := (nI 1)) dX11_learn_88 (by decide) ?_
      refine e_iadd dX11_learn_89 ?_
      refine e_iast hV dX11_learn_90 lx_X_ledNow hf (fun s5 hf => ?_)
      refine e_iload_n 2 dX11_learn_91 rfl rfl ?_
      obtain rfl := Option.some.inj hf
      exact e_iret dX11_learn_92 trivial hP
    · refine e_bipush (w := (nI 32)) dX11_learn_19 (by decide) ?_
      refine e_iconst (w := (nI 3)) dX11_learn_21 (by decide) ?_
      refine e_iload_n 1 dX11_learn_22 rfl rfl ?_
      refine e_bipush (w := (nI 10)) dX11_learn_23 (by decide) ?_
      refine e_idiv dX11_learn_25 (by decide) ?_
      refine e_imul dX11_learn_26 ?_
      refine e_iadd dX11_learn_27 ?_
      refine e_iload_n 3 dX11_learn_28 rfl rfl ?_
      refine e_iadd dX11_learn_29 ?_
      refine e_istore dX11_learn_30 (by decide) hf (fun v6 hf => ?_)
      refine e_aload_n 1 dX11_learn_32 rfl rfl ?_
      refine e_getr hV dX11_learn_33 rfl lx_X rfl ?_
      refine e_iload 0 dX11_learn_36 rfl ?_
      refine e_aload_n 1 dX11_learn_38 rfl rfl ?_
      refine e_getr hV dX11_learn_39 rfl lx_X rfl ?_
      refine e_iload 0 dX11_learn_42 rfl ?_
      refine e_iald hV dX11_learn_44 lx_X_may hf (fun v7 hf => ?_)
      refine e_aload_n 1 dX11_learn_45 rfl rfl ?_
      refine e_getr hV dX11_learn_46 rfl lx_X rfl ?_
      refine e_iconst (w := (nI 3)) dX11_learn_49 (by decide) ?_
      refine e_iload_n 2 dX11_learn_50 rfl rfl ?_
      refine e_bipush (w := (nI 10)) dX11_learn_51 (by decide) ?_
      refine e_irem dX11_learn_53 (by decide) ?_
      refine e_imul dX11_learn_54 ?_
      refine e_iload_n 4 dX11_learn_55 rfl rfl ?_
      refine e_iadd dX11_learn_56 ?_
      refine e_iald hV dX11_learn_57 lx_X_may hf (fun v8 hf => ?_)
      obtain ⟨r9, hg, hf⟩ := bO_some hf
      refine e_callS (as := [.int v7, .int v8]) (v := (some (.int r9))) (s' := s) dX11_learn_58 rfl rfl rfl rfl rfl (Nat.le_of_ble_eq_true rfl) (fun Q hQ => tX11_nearer (d := (d + 2)) hV  hg hQ) ?_
      refine e_iast hV dX11_learn_61 lx_X_may hf (fun s10 hf => ?_)
      refine e_bipush (w := (nI 13)) dX11_learn_62 (by decide) ?_
      refine e_iload_n 3 dX11_learn_64 rfl rfl ?_
      refine e_imul dX11_learn_65 ?_
      refine e_aload_n 1 dX11_learn_66 rfl rfl ?_
      refine e_getr hV dX11_learn_67 rfl lx_X rfl ?_
      refine e_iload 0 dX11_learn_70 rfl ?_
      refine e_iald hV dX11_learn_72 lx_X_may hf (fun v11 hf => ?_)
      refine e_iadd dX11_learn_73 ?_
      refine e_istore_n dX11_learn_74 rfl (by decide) hf (fun v12 hf => ?_)
      refine e_iinc 4 dX11_learn_75 (by decide) rfl hf (fun v13 hf => ?_)
      refine e_goto 14 dX11_learn_78 (by decide) ?_
      refine e_pick [3, 4, 1, 0] rfl ?_
      exact ih y1 v12 v13 s10 hf
set_option maxRecDepth 20000 in
theorem tX11_learn {ρ : mRo} {d : Nat} {P : mPo} {V : mS → List mE} (hV : mView LX V)  {x1 : Int32} {s : mS} {res : (Int32 × mS)} (hf : fX11_learn x1 s = some res) (hP : P (some (.int res.1)) (V res.2)) : mC ρ (d + 4) 207 [.ref qX, .int x1] (V s) P := by
  refine ⟨_, rfl, Nat.le_of_ble_eq_true rfl, by decide, ?_⟩
  show mG ρ (mC ρ (d + 3)) 11 5 cX11_learn (some .int) P 0 [(0, .ref qX), (1, .int x1)] [] (V s)
  unfold fX11_learn at hf
  refine e_aload_n 0 dX11_learn_0 rfl rfl ?_
  refine e_iload_n 1 dX11_learn_1 rfl rfl ?_
  obtain ⟨r1, hg, hf⟩ := bO_some hf
  refine e_callV (as := [.int x1]) (v := (some (.int r1))) (s' := s) hV dX11_learn_2 (Or.inl rfl) rfl rfl rfl rfl (Nat.le_of_ble_eq_true rfl) lx_X rfl rfl (fun Q hQ => tX11_isWm (d := d) hV  hg hQ) ?_
  refine e_if_ne 10 dX11_learn_5 (by decide) hf (fun hf => ?_) (fun hf => ?_)
  · refine e_iconst (w := (nI 0)) dX11_learn_10 (by decide) ?_
    refine e_istore_n dX11_learn_11 rfl (by decide) hf (fun v2 hf => ?_)
    refine e_iconst (w := (nI 0)) dX11_learn_12 (by decide) ?_
    refine e_istore_n dX11_learn_13 rfl (by decide) hf (fun v3 hf => ?_)
    refine e_pick [2, 3, 1, 0] rfl ?_
    exact wX11_learn_b14 hV hP mFu x1 v2 v3 s hf
  · refine e_iconst (w := (-1)) dX11_learn_8 (by decide) ?_
    obtain rfl := Option.some.inj hf
    exact e_iret dX11_learn_9 trivial hP

theorem dX11_led_0 : decode cX11_led 0 = .ok (.iload_n 1, 1) := by decide +kernel
theorem dX11_led_1 : decode cX11_led 1 = .ok (.i2l, 1) := by decide +kernel
theorem dX11_led_2 : decode cX11_led 2 = .ok (.lconst 0, 1) := by decide +kernel
theorem dX11_led_3 : decode cX11_led 3 = .ok (.ldc2_w 232, 3) := by decide +kernel
theorem dX11_led_6 : decode cX11_led 6 = .ok (.invokestatic 93, 3) := by decide +kernel
theorem dX11_led_9 : decode cX11_led 9 = .ok (.ifCond .eq 12, 3) := by decide +kernel
theorem dX11_led_12 : decode cX11_led 12 = .ok (.aload_n 0, 1) := by decide +kernel
theorem dX11_led_13 : decode cX11_led 13 = .ok (.getfield 53, 3) := by decide +kernel
theorem dX11_led_16 : decode cX11_led 16 = .ok (.iload_n 1, 1) := by decide +kernel
theorem dX11_led_17 : decode cX11_led 17 = .ok (.iaload, 1) := by decide +kernel
theorem dX11_led_18 : decode cX11_led 18 = .ok (.goto 28, 3) := by decide +kernel
theorem dX11_led_21 : decode cX11_led 21 = .ok (.iload_n 1, 1) := by decide +kernel
theorem dX11_led_22 : decode cX11_led 22 = .ok (.iconst 4, 1) := by decide +kernel
theorem dX11_led_23 : decode cX11_led 23 = .ok (.if_icmp .eq 7, 3) := by decide +kernel
theorem dX11_led_26 : decode cX11_led 26 = .ok (.iconst (-1), 1) := by decide +kernel
theorem dX11_led_27 : decode cX11_led 27 = .ok (.goto 19, 3) := by decide +kernel
theorem dX11_led_30 : decode cX11_led 30 = .ok (.aload_n 0, 1) := by decide +kernel
theorem dX11_led_31 : decode cX11_led 31 = .ok (.getfield 49, 3) := by decide +kernel
theorem dX11_led_34 : decode cX11_led 34 = .ok (.ifCond .ge 8, 3) := by decide +kernel
theorem dX11_led_37 : decode cX11_led 37 = .ok (.bipush (-2), 2) := by decide +kernel
theorem dX11_led_39 : decode cX11_led 39 = .ok (.goto 7, 3) := by decide +kernel
theorem dX11_led_42 : decode cX11_led 42 = .ok (.aload_n 0, 1) := by decide +kernel
theorem dX11_led_43 : decode cX11_led 43 = .ok (.getfield 49, 3) := by decide +kernel
theorem dX11_led_46 : decode cX11_led 46 = .ok (.ireturn, 1) := by decide +kernel
def fX11_led (x1 : Int32) (s : mS) : Option Int32 :=
  bO (fX11_within (Int32.toInt64 x1) 0 3 s) fun r1 =>
  if r1 = 0 then
    if x1 = (nI 4) then
      if 0 ≤ (gI s iX_latest) then
        some (gI s iX_latest)
      else
        some (-2)
    else
      some (-1)
  else
    ldA s aX_ledNow 4 x1 fun v2 =>
    some v2

set_option maxRecDepth 20000 in
theorem tX11_led {ρ : mRo} {d : Nat} {P : mPo} {V : mS → List mE} (hV : mView LX V)  {x1 : Int32} {s : mS} {res : Int32} (hf : fX11_led x1 s = some res) (hP : P (some (.int res)) (V s)) : mC ρ (d + 2) 208 [.ref qX, .int x1] (V s) P := by
  refine ⟨_, rfl, Nat.le_of_ble_eq_true rfl, by decide, ?_⟩
  show mG ρ (mC ρ (d + 1)) 11 2 cX11_led (some .int) P 0 [(0, .ref qX), (1, .int x1)] [] (V s)
  unfold fX11_led at hf
  refine e_iload_n 1 dX11_led_0 rfl rfl ?_
  refine e_i2l dX11_led_1 ?_
  refine e_lconst (w := 0) dX11_led_2 (by decide) ?_
  refine e_ldc2_w (w := 3) dX11_led_3 rfl ?_
  obtain ⟨r1, hg, hf⟩ := bO_some hf
  refine e_callS (as := [.long (Int32.toInt64 x1), .long 0, .long 3]) (v := (some (.int r1))) (s' := s) dX11_led_6 rfl rfl rfl rfl rfl (Nat.le_of_ble_eq_true rfl) (fun Q hQ => tX11_within (d := d) hV  hg hQ) ?_
  refine e_if_eq 21 dX11_led_9 (by decide) hf (fun hf => ?_) (fun hf => ?_)
  · refine e_iload_n 1 dX11_led_21 rfl rfl ?_
    refine e_iconst (w := (nI 4)) dX11_led_22 (by decide) ?_
    refine e_icmp_eq 30 dX11_led_23 (by decide) hf (fun hf => ?_) (fun hf => ?_)
    · refine e_aload_n 0 dX11_led_30 rfl rfl ?_
      refine e_geti hV dX11_led_31 rfl lx_X rfl ?_
      refine e_if_ge 42 dX11_led_34 (by decide) hf (fun hf => ?_) (fun hf => ?_)
      · refine e_aload_n 0 dX11_led_42 rfl rfl ?_
        refine e_geti hV dX11_led_43 rfl lx_X rfl ?_
        obtain rfl := Option.some.inj hf
        exact e_iret dX11_led_46 trivial hP
      · refine e_bipush (w := (-2)) dX11_led_37 (by decide) ?_
        refine e_goto 46 dX11_led_39 (by decide) ?_
        obtain rfl := Option.some.inj hf
        exact e_iret dX11_led_46 trivial hP
    · refine e_iconst (w := (-1)) dX11_led_26 (by decide) ?_
      refine e_goto 46 dX11_led_27 (by decide) ?_
      obtain rfl := Option.some.inj hf
      exact e_iret dX11_led_46 trivial hP
  · refine e_aload_n 0 dX11_led_12 rfl rfl ?_
    refine e_getr hV dX11_led_13 rfl lx_X rfl ?_
    refine e_iload_n 1 dX11_led_16 rfl rfl ?_
    refine e_iald hV dX11_led_17 lx_X_ledNow hf (fun v2 hf => ?_)
    refine e_goto 46 dX11_led_18 (by decide) ?_
    obtain rfl := Option.some.inj hf
    exact e_iret dX11_led_46 trivial hP

theorem dX11_image_0 : decode cX11_image 0 = .ok (.aload_n 0, 1) := by decide +kernel
theorem dX11_image_1 : decode cX11_image 1 = .ok (.iconst 1, 1) := by decide +kernel
theorem dX11_image_2 : decode cX11_image 2 = .ok (.putfield 269, 3) := by decide +kernel
theorem dX11_image_5 : decode cX11_image 5 = .ok (.aload_n 0, 1) := by decide +kernel
theorem dX11_image_6 : decode cX11_image 6 = .ok (.aload_n 0, 1) := by decide +kernel
theorem dX11_image_7 : decode cX11_image 7 = .ok (.getfield 90, 3) := by decide +kernel
theorem dX11_image_10 : decode cX11_image 10 = .ok (.putfield 273, 3) := by decide +kernel
theorem dX11_image_13 : decode cX11_image 13 = .ok (.aload_n 0, 1) := by decide +kernel
theorem dX11_image_14 : decode cX11_image 14 = .ok (.aload_n 0, 1) := by decide +kernel
theorem dX11_image_15 : decode cX11_image 15 = .ok (.getfield 97, 3) := by decide +kernel
theorem dX11_image_18 : decode cX11_image 18 = .ok (.putfield 276, 3) := by decide +kernel
theorem dX11_image_21 : decode cX11_image 21 = .ok (.aload_n 0, 1) := by decide +kernel
theorem dX11_image_22 : decode cX11_image 22 = .ok (.aload_n 0, 1) := by decide +kernel
theorem dX11_image_23 : decode cX11_image 23 = .ok (.getfield 49, 3) := by decide +kernel
theorem dX11_image_26 : decode cX11_image 26 = .ok (.putfield 279, 3) := by decide +kernel
theorem dX11_image_29 : decode cX11_image 29 = .ok (.iconst 0, 1) := by decide +kernel
theorem dX11_image_30 : decode cX11_image 30 = .ok (.istore_n 1, 1) := by decide +kernel
theorem dX11_image_31 : decode cX11_image 31 = .ok (.iload_n 1, 1) := by decide +kernel
theorem dX11_image_32 : decode cX11_image 32 = .ok (.bipush 56, 2) := by decide +kernel
theorem dX11_image_34 : decode cX11_image 34 = .ok (.if_icmp .ge 21, 3) := by decide +kernel
theorem dX11_image_37 : decode cX11_image 37 = .ok (.aload_n 0, 1) := by decide +kernel
theorem dX11_image_38 : decode cX11_image 38 = .ok (.getfield 56, 3) := by decide +kernel
theorem dX11_image_41 : decode cX11_image 41 = .ok (.iload_n 1, 1) := by decide +kernel
theorem dX11_image_42 : decode cX11_image 42 = .ok (.aload_n 0, 1) := by decide +kernel
theorem dX11_image_43 : decode cX11_image 43 = .ok (.getfield 9, 3) := by decide +kernel
theorem dX11_image_46 : decode cX11_image 46 = .ok (.iload_n 1, 1) := by decide +kernel
theorem dX11_image_47 : decode cX11_image 47 = .ok (.iaload, 1) := by decide +kernel
theorem dX11_image_48 : decode cX11_image 48 = .ok (.iastore, 1) := by decide +kernel
theorem dX11_image_49 : decode cX11_image 49 = .ok (.iinc 1 1, 3) := by decide +kernel
theorem dX11_image_52 : decode cX11_image 52 = .ok (.goto (-21), 3) := by decide +kernel
theorem dX11_image_55 : decode cX11_image 55 = .ok (.iconst 0, 1) := by decide +kernel
theorem dX11_image_56 : decode cX11_image 56 = .ok (.istore_n 1, 1) := by decide +kernel
theorem dX11_image_57 : decode cX11_image 57 = .ok (.iload_n 1, 1) := by decide +kernel
theorem dX11_image_58 : decode cX11_image 58 = .ok (.iconst 4, 1) := by decide +kernel
theorem dX11_image_59 : decode cX11_image 59 = .ok (.if_icmp .ge 21, 3) := by decide +kernel
theorem dX11_image_62 : decode cX11_image 62 = .ok (.aload_n 0, 1) := by decide +kernel
theorem dX11_image_63 : decode cX11_image 63 = .ok (.getfield 59, 3) := by decide +kernel
theorem dX11_image_66 : decode cX11_image 66 = .ok (.iload_n 1, 1) := by decide +kernel
theorem dX11_image_67 : decode cX11_image 67 = .ok (.aload_n 0, 1) := by decide +kernel
theorem dX11_image_68 : decode cX11_image 68 = .ok (.getfield 53, 3) := by decide +kernel
theorem dX11_image_71 : decode cX11_image 71 = .ok (.iload_n 1, 1) := by decide +kernel
theorem dX11_image_72 : decode cX11_image 72 = .ok (.iaload, 1) := by decide +kernel
theorem dX11_image_73 : decode cX11_image 73 = .ok (.iastore, 1) := by decide +kernel
theorem dX11_image_74 : decode cX11_image 74 = .ok (.iinc 1 1, 3) := by decide +kernel
theorem dX11_image_77 : decode cX11_image 77 = .ok (.goto (-20), 3) := by decide +kernel
theorem dX11_image_80 : decode cX11_image 80 = .ok (.aload_n 0, 1) := by decide +kernel
theorem dX11_image_81 : decode cX11_image 81 = .ok (.getfield 53, 3) := by decide +kernel
theorem dX11_image_84 : decode cX11_image 84 = .ok (.iconst 0, 1) := by decide +kernel
theorem dX11_image_85 : decode cX11_image 85 = .ok (.iaload, 1) := by decide +kernel
theorem dX11_image_86 : decode cX11_image 86 = .ok (.ireturn, 1) := by decide +kernel
def fX11_image_b57 : Nat → Int32 → mS → Option (Int32 × mS)
  | 0, _, _ => none
  | k + 1, y1, s =>
    if (nI 4) ≤ y1 then
      ldA s aX_ledNow 4 (nI 0) fun v7 =>
      some (v7, s)
    else
      ldA s aX_ledNow 4 y1 fun v8 =>
      stA s aX_imageLed 4 y1 v8 fun s9 =>
      bnd (y1 + (nI 1)) fun v10 =>
      fX11_image_b57 k v10 s9

def fX11_image_b31 : Nat → Int32 → mS → Option (Int32 × mS)
  | 0, _, _ => none
  | k + 1, y1, s =>
    if (nI 56) ≤ y1 then
      bnd (nI 0) fun v6 =>
      fX11_image_b57 mFu v6 s
    else
      ldA s aX_may 65 y1 fun v11 =>
      stA s aX_imageMay 56 y1 v11 fun s12 =>
      bnd (y1 + (nI 1)) fun v13 =>
      fX11_image_b31 k v13 s12

def fX11_image (s : mS) : Option (Int32 × mS) :=
  bnd (pI s iX_isKept (nI 1)) fun s1 =>
  bnd (pI s1 iX_imageMachines (gI s1 iX_machines)) fun s2 =>
  bnd (pI s2 iX_imageWriters (gI s2 iX_writers)) fun s3 =>
  bnd (pI s3 iX_imageLatest (gI s3 iX_latest)) fun s4 =>
  bnd (nI 0) fun v5 =>
  fX11_image_b31 mFu v5 s4

set_option maxRecDepth 20000 in
theorem wX11_image_b57 {ρ : mRo} {d : Nat} {P : mPo} {V : mS → List mE} (hV : mView LX V)  {res : (Int32 × mS)} (hP : P (some (.int res.1)) (V res.2)) : ∀ (k : Nat) (y1 : Int32) (s : mS), fX11_image_b57 k y1 s = some res → mG ρ (mC ρ d) 11 2 cX11_image (some .int) P 57 [(0, .ref qX), (1, .int y1)] [] (V s) := by
  intro k
  induction k with
  | zero => intro y1 s hf; rw [fX11_image_b57] at hf; cases hf
  | succ k ih =>
    intro y1 s hf
    rw [fX11_image_b57] at hf
    refine e_iload_n 1 dX11_image_57 rfl rfl ?_
    refine e_iconst (w := (nI 4)) dX11_image_58 (by decide) ?_
    refine e_icmp_ge 80 dX11_image_59 (by decide) hf (fun hf => ?_) (fun hf => ?_)
    · refine e_aload_n 0 dX11_image_80 rfl rfl ?_
      refine e_getr hV dX11_image_81 rfl lx_X rfl ?_
      refine e_iconst (w := (nI 0)) dX11_image_84 (by decide) ?_
      refine e_iald hV dX11_image_85 lx_X_ledNow hf (fun v7 hf => ?_)
      obtain rfl := Option.some.inj hf
      exact e_iret dX11_image_86 trivial hP
    · refine e_aload_n 0 dX11_image_62 rfl rfl ?_
      refine e_getr hV dX11_image_63 rfl lx_X rfl ?_
      refine e_iload_n 1 dX11_image_66 rfl rfl ?_
      refine e_aload_n 0 dX11_image_67 rfl rfl ?_
      refine e_getr hV dX11_image_68 rfl lx_X rfl ?_
      refine e_iload_n 1 dX11_image_71 rfl rfl ?_
      refine e_iald hV dX11_image_72 lx_X_ledNow hf (fun v8 hf => ?_)
      refine e_iast hV dX11_image_73 lx_X_imageLed hf (fun s9 hf => ?_)
      refine e_iinc 1 dX11_image_74 (by decide) rfl hf (fun v10 hf => ?_)
      refine e_goto 57 dX11_image_77 (by decide) ?_
      refine e_pick [1, 0] rfl ?_
      exact ih v10 s9 hf
set_option maxRecDepth 20000 in
theorem wX11_image_b31 {ρ : mRo} {d : Nat} {P : mPo} {V : mS → List mE} (hV : mView LX V)  {res : (Int32 × mS)} (hP : P (some (.int res.1)) (V res.2)) : ∀ (k : Nat) (y1 : Int32) (s : mS), fX11_image_b31 k y1 s = some res → mG ρ (mC ρ d) 11 2 cX11_image (some .int) P 31 [(0, .ref qX), (1, .int y1)] [] (V s) := by
  intro k
  induction k with
  | zero => intro y1 s hf; rw [fX11_image_b31] at hf; cases hf
  | succ k ih =>
    intro y1 s hf
    rw [fX11_image_b31] at hf
    refine e_iload_n 1 dX11_image_31 rfl rfl ?_
    refine e_bipush (w := (nI 56)) dX11_image_32 (by decide) ?_
    refine e_icmp_ge 55 dX11_image_34 (by decide) hf (fun hf => ?_) (fun hf => ?_)
    · refine e_iconst (w := (nI 0)) dX11_image_55 (by decide) ?_
      refine e_istore_n dX11_image_56 rfl (by decide) hf (fun v6 hf => ?_)
      refine e_pick [1, 0] rfl ?_
      exact wX11_image_b57 hV hP mFu v6 s hf
    · refine e_aload_n 0 dX11_image_37 rfl rfl ?_
      refine e_getr hV dX11_image_38 rfl lx_X rfl ?_
      refine e_iload_n 1 dX11_image_41 rfl rfl ?_
      refine e_aload_n 0 dX11_image_42 rfl rfl ?_
      refine e_getr hV dX11_image_43 rfl lx_X rfl ?_
      refine e_iload_n 1 dX11_image_46 rfl rfl ?_
      refine e_iald hV dX11_image_47 lx_X_may hf (fun v11 hf => ?_)
      refine e_iast hV dX11_image_48 lx_X_imageMay hf (fun s12 hf => ?_)
      refine e_iinc 1 dX11_image_49 (by decide) rfl hf (fun v13 hf => ?_)
      refine e_goto 31 dX11_image_52 (by decide) ?_
      refine e_pick [1, 0] rfl ?_
      exact ih v13 s12 hf
set_option maxRecDepth 20000 in
theorem tX11_image {ρ : mRo} {d : Nat} {P : mPo} {V : mS → List mE} (hV : mView LX V)  {s : mS} {res : (Int32 × mS)} (hf : fX11_image s = some res) (hP : P (some (.int res.1)) (V res.2)) : mC ρ (d + 1) 209 [.ref qX] (V s) P := by
  refine ⟨_, rfl, Nat.le_of_ble_eq_true rfl, by decide, ?_⟩
  show mG ρ (mC ρ d) 11 2 cX11_image (some .int) P 0 [(0, .ref qX)] [] (V s)
  unfold fX11_image at hf
  refine e_aload_n 0 dX11_image_0 rfl rfl ?_
  refine e_iconst (w := (nI 1)) dX11_image_1 (by decide) ?_
  refine e_puti hV dX11_image_2 rfl rfl rfl (Or.inr ⟨rfl, Or.inr rfl⟩) lx_X rfl hf (fun s1 hf => ?_)
  refine e_aload_n 0 dX11_image_5 rfl rfl ?_
  refine e_aload_n 0 dX11_image_6 rfl rfl ?_
  refine e_geti hV dX11_image_7 rfl lx_X rfl ?_
  refine e_puti hV dX11_image_10 rfl rfl rfl (Or.inl rfl) lx_X rfl hf (fun s2 hf => ?_)
  refine e_aload_n 0 dX11_image_13 rfl rfl ?_
  refine e_aload_n 0 dX11_image_14 rfl rfl ?_
  refine e_geti hV dX11_image_15 rfl lx_X rfl ?_
  refine e_puti hV dX11_image_18 rfl rfl rfl (Or.inl rfl) lx_X rfl hf (fun s3 hf => ?_)
  refine e_aload_n 0 dX11_image_21 rfl rfl ?_
  refine e_aload_n 0 dX11_image_22 rfl rfl ?_
  refine e_geti hV dX11_image_23 rfl lx_X rfl ?_
  refine e_puti hV dX11_image_26 rfl rfl rfl (Or.inl rfl) lx_X rfl hf (fun s4 hf => ?_)
  refine e_iconst (w := (nI 0)) dX11_image_29 (by decide) ?_
  refine e_istore_n dX11_image_30 rfl (by decide) hf (fun v5 hf => ?_)
  refine e_pick [1, 0] rfl ?_
  exact wX11_image_b31 hV hP mFu v5 s4 hf

theorem dX11_back_0 : decode cX11_back 0 = .ok (.aload_n 0, 1) := by decide +kernel
theorem dX11_back_1 : decode cX11_back 1 = .ok (.getfield 269, 3) := by decide +kernel
theorem dX11_back_4 : decode cX11_back 4 = .ok (.ifCond .ne 6, 3) := by decide +kernel
theorem dX11_back_7 : decode cX11_back 7 = .ok (.bipush (-5), 2) := by decide +kernel
theorem dX11_back_9 : decode cX11_back 9 = .ok (.ireturn, 1) := by decide +kernel
theorem dX11_back_10 : decode cX11_back 10 = .ok (.iconst 0, 1) := by decide +kernel
theorem dX11_back_11 : decode cX11_back 11 = .ok (.istore_n 1, 1) := by decide +kernel
theorem dX11_back_12 : decode cX11_back 12 = .ok (.iload_n 1, 1) := by decide +kernel
theorem dX11_back_13 : decode cX11_back 13 = .ok (.iconst 3, 1) := by decide +kernel
theorem dX11_back_14 : decode cX11_back 14 = .ok (.aload_n 0, 1) := by decide +kernel
theorem dX11_back_15 : decode cX11_back 15 = .ok (.getfield 273, 3) := by decide +kernel
theorem dX11_back_18 : decode cX11_back 18 = .ok (.imul, 1) := by decide +kernel
theorem dX11_back_19 : decode cX11_back 19 = .ok (.if_icmp .ge 21, 3) := by decide +kernel
theorem dX11_back_22 : decode cX11_back 22 = .ok (.aload_n 0, 1) := by decide +kernel
theorem dX11_back_23 : decode cX11_back 23 = .ok (.getfield 9, 3) := by decide +kernel
theorem dX11_back_26 : decode cX11_back 26 = .ok (.iload_n 1, 1) := by decide +kernel
theorem dX11_back_27 : decode cX11_back 27 = .ok (.aload_n 0, 1) := by decide +kernel
theorem dX11_back_28 : decode cX11_back 28 = .ok (.getfield 56, 3) := by decide +kernel
theorem dX11_back_31 : decode cX11_back 31 = .ok (.iload_n 1, 1) := by decide +kernel
theorem dX11_back_32 : decode cX11_back 32 = .ok (.iaload, 1) := by decide +kernel
theorem dX11_back_33 : decode cX11_back 33 = .ok (.iastore, 1) := by decide +kernel
theorem dX11_back_34 : decode cX11_back 34 = .ok (.iinc 1 1, 3) := by decide +kernel
theorem dX11_back_37 : decode cX11_back 37 = .ok (.goto (-25), 3) := by decide +kernel
theorem dX11_back_40 : decode cX11_back 40 = .ok (.iconst 0, 1) := by decide +kernel
theorem dX11_back_41 : decode cX11_back 41 = .ok (.istore_n 1, 1) := by decide +kernel
theorem dX11_back_42 : decode cX11_back 42 = .ok (.iload_n 1, 1) := by decide +kernel
theorem dX11_back_43 : decode cX11_back 43 = .ok (.aload_n 0, 1) := by decide +kernel
theorem dX11_back_44 : decode cX11_back 44 = .ok (.getfield 273, 3) := by decide +kernel
theorem dX11_back_47 : decode cX11_back 47 = .ok (.if_icmp .ge 27, 3) := by decide +kernel
theorem dX11_back_50 : decode cX11_back 50 = .ok (.aload_n 0, 1) := by decide +kernel
theorem dX11_back_51 : decode cX11_back 51 = .ok (.getfield 9, 3) := by decide +kernel
theorem dX11_back_54 : decode cX11_back 54 = .ok (.bipush 24, 2) := by decide +kernel
theorem dX11_back_56 : decode cX11_back 56 = .ok (.iload_n 1, 1) := by decide +kernel
theorem dX11_back_57 : decode cX11_back 57 = .ok (.iadd, 1) := by decide +kernel
theorem dX11_back_58 : decode cX11_back 58 = .ok (.aload_n 0, 1) := by decide +kernel
theorem dX11_back_59 : decode cX11_back 59 = .ok (.getfield 56, 3) := by decide +kernel
theorem dX11_back_62 : decode cX11_back 62 = .ok (.bipush 24, 2) := by decide +kernel
theorem dX11_back_64 : decode cX11_back 64 = .ok (.iload_n 1, 1) := by decide +kernel
theorem dX11_back_65 : decode cX11_back 65 = .ok (.iadd, 1) := by decide +kernel
theorem dX11_back_66 : decode cX11_back 66 = .ok (.iaload, 1) := by decide +kernel
theorem dX11_back_67 : decode cX11_back 67 = .ok (.iastore, 1) := by decide +kernel
theorem dX11_back_68 : decode cX11_back 68 = .ok (.iinc 1 1, 3) := by decide +kernel
theorem dX11_back_71 : decode cX11_back 71 = .ok (.goto (-29), 3) := by decide +kernel
theorem dX11_back_74 : decode cX11_back 74 = .ok (.iconst 0, 1) := by decide +kernel
theorem dX11_back_75 : decode cX11_back 75 = .ok (.istore_n 1, 1) := by decide +kernel
theorem dX11_back_76 : decode cX11_back 76 = .ok (.iload_n 1, 1) := by decide +kernel
theorem dX11_back_77 : decode cX11_back 77 = .ok (.iconst 3, 1) := by decide +kernel
theorem dX11_back_78 : decode cX11_back 78 = .ok (.aload_n 0, 1) := by decide +kernel
theorem dX11_back_79 : decode cX11_back 79 = .ok (.getfield 276, 3) := by decide +kernel
theorem dX11_back_82 : decode cX11_back 82 = .ok (.imul, 1) := by decide +kernel
theorem dX11_back_83 : decode cX11_back 83 = .ok (.if_icmp .ge 27, 3) := by decide +kernel
theorem dX11_back_86 : decode cX11_back 86 = .ok (.aload_n 0, 1) := by decide +kernel
theorem dX11_back_87 : decode cX11_back 87 = .ok (.getfield 9, 3) := by decide +kernel
theorem dX11_back_90 : decode cX11_back 90 = .ok (.bipush 32, 2) := by decide +kernel
theorem dX11_back_92 : decode cX11_back 92 = .ok (.iload_n 1, 1) := by decide +kernel
theorem dX11_back_93 : decode cX11_back 93 = .ok (.iadd, 1) := by decide +kernel
theorem dX11_back_94 : decode cX11_back 94 = .ok (.aload_n 0, 1) := by decide +kernel
theorem dX11_back_95 : decode cX11_back 95 = .ok (.getfield 56, 3) := by decide +kernel
theorem dX11_back_98 : decode cX11_back 98 = .ok (.bipush 32, 2) := by decide +kernel
theorem dX11_back_100 : decode cX11_back 100 = .ok (.iload_n 1, 1) := by decide +kernel
theorem dX11_back_101 : decode cX11_back 101 = .ok (.iadd, 1) := by decide +kernel
theorem dX11_back_102 : decode cX11_back 102 = .ok (.iaload, 1) := by decide +kernel
theorem dX11_back_103 : decode cX11_back 103 = .ok (.iastore, 1) := by decide +kernel
theorem dX11_back_104 : decode cX11_back 104 = .ok (.iinc 1 1, 3) := by decide +kernel
theorem dX11_back_107 : decode cX11_back 107 = .ok (.goto (-31), 3) := by decide +kernel
theorem dX11_back_110 : decode cX11_back 110 = .ok (.aload_n 0, 1) := by decide +kernel
theorem dX11_back_111 : decode cX11_back 111 = .ok (.aload_n 0, 1) := by decide +kernel
theorem dX11_back_112 : decode cX11_back 112 = .ok (.getfield 279, 3) := by decide +kernel
theorem dX11_back_115 : decode cX11_back 115 = .ok (.putfield 49, 3) := by decide +kernel
theorem dX11_back_118 : decode cX11_back 118 = .ok (.iconst 0, 1) := by decide +kernel
theorem dX11_back_119 : decode cX11_back 119 = .ok (.istore_n 1, 1) := by decide +kernel
theorem dX11_back_120 : decode cX11_back 120 = .ok (.iload_n 1, 1) := by decide +kernel
theorem dX11_back_121 : decode cX11_back 121 = .ok (.iconst 4, 1) := by decide +kernel
theorem dX11_back_122 : decode cX11_back 122 = .ok (.if_icmp .ge 21, 3) := by decide +kernel
theorem dX11_back_125 : decode cX11_back 125 = .ok (.aload_n 0, 1) := by decide +kernel
theorem dX11_back_126 : decode cX11_back 126 = .ok (.getfield 53, 3) := by decide +kernel
theorem dX11_back_129 : decode cX11_back 129 = .ok (.iload_n 1, 1) := by decide +kernel
theorem dX11_back_130 : decode cX11_back 130 = .ok (.aload_n 0, 1) := by decide +kernel
theorem dX11_back_131 : decode cX11_back 131 = .ok (.getfield 59, 3) := by decide +kernel
theorem dX11_back_134 : decode cX11_back 134 = .ok (.iload_n 1, 1) := by decide +kernel
theorem dX11_back_135 : decode cX11_back 135 = .ok (.iaload, 1) := by decide +kernel
theorem dX11_back_136 : decode cX11_back 136 = .ok (.iastore, 1) := by decide +kernel
theorem dX11_back_137 : decode cX11_back 137 = .ok (.iinc 1 1, 3) := by decide +kernel
theorem dX11_back_140 : decode cX11_back 140 = .ok (.goto (-20), 3) := by decide +kernel
theorem dX11_back_143 : decode cX11_back 143 = .ok (.aload_n 0, 1) := by decide +kernel
theorem dX11_back_144 : decode cX11_back 144 = .ok (.getfield 53, 3) := by decide +kernel
theorem dX11_back_147 : decode cX11_back 147 = .ok (.iconst 0, 1) := by decide +kernel
theorem dX11_back_148 : decode cX11_back 148 = .ok (.iaload, 1) := by decide +kernel
theorem dX11_back_149 : decode cX11_back 149 = .ok (.ireturn, 1) := by decide +kernel
def fX11_back_b120 : Nat → Int32 → mS → Option (Int32 × mS)
  | 0, _, _ => none
  | k + 1, y1, s =>
    if (nI 4) ≤ y1 then
      ldA s aX_ledNow 4 (nI 0) fun v6 =>
      some (v6, s)
    else
      ldA s aX_imageLed 4 y1 fun v7 =>
      stA s aX_ledNow 4 y1 v7 fun s8 =>
      bnd (y1 + (nI 1)) fun v9 =>
      fX11_back_b120 k v9 s8

def fX11_back_b76 : Nat → Int32 → mS → Option (Int32 × mS)
  | 0, _, _ => none
  | k + 1, y1, s =>
    if ((nI 3) * (gI s iX_imageWriters)) ≤ y1 then
      bnd (pI s iX_latest (gI s iX_imageLatest)) fun s4 =>
      bnd (nI 0) fun v5 =>
      fX11_back_b120 mFu v5 s4
    else
      ldA s aX_imageMay 56 ((nI 32) + y1) fun v10 =>
      stA s aX_may 65 ((nI 32) + y1) v10 fun s11 =>
      bnd (y1 + (nI 1)) fun v12 =>
      fX11_back_b76 k v12 s11

def fX11_back_b42 : Nat → Int32 → mS → Option (Int32 × mS)
  | 0, _, _ => none
  | k + 1, y1, s =>
    if (gI s iX_imageMachines) ≤ y1 then
      bnd (nI 0) fun v3 =>
      fX11_back_b76 mFu v3 s
    else
      ldA s aX_imageMay 56 ((nI 24) + y1) fun v13 =>
      stA s aX_may 65 ((nI 24) + y1) v13 fun s14 =>
      bnd (y1 + (nI 1)) fun v15 =>
      fX11_back_b42 k v15 s14

def fX11_back_b12 : Nat → Int32 → mS → Option (Int32 × mS)
  | 0, _, _ => none
  | k + 1, y1, s =>
    if ((nI 3) * (gI s iX_imageMachines)) ≤ y1 then
      bnd (nI 0) fun v2 =>
      fX11_back_b42 mFu v2 s
    else
      ldA s aX_imageMay 56 y1 fun v16 =>
      stA s aX_may 65 y1 v16 fun s17 =>
      bnd (y1 + (nI 1)) fun v18 =>
      fX11_back_b12 k v18 s17

def fX11_back (s : mS) : Option (Int32 × mS) :=
  if (gI s iX_isKept) = 0 then
    some ((-5), s)
  else
    bnd (nI 0) fun v1 =>
    fX11_back_b12 mFu v1 s

set_option maxRecDepth 20000 in
theorem wX11_back_b120 {ρ : mRo} {d : Nat} {P : mPo} {V : mS → List mE} (hV : mView LX V)  {res : (Int32 × mS)} (hP : P (some (.int res.1)) (V res.2)) : ∀ (k : Nat) (y1 : Int32) (s : mS), fX11_back_b120 k y1 s = some res → mG ρ (mC ρ d) 11 2 cX11_back (some .int) P 120 [(0, .ref qX), (1, .int y1)] [] (V s) := by
  intro k
  induction k with
  | zero => intro y1 s hf; rw [fX11_back_b120] at hf; cases hf
  | succ k ih =>
    intro y1 s hf
    rw [fX11_back_b120] at hf
    refine e_iload_n 1 dX11_back_120 rfl rfl ?_
    refine e_iconst (w := (nI 4)) dX11_back_121 (by decide) ?_
    refine e_icmp_ge 143 dX11_back_122 (by decide) hf (fun hf => ?_) (fun hf => ?_)
    · refine e_aload_n 0 dX11_back_143 rfl rfl ?_
      refine e_getr hV dX11_back_144 rfl lx_X rfl ?_
      refine e_iconst (w := (nI 0)) dX11_back_147 (by decide) ?_
      refine e_iald hV dX11_back_148 lx_X_ledNow hf (fun v6 hf => ?_)
      obtain rfl := Option.some.inj hf
      exact e_iret dX11_back_149 trivial hP
    · refine e_aload_n 0 dX11_back_125 rfl rfl ?_
      refine e_getr hV dX11_back_126 rfl lx_X rfl ?_
      refine e_iload_n 1 dX11_back_129 rfl rfl ?_
      refine e_aload_n 0 dX11_back_130 rfl rfl ?_
      refine e_getr hV dX11_back_131 rfl lx_X rfl ?_
      refine e_iload_n 1 dX11_back_134 rfl rfl ?_
      refine e_iald hV dX11_back_135 lx_X_imageLed hf (fun v7 hf => ?_)
      refine e_iast hV dX11_back_136 lx_X_ledNow hf (fun s8 hf => ?_)
      refine e_iinc 1 dX11_back_137 (by decide) rfl hf (fun v9 hf => ?_)
      refine e_goto 120 dX11_back_140 (by decide) ?_
      refine e_pick [1, 0] rfl ?_
      exact ih v9 s8 hf
set_option maxRecDepth 20000 in
theorem wX11_back_b76 {ρ : mRo} {d : Nat} {P : mPo} {V : mS → List mE} (hV : mView LX V)  {res : (Int32 × mS)} (hP : P (some (.int res.1)) (V res.2)) : ∀ (k : Nat) (y1 : Int32) (s : mS), fX11_back_b76 k y1 s = some res → mG ρ (mC ρ d) 11 2 cX11_back (some .int) P 76 [(0, .ref qX), (1, .int y1)] [] (V s) := by
  intro k
  induction k with
  | zero => intro y1 s hf; rw [fX11_back_b76] at hf; cases hf
  | succ k ih =>
    intro y1 s hf
    rw [fX11_back_b76] at hf
    refine e_iload_n 1 dX11_back_76 rfl rfl ?_
    refine e_iconst (w := (nI 3)) dX11_back_77 (by decide) ?_
    refine e_aload_n 0 dX11_back_78 rfl rfl ?_
    refine e_geti hV dX11_back_79 rfl lx_X rfl ?_
    refine e_imul dX11_back_82 ?_
    refine e_icmp_ge 110 dX11_back_83 (by decide) hf (fun hf => ?_) (fun hf => ?_)
    · refine e_aload_n 0 dX11_back_110 rfl rfl ?_
      refine e_aload_n 0 dX11_back_111 rfl rfl ?_
      refine e_geti hV dX11_back_112 rfl lx_X rfl ?_
      refine e_puti hV dX11_back_115 rfl rfl rfl (Or.inl rfl) lx_X rfl hf (fun s4 hf => ?_)
      refine e_iconst (w := (nI 0)) dX11_back_118 (by decide) ?_
      refine e_istore_n dX11_back_119 rfl (by decide) hf (fun v5 hf => ?_)
      refine e_pick [1, 0] rfl ?_
      exact wX11_back_b120 hV hP mFu v5 s4 hf
    · refine e_aload_n 0 dX11_back_86 rfl rfl ?_
      refine e_getr hV dX11_back_87 rfl lx_X rfl ?_
      refine e_bipush (w := (nI 32)) dX11_back_90 (by decide) ?_
      refine e_iload_n 1 dX11_back_92 rfl rfl ?_
      refine e_iadd dX11_back_93 ?_
      refine e_aload_n 0 dX11_back_94 rfl rfl ?_
      refine e_getr hV dX11_back_95 rfl lx_X rfl ?_
      refine e_bipush (w := (nI 32)) dX11_back_98 (by decide) ?_
      refine e_iload_n 1 dX11_back_100 rfl rfl ?_
      refine e_iadd dX11_back_101 ?_
      refine e_iald hV dX11_back_102 lx_X_imageMay hf (fun v10 hf => ?_)
      refine e_iast hV dX11_back_103 lx_X_may hf (fun s11 hf => ?_)
      refine e_iinc 1 dX11_back_104 (by decide) rfl hf (fun v12 hf => ?_)
      refine e_goto 76 dX11_back_107 (by decide) ?_
      refine e_pick [1, 0] rfl ?_
      exact ih v12 s11 hf
set_option maxRecDepth 20000 in
theorem wX11_back_b42 {ρ : mRo} {d : Nat} {P : mPo} {V : mS → List mE} (hV : mView LX V)  {res : (Int32 × mS)} (hP : P (some (.int res.1)) (V res.2)) : ∀ (k : Nat) (y1 : Int32) (s : mS), fX11_back_b42 k y1 s = some res → mG ρ (mC ρ d) 11 2 cX11_back (some .int) P 42 [(0, .ref qX), (1, .int y1)] [] (V s) := by
  intro k
  induction k with
  | zero => intro y1 s hf; rw [fX11_back_b42] at hf; cases hf
  | succ k ih =>
    intro y1 s hf
    rw [fX11_back_b42] at hf
    refine e_iload_n 1 dX11_back_42 rfl rfl ?_
    refine e_aload_n 0 dX11_back_43 rfl rfl ?_
    refine e_geti hV dX11_back_44 rfl lx_X rfl ?_
    refine e_icmp_ge 74 dX11_back_47 (by decide) hf (fun hf => ?_) (fun hf => ?_)
    · refine e_iconst (w := (nI 0)) dX11_back_74 (by decide) ?_
      refine e_istore_n dX11_back_75 rfl (by decide) hf (fun v3 hf => ?_)
      refine e_pick [1, 0] rfl ?_
      exact wX11_back_b76 hV hP mFu v3 s hf
    · refine e_aload_n 0 dX11_back_50 rfl rfl ?_
      refine e_getr hV dX11_back_51 rfl lx_X rfl ?_
      refine e_bipush (w := (nI 24)) dX11_back_54 (by decide) ?_
      refine e_iload_n 1 dX11_back_56 rfl rfl ?_
      refine e_iadd dX11_back_57 ?_
      refine e_aload_n 0 dX11_back_58 rfl rfl ?_
      refine e_getr hV dX11_back_59 rfl lx_X rfl ?_
      refine e_bipush (w := (nI 24)) dX11_back_62 (by decide) ?_
      refine e_iload_n 1 dX11_back_64 rfl rfl ?_
      refine e_iadd dX11_back_65 ?_
      refine e_iald hV dX11_back_66 lx_X_imageMay hf (fun v13 hf => ?_)
      refine e_iast hV dX11_back_67 lx_X_may hf (fun s14 hf => ?_)
      refine e_iinc 1 dX11_back_68 (by decide) rfl hf (fun v15 hf => ?_)
      refine e_goto 42 dX11_back_71 (by decide) ?_
      refine e_pick [1, 0] rfl ?_
      exact ih v15 s14 hf
set_option maxRecDepth 20000 in
theorem wX11_back_b12 {ρ : mRo} {d : Nat} {P : mPo} {V : mS → List mE} (hV : mView LX V)  {res : (Int32 × mS)} (hP : P (some (.int res.1)) (V res.2)) : ∀ (k : Nat) (y1 : Int32) (s : mS), fX11_back_b12 k y1 s = some res → mG ρ (mC ρ d) 11 2 cX11_back (some .int) P 12 [(0, .ref qX), (1, .int y1)] [] (V s) := by
  intro k
  induction k with
  | zero => intro y1 s hf; rw [fX11_back_b12] at hf; cases hf
  | succ k ih =>
    intro y1 s hf
    rw [fX11_back_b12] at hf
    refine e_iload_n 1 dX11_back_12 rfl rfl ?_
    refine e_iconst (w := (nI 3)) dX11_back_13 (by decide) ?_
    refine e_aload_n 0 dX11_back_14 rfl rfl ?_
    refine e_geti hV dX11_back_15 rfl lx_X rfl ?_
    refine e_imul dX11_back_18 ?_
    refine e_icmp_ge 40 dX11_back_19 (by decide) hf (fun hf => ?_) (fun hf => ?_)
    · refine e_iconst (w := (nI 0)) dX11_back_40 (by decide) ?_
      refine e_istore_n dX11_back_41 rfl (by decide) hf (fun v2 hf => ?_)
      refine e_pick [1, 0] rfl ?_
      exact wX11_back_b42 hV hP mFu v2 s hf
    · refine e_aload_n 0 dX11_back_22 rfl rfl ?_
      refine e_getr hV dX11_back_23 rfl lx_X rfl ?_
      refine e_iload_n 1 dX11_back_26 rfl rfl ?_
      refine e_aload_n 0 dX11_back_27 rfl rfl ?_
      refine e_getr hV dX11_back_28 rfl lx_X rfl ?_
      refine e_iload_n 1 dX11_back_31 rfl rfl ?_
      refine e_iald hV dX11_back_32 lx_X_imageMay hf (fun v16 hf => ?_)
      refine e_iast hV dX11_back_33 lx_X_may hf (fun s17 hf => ?_)
      refine e_iinc 1 dX11_back_34 (by decide) rfl hf (fun v18 hf => ?_)
      refine e_goto 12 dX11_back_37 (by decide) ?_
      refine e_pick [1, 0] rfl ?_
      exact ih v18 s17 hf
set_option maxRecDepth 20000 in
theorem tX11_back {ρ : mRo} {d : Nat} {P : mPo} {V : mS → List mE} (hV : mView LX V)  {s : mS} {res : (Int32 × mS)} (hf : fX11_back s = some res) (hP : P (some (.int res.1)) (V res.2)) : mC ρ (d + 1) 210 [.ref qX] (V s) P := by
  refine ⟨_, rfl, Nat.le_of_ble_eq_true rfl, by decide, ?_⟩
  show mG ρ (mC ρ d) 11 2 cX11_back (some .int) P 0 [(0, .ref qX)] [] (V s)
  unfold fX11_back at hf
  refine e_aload_n 0 dX11_back_0 rfl rfl ?_
  refine e_geti hV dX11_back_1 rfl lx_X rfl ?_
  refine e_if_ne 10 dX11_back_4 (by decide) hf (fun hf => ?_) (fun hf => ?_)
  · refine e_iconst (w := (nI 0)) dX11_back_10 (by decide) ?_
    refine e_istore_n dX11_back_11 rfl (by decide) hf (fun v1 hf => ?_)
    refine e_pick [1, 0] rfl ?_
    exact wX11_back_b12 hV hP mFu v1 s hf
  · refine e_bipush (w := (-5)) dX11_back_7 (by decide) ?_
    obtain rfl := Option.some.inj hf
    exact e_iret dX11_back_9 trivial hP

theorem dX11_isBody_0 : decode cX11_isBody 0 = .ok (.iload_n 1, 1) := by decide +kernel
theorem dX11_isBody_1 : decode cX11_isBody 1 = .ok (.i2l, 1) := by decide +kernel
theorem dX11_isBody_2 : decode cX11_isBody 2 = .ok (.lconst 0, 1) := by decide +kernel
theorem dX11_isBody_3 : decode cX11_isBody 3 = .ok (.aload_n 0, 1) := by decide +kernel
theorem dX11_isBody_4 : decode cX11_isBody 4 = .ok (.getfield 282, 3) := by decide +kernel
theorem dX11_isBody_7 : decode cX11_isBody 7 = .ok (.iconst 1, 1) := by decide +kernel
theorem dX11_isBody_8 : decode cX11_isBody 8 = .ok (.isub, 1) := by decide +kernel
theorem dX11_isBody_9 : decode cX11_isBody 9 = .ok (.i2l, 1) := by decide +kernel
theorem dX11_isBody_10 : decode cX11_isBody 10 = .ok (.invokestatic 93, 3) := by decide +kernel
theorem dX11_isBody_13 : decode cX11_isBody 13 = .ok (.ireturn, 1) := by decide +kernel
def fX11_isBody (x1 : Int32) (s : mS) : Option Int32 :=
  bO (fX11_within (Int32.toInt64 x1) 0 (Int32.toInt64 ((gI s iX_bodies) - (nI 1))) s) fun r1 =>
  rB r1 (some r1)

set_option maxRecDepth 20000 in
theorem tX11_isBody {ρ : mRo} {d : Nat} {P : mPo} {V : mS → List mE} (hV : mView LX V)  {x1 : Int32} {s : mS} {res : Int32} (hf : fX11_isBody x1 s = some res) (hP : P (some (.int res)) (V s)) : mC ρ (d + 2) 211 [.ref qX, .int x1] (V s) P := by
  refine ⟨_, rfl, Nat.le_of_ble_eq_true rfl, by decide, ?_⟩
  show mG ρ (mC ρ (d + 1)) 11 2 cX11_isBody (some .boolean) P 0 [(0, .ref qX), (1, .int x1)] [] (V s)
  unfold fX11_isBody at hf
  refine e_iload_n 1 dX11_isBody_0 rfl rfl ?_
  refine e_i2l dX11_isBody_1 ?_
  refine e_lconst (w := 0) dX11_isBody_2 (by decide) ?_
  refine e_aload_n 0 dX11_isBody_3 rfl rfl ?_
  refine e_geti hV dX11_isBody_4 rfl lx_X rfl ?_
  refine e_iconst (w := (nI 1)) dX11_isBody_7 (by decide) ?_
  refine e_isub dX11_isBody_8 ?_
  refine e_i2l dX11_isBody_9 ?_
  obtain ⟨r1, hg, hf⟩ := bO_some hf
  refine e_callS (as := [.long (Int32.toInt64 x1), .long 0, .long (Int32.toInt64 ((gI s iX_bodies) - (nI 1)))]) (v := (some (.int r1))) (s' := s) dX11_isBody_10 rfl rfl rfl rfl rfl (Nat.le_of_ble_eq_true rfl) (fun Q hQ => tX11_within (d := d) hV  hg hQ) ?_
  obtain ⟨hb0, hf⟩ := rB_some hf
  obtain rfl := Option.some.inj hf
  exact e_iret dX11_isBody_13 hb0 hP

theorem dX11_kindOf_0 : decode cX11_kindOf 0 = .ok (.aload_n 0, 1) := by decide +kernel
theorem dX11_kindOf_1 : decode cX11_kindOf 1 = .ok (.getfield 62, 3) := by decide +kernel
theorem dX11_kindOf_4 : decode cX11_kindOf 4 = .ok (.iload_n 1, 1) := by decide +kernel
theorem dX11_kindOf_5 : decode cX11_kindOf 5 = .ok (.iaload, 1) := by decide +kernel
theorem dX11_kindOf_6 : decode cX11_kindOf 6 = .ok (.ireturn, 1) := by decide +kernel
def fX11_kindOf (x1 : Int32) (s : mS) : Option Int32 :=
  ldA s aX_bodyKind 50 x1 fun v1 =>
  some v1

set_option maxRecDepth 20000 in
theorem tX11_kindOf {ρ : mRo} {d : Nat} {P : mPo} {V : mS → List mE} (hV : mView LX V)  {x1 : Int32} {s : mS} {res : Int32} (hf : fX11_kindOf x1 s = some res) (hP : P (some (.int res)) (V s)) : mC ρ (d + 1) 212 [.ref qX, .int x1] (V s) P := by
  refine ⟨_, rfl, Nat.le_of_ble_eq_true rfl, by decide, ?_⟩
  show mG ρ (mC ρ d) 11 2 cX11_kindOf (some .int) P 0 [(0, .ref qX), (1, .int x1)] [] (V s)
  unfold fX11_kindOf at hf
  refine e_aload_n 0 dX11_kindOf_0 rfl rfl ?_
  refine e_getr hV dX11_kindOf_1 rfl lx_X rfl ?_
  refine e_iload_n 1 dX11_kindOf_4 rfl rfl ?_
  refine e_iald hV dX11_kindOf_5 lx_X_bodyKind hf (fun v1 hf => ?_)
  obtain rfl := Option.some.inj hf
  exact e_iret dX11_kindOf_6 trivial hP

theorem dX11_body_0 : decode cX11_body 0 = .ok (.iload_n 1, 1) := by decide +kernel
theorem dX11_body_1 : decode cX11_body 1 = .ok (.i2l, 1) := by decide +kernel
theorem dX11_body_2 : decode cX11_body 2 = .ok (.lconst 0, 1) := by decide +kernel
theorem dX11_body_3 : decode cX11_body 3 = .ok (.ldc2_w 285, 3) := by decide +kernel
theorem dX11_body_6 : decode cX11_body 6 = .ok (.invokestatic 93, 3) := by decide +kernel
theorem dX11_body_9 : decode cX11_body 9 = .ok (.ifCond .ne 5, 3) := by decide +kernel
theorem dX11_body_12 : decode cX11_body 12 = .ok (.iconst (-1), 1) := by decide +kernel
theorem dX11_body_13 : decode cX11_body 13 = .ok (.ireturn, 1) := by decide +kernel
theorem dX11_body_14 : decode cX11_body 14 = .ok (.aload_n 0, 1) := by decide +kernel
theorem dX11_body_15 : decode cX11_body 15 = .ok (.getfield 282, 3) := by decide +kernel
theorem dX11_body_18 : decode cX11_body 18 = .ok (.bipush 50, 2) := by decide +kernel
theorem dX11_body_20 : decode cX11_body 20 = .ok (.if_icmp .ne 6, 3) := by decide +kernel
theorem dX11_body_23 : decode cX11_body 23 = .ok (.bipush (-3), 2) := by decide +kernel
theorem dX11_body_25 : decode cX11_body 25 = .ok (.ireturn, 1) := by decide +kernel
theorem dX11_body_26 : decode cX11_body 26 = .ok (.aload_n 0, 1) := by decide +kernel
theorem dX11_body_27 : decode cX11_body 27 = .ok (.getfield 62, 3) := by decide +kernel
theorem dX11_body_30 : decode cX11_body 30 = .ok (.aload_n 0, 1) := by decide +kernel
theorem dX11_body_31 : decode cX11_body 31 = .ok (.getfield 282, 3) := by decide +kernel
theorem dX11_body_34 : decode cX11_body 34 = .ok (.iload_n 1, 1) := by decide +kernel
theorem dX11_body_35 : decode cX11_body 35 = .ok (.iastore, 1) := by decide +kernel
theorem dX11_body_36 : decode cX11_body 36 = .ok (.aload_n 0, 1) := by decide +kernel
theorem dX11_body_37 : decode cX11_body 37 = .ok (.dup, 1) := by decide +kernel
theorem dX11_body_38 : decode cX11_body 38 = .ok (.getfield 282, 3) := by decide +kernel
theorem dX11_body_41 : decode cX11_body 41 = .ok (.iconst 1, 1) := by decide +kernel
theorem dX11_body_42 : decode cX11_body 42 = .ok (.iadd, 1) := by decide +kernel
theorem dX11_body_43 : decode cX11_body 43 = .ok (.putfield 282, 3) := by decide +kernel
theorem dX11_body_46 : decode cX11_body 46 = .ok (.aload_n 0, 1) := by decide +kernel
theorem dX11_body_47 : decode cX11_body 47 = .ok (.getfield 282, 3) := by decide +kernel
theorem dX11_body_50 : decode cX11_body 50 = .ok (.iconst 1, 1) := by decide +kernel
theorem dX11_body_51 : decode cX11_body 51 = .ok (.isub, 1) := by decide +kernel
theorem dX11_body_52 : decode cX11_body 52 = .ok (.ireturn, 1) := by decide +kernel
def fX11_body (x1 : Int32) (s : mS) : Option (Int32 × mS) :=
  bO (fX11_within (Int32.toInt64 x1) 0 7 s) fun r1 =>
  if r1 = 0 then
    some ((-1), s)
  else
    if (gI s iX_bodies) = (nI 50) then
      some ((-3), s)
    else
      stA s aX_bodyKind 50 (gI s iX_bodies) x1 fun s2 =>
      bnd (pI s2 iX_bodies ((gI s2 iX_bodies) + (nI 1))) fun s3 =>
      some ((gI s3 iX_bodies) - (nI 1), s3)

set_option maxRecDepth 20000 in
theorem tX11_body {ρ : mRo} {d : Nat} {P : mPo} {V : mS → List mE} (hV : mView LX V)  {x1 : Int32} {s : mS} {res : (Int32 × mS)} (hf : fX11_body x1 s = some res) (hP : P (some (.int res.1)) (V res.2)) : mC ρ (d + 2) 213 [.ref qX, .int x1] (V s) P := by
  refine ⟨_, rfl, Nat.le_of_ble_eq_true rfl, by decide, ?_⟩
  show mG ρ (mC ρ (d + 1)) 11 2 cX11_body (some .int) P 0 [(0, .ref qX), (1, .int x1)] [] (V s)
  unfold fX11_body at hf
  refine e_iload_n 1 dX11_body_0 rfl rfl ?_
  refine e_i2l dX11_body_1 ?_
  refine e_lconst (w := 0) dX11_body_2 (by decide) ?_
  refine e_ldc2_w (w := 7) dX11_body_3 rfl ?_
  obtain ⟨r1, hg, hf⟩ := bO_some hf
  refine e_callS (as := [.long (Int32.toInt64 x1), .long 0, .long 7]) (v := (some (.int r1))) (s' := s) dX11_body_6 rfl rfl rfl rfl rfl (Nat.le_of_ble_eq_true rfl) (fun Q hQ => tX11_within (d := d) hV  hg hQ) ?_
  refine e_if_ne 14 dX11_body_9 (by decide) hf (fun hf => ?_) (fun hf => ?_)
  · refine e_aload_n 0 dX11_body_14 rfl rfl ?_
    refine e_geti hV dX11_body_15 rfl lx_X rfl ?_
    refine e_bipush (w := (nI 50)) dX11_body_18 (by decide) ?_
    refine e_icmp_ne 26 dX11_body_20 (by decide) hf (fun hf => ?_) (fun hf => ?_)
    · refine e_aload_n 0 dX11_body_26 rfl rfl ?_
      refine e_getr hV dX11_body_27 rfl lx_X rfl ?_
      refine e_aload_n 0 dX11_body_30 rfl rfl ?_
      refine e_geti hV dX11_body_31 rfl lx_X rfl ?_
      refine e_iload_n 1 dX11_body_34 rfl rfl ?_
      refine e_iast hV dX11_body_35 lx_X_bodyKind hf (fun s2 hf => ?_)
      refine e_aload_n 0 dX11_body_36 rfl rfl ?_
      refine e_dup dX11_body_37 rfl ?_
      refine e_geti hV dX11_body_38 rfl lx_X rfl ?_
      refine e_iconst (w := (nI 1)) dX11_body_41 (by decide) ?_
      refine e_iadd dX11_body_42 ?_
      refine e_puti hV dX11_body_43 rfl rfl rfl (Or.inl rfl) lx_X rfl hf (fun s3 hf => ?_)
      refine e_aload_n 0 dX11_body_46 rfl rfl ?_
      refine e_geti hV dX11_body_47 rfl lx_X rfl ?_
      refine e_iconst (w := (nI 1)) dX11_body_50 (by decide) ?_
      refine e_isub dX11_body_51 ?_
      obtain rfl := Option.some.inj hf
      exact e_iret dX11_body_52 trivial hP
    · refine e_bipush (w := (-3)) dX11_body_23 (by decide) ?_
      obtain rfl := Option.some.inj hf
      exact e_iret dX11_body_25 trivial hP
  · refine e_iconst (w := (-1)) dX11_body_12 (by decide) ?_
    obtain rfl := Option.some.inj hf
    exact e_iret dX11_body_13 trivial hP

theorem dX11_above_0 : decode cX11_above 0 = .ok (.iload_n 0, 1) := by decide +kernel
theorem dX11_above_1 : decode cX11_above 1 = .ok (.iconst 3, 1) := by decide +kernel
theorem dX11_above_2 : decode cX11_above 2 = .ok (.if_icmp .ne 7, 3) := by decide +kernel
theorem dX11_above_5 : decode cX11_above 5 = .ok (.iconst 2, 1) := by decide +kernel
theorem dX11_above_6 : decode cX11_above 6 = .ok (.goto 32, 3) := by decide +kernel
theorem dX11_above_9 : decode cX11_above 9 = .ok (.iload_n 0, 1) := by decide +kernel
theorem dX11_above_10 : decode cX11_above 10 = .ok (.iconst 4, 1) := by decide +kernel
theorem dX11_above_11 : decode cX11_above 11 = .ok (.if_icmp .ne 7, 3) := by decide +kernel
theorem dX11_above_14 : decode cX11_above 14 = .ok (.iconst 1, 1) := by decide +kernel
theorem dX11_above_15 : decode cX11_above 15 = .ok (.goto 23, 3) := by decide +kernel
theorem dX11_above_18 : decode cX11_above 18 = .ok (.iload_n 0, 1) := by decide +kernel
theorem dX11_above_19 : decode cX11_above 19 = .ok (.iconst 5, 1) := by decide +kernel
theorem dX11_above_20 : decode cX11_above 20 = .ok (.if_icmp .ne 7, 3) := by decide +kernel
theorem dX11_above_23 : decode cX11_above 23 = .ok (.iconst 3, 1) := by decide +kernel
theorem dX11_above_24 : decode cX11_above 24 = .ok (.goto 14, 3) := by decide +kernel
theorem dX11_above_27 : decode cX11_above 27 = .ok (.iload_n 0, 1) := by decide +kernel
theorem dX11_above_28 : decode cX11_above 28 = .ok (.bipush 7, 2) := by decide +kernel
theorem dX11_above_30 : decode cX11_above 30 = .ok (.if_icmp .ne 7, 3) := by decide +kernel
theorem dX11_above_33 : decode cX11_above 33 = .ok (.iconst 4, 1) := by decide +kernel
theorem dX11_above_34 : decode cX11_above 34 = .ok (.goto 4, 3) := by decide +kernel
theorem dX11_above_37 : decode cX11_above 37 = .ok (.iconst 0, 1) := by decide +kernel
theorem dX11_above_38 : decode cX11_above 38 = .ok (.ireturn, 1) := by decide +kernel
def fX11_above (x0 : Int32) (s : mS) : Option Int32 :=
  if x0 = (nI 3) then
    some (nI 2)
  else
    if x0 = (nI 4) then
      some (nI 1)
    else
      if x0 = (nI 5) then
        some (nI 3)
      else
        if x0 = (nI 7) then
          some (nI 4)
        else
          some (nI 0)

set_option maxRecDepth 20000 in
theorem tX11_above {ρ : mRo} {d : Nat} {P : mPo} {V : mS → List mE} (hV : mView LX V)  {x0 : Int32} {s : mS} {res : Int32} (hf : fX11_above x0 s = some res) (hP : P (some (.int res)) (V s)) : mC ρ (d + 1) 214 [.int x0] (V s) P := by
  refine ⟨_, rfl, Nat.le_of_ble_eq_true rfl, by decide, ?_⟩
  show mG ρ (mC ρ d) 11 1 cX11_above (some .int) P 0 [(0, .int x0)] [] (V s)
  unfold fX11_above at hf
  refine e_iload_n 0 dX11_above_0 rfl rfl ?_
  refine e_iconst (w := (nI 3)) dX11_above_1 (by decide) ?_
  refine e_icmp_ne 9 dX11_above_2 (by decide) hf (fun hf => ?_) (fun hf => ?_)
  · refine e_iload_n 0 dX11_above_9 rfl rfl ?_
    refine e_iconst (w := (nI 4)) dX11_above_10 (by decide) ?_
    refine e_icmp_ne 18 dX11_above_11 (by decide) hf (fun hf => ?_) (fun hf => ?_)
    · refine e_iload_n 0 dX11_above_18 rfl rfl ?_
      refine e_iconst (w := (nI 5)) dX11_above_19 (by decide) ?_
      refine e_icmp_ne 27 dX11_above_20 (by decide) hf (fun hf => ?_) (fun hf => ?_)
      · refine e_iload_n 0 dX11_above_27 rfl rfl ?_
        refine e_bipush (w := (nI 7)) dX11_above_28 (by decide) ?_
        refine e_icmp_ne 37 dX11_above_30 (by decide) hf (fun hf => ?_) (fun hf => ?_)
        · refine e_iconst (w := (nI 0)) dX11_above_37 (by decide) ?_
          obtain rfl := Option.some.inj hf
          exact e_iret dX11_above_38 trivial hP
        · refine e_iconst (w := (nI 4)) dX11_above_33 (by decide) ?_
          refine e_goto 38 dX11_above_34 (by decide) ?_
          obtain rfl := Option.some.inj hf
          exact e_iret dX11_above_38 trivial hP
      · refine e_iconst (w := (nI 3)) dX11_above_23 (by decide) ?_
        refine e_goto 38 dX11_above_24 (by decide) ?_
        obtain rfl := Option.some.inj hf
        exact e_iret dX11_above_38 trivial hP
    · refine e_iconst (w := (nI 1)) dX11_above_14 (by decide) ?_
      refine e_goto 38 dX11_above_15 (by decide) ?_
      obtain rfl := Option.some.inj hf
      exact e_iret dX11_above_38 trivial hP
  · refine e_iconst (w := (nI 2)) dX11_above_5 (by decide) ?_
    refine e_goto 38 dX11_above_6 (by decide) ?_
    obtain rfl := Option.some.inj hf
    exact e_iret dX11_above_38 trivial hP

theorem dX11_runs_0 : decode cX11_runs 0 = .ok (.aload_n 0, 1) := by decide +kernel
theorem dX11_runs_1 : decode cX11_runs 1 = .ok (.getfield 287, 3) := by decide +kernel
theorem dX11_runs_4 : decode cX11_runs 4 = .ok (.bipush 24, 2) := by decide +kernel
theorem dX11_runs_6 : decode cX11_runs 6 = .ok (.if_icmp .ge 13, 3) := by decide +kernel
theorem dX11_runs_9 : decode cX11_runs 9 = .ok (.aload_n 0, 1) := by decide +kernel
theorem dX11_runs_10 : decode cX11_runs 10 = .ok (.getfield 65, 3) := by decide +kernel
theorem dX11_runs_13 : decode cX11_runs 13 = .ok (.aload_n 0, 1) := by decide +kernel
theorem dX11_runs_14 : decode cX11_runs 14 = .ok (.getfield 287, 3) := by decide +kernel
theorem dX11_runs_17 : decode cX11_runs 17 = .ok (.iload_n 1, 1) := by decide +kernel
theorem dX11_runs_18 : decode cX11_runs 18 = .ok (.iastore, 1) := by decide +kernel
theorem dX11_runs_19 : decode cX11_runs 19 = .ok (.aload_n 0, 1) := by decide +kernel
theorem dX11_runs_20 : decode cX11_runs 20 = .ok (.dup, 1) := by decide +kernel
theorem dX11_runs_21 : decode cX11_runs 21 = .ok (.getfield 287, 3) := by decide +kernel
theorem dX11_runs_24 : decode cX11_runs 24 = .ok (.iconst 1, 1) := by decide +kernel
theorem dX11_runs_25 : decode cX11_runs 25 = .ok (.iadd, 1) := by decide +kernel
theorem dX11_runs_26 : decode cX11_runs 26 = .ok (.putfield 287, 3) := by decide +kernel
theorem dX11_runs_29 : decode cX11_runs 29 = .ok (.return_, 1) := by decide +kernel
def fX11_runs_b19 (s : mS) : Option mS :=
  bnd (pI s iX_ran ((gI s iX_ran) + (nI 1))) fun s1 =>
  some s1

def fX11_runs (x1 : Int32) (s : mS) : Option mS :=
  if (nI 24) ≤ (gI s iX_ran) then
    fX11_runs_b19 s
  else
    stA s aX_trace 24 (gI s iX_ran) x1 fun s2 =>
    fX11_runs_b19 s2

set_option maxRecDepth 20000 in
theorem wX11_runs_b19 {ρ : mRo} {d : Nat} {P : mPo} {V : mS → List mE} (hV : mView LX V)  {res : mS} (hP : P none (V res)) (s : mS) (hf : fX11_runs_b19 s = some res) : mG ρ (mC ρ d) 11 2 cX11_runs none P 19 [(0, .ref qX)] [] (V s) := by
  unfold fX11_runs_b19 at hf
  refine e_aload_n 0 dX11_runs_19 rfl rfl ?_
  refine e_dup dX11_runs_20 rfl ?_
  refine e_geti hV dX11_runs_21 rfl lx_X rfl ?_
  refine e_iconst (w := (nI 1)) dX11_runs_24 (by decide) ?_
  refine e_iadd dX11_runs_25 ?_
  refine e_puti hV dX11_runs_26 rfl rfl rfl (Or.inl rfl) lx_X rfl hf (fun s1 hf => ?_)
  obtain rfl := Option.some.inj hf
  exact e_ret dX11_runs_29 rfl hP
set_option maxRecDepth 20000 in
theorem tX11_runs {ρ : mRo} {d : Nat} {P : mPo} {V : mS → List mE} (hV : mView LX V)  {x1 : Int32} {s : mS} {res : mS} (hf : fX11_runs x1 s = some res) (hP : P none (V res)) : mC ρ (d + 1) 215 [.ref qX, .int x1] (V s) P := by
  refine ⟨_, rfl, Nat.le_of_ble_eq_true rfl, by decide, ?_⟩
  show mG ρ (mC ρ d) 11 2 cX11_runs none P 0 [(0, .ref qX), (1, .int x1)] [] (V s)
  unfold fX11_runs at hf
  refine e_aload_n 0 dX11_runs_0 rfl rfl ?_
  refine e_geti hV dX11_runs_1 rfl lx_X rfl ?_
  refine e_bipush (w := (nI 24)) dX11_runs_4 (by decide) ?_
  refine e_icmp_ge 19 dX11_runs_6 (by decide) hf (fun hf => ?_) (fun hf => ?_)
  · refine e_pick [0] rfl ?_
    exact wX11_runs_b19 hV hP s hf
  · refine e_aload_n 0 dX11_runs_9 rfl rfl ?_
    refine e_getr hV dX11_runs_10 rfl lx_X rfl ?_
    refine e_aload_n 0 dX11_runs_13 rfl rfl ?_
    refine e_geti hV dX11_runs_14 rfl lx_X rfl ?_
    refine e_iload_n 1 dX11_runs_17 rfl rfl ?_
    refine e_iast hV dX11_runs_18 lx_X_trace hf (fun s2 hf => ?_)
    refine e_pick [0] rfl ?_
    exact wX11_runs_b19 hV hP s2 hf

theorem dX11_typesAs_0 : decode cX11_typesAs 0 = .ok (.iload_n 1, 1) := by decide +kernel
theorem dX11_typesAs_1 : decode cX11_typesAs 1 = .ok (.iconst 1, 1) := by decide +kernel
theorem dX11_typesAs_2 : decode cX11_typesAs 2 = .ok (.if_icmp .eq 14, 3) := by decide +kernel
theorem dX11_typesAs_5 : decode cX11_typesAs 5 = .ok (.iload_n 1, 1) := by decide +kernel
theorem dX11_typesAs_6 : decode cX11_typesAs 6 = .ok (.iconst 4, 1) := by decide +kernel
theorem dX11_typesAs_7 : decode cX11_typesAs 7 = .ok (.if_icmp .eq 9, 3) := by decide +kernel
theorem dX11_typesAs_10 : decode cX11_typesAs 10 = .ok (.iload_n 1, 1) := by decide +kernel
theorem dX11_typesAs_11 : decode cX11_typesAs 11 = .ok (.bipush 7, 2) := by decide +kernel
theorem dX11_typesAs_13 : decode cX11_typesAs 13 = .ok (.if_icmp .ne 18, 3) := by decide +kernel
theorem dX11_typesAs_16 : decode cX11_typesAs 16 = .ok (.aload_n 0, 1) := by decide +kernel
theorem dX11_typesAs_17 : decode cX11_typesAs 17 = .ok (.bipush 20, 2) := by decide +kernel
theorem dX11_typesAs_19 : decode cX11_typesAs 19 = .ok (.invokevirtual 290, 3) := by decide +kernel
theorem dX11_typesAs_22 : decode cX11_typesAs 22 = .ok (.aload_n 0, 1) := by decide +kernel
theorem dX11_typesAs_23 : decode cX11_typesAs 23 = .ok (.iconst 0, 1) := by decide +kernel
theorem dX11_typesAs_24 : decode cX11_typesAs 24 = .ok (.iload_n 2, 1) := by decide +kernel
theorem dX11_typesAs_25 : decode cX11_typesAs 25 = .ok (.invokevirtual 294, 3) := by decide +kernel
theorem dX11_typesAs_28 : decode cX11_typesAs 28 = .ok (.iconst 3, 1) := by decide +kernel
theorem dX11_typesAs_29 : decode cX11_typesAs 29 = .ok (.iadd, 1) := by decide +kernel
theorem dX11_typesAs_30 : decode cX11_typesAs 30 = .ok (.ireturn, 1) := by decide +kernel
theorem dX11_typesAs_31 : decode cX11_typesAs 31 = .ok (.iload_n 1, 1) := by decide +kernel
theorem dX11_typesAs_32 : decode cX11_typesAs 32 = .ok (.bipush 6, 2) := by decide +kernel
theorem dX11_typesAs_34 : decode cX11_typesAs 34 = .ok (.if_icmp .ne 18, 3) := by decide +kernel
theorem dX11_typesAs_37 : decode cX11_typesAs 37 = .ok (.aload_n 0, 1) := by decide +kernel
theorem dX11_typesAs_38 : decode cX11_typesAs 38 = .ok (.bipush 70, 2) := by decide +kernel
theorem dX11_typesAs_40 : decode cX11_typesAs 40 = .ok (.invokevirtual 290, 3) := by decide +kernel
theorem dX11_typesAs_43 : decode cX11_typesAs 43 = .ok (.aload_n 0, 1) := by decide +kernel
theorem dX11_typesAs_44 : decode cX11_typesAs 44 = .ok (.iconst 0, 1) := by decide +kernel
theorem dX11_typesAs_45 : decode cX11_typesAs 45 = .ok (.iload_n 2, 1) := by decide +kernel
theorem dX11_typesAs_46 : decode cX11_typesAs 46 = .ok (.invokevirtual 294, 3) := by decide +kernel
theorem dX11_typesAs_49 : decode cX11_typesAs 49 = .ok (.iconst 2, 1) := by decide +kernel
theorem dX11_typesAs_50 : decode cX11_typesAs 50 = .ok (.imul, 1) := by decide +kernel
theorem dX11_typesAs_51 : decode cX11_typesAs 51 = .ok (.ireturn, 1) := by decide +kernel
theorem dX11_typesAs_52 : decode cX11_typesAs 52 = .ok (.aload_n 0, 1) := by decide +kernel
theorem dX11_typesAs_53 : decode cX11_typesAs 53 = .ok (.iconst 1, 1) := by decide +kernel
theorem dX11_typesAs_54 : decode cX11_typesAs 54 = .ok (.invokevirtual 290, 3) := by decide +kernel
theorem dX11_typesAs_57 : decode cX11_typesAs 57 = .ok (.iload_n 2, 1) := by decide +kernel
theorem dX11_typesAs_58 : decode cX11_typesAs 58 = .ok (.aload_n 0, 1) := by decide +kernel
theorem dX11_typesAs_59 : decode cX11_typesAs 59 = .ok (.getfield 297, 3) := by decide +kernel
theorem dX11_typesAs_62 : decode cX11_typesAs 62 = .ok (.iadd, 1) := by decide +kernel
theorem dX11_typesAs_63 : decode cX11_typesAs 63 = .ok (.ireturn, 1) := by decide +kernel
def gX11_typesAs_b16 (R0 : Int32 → Int32 → mS → Option (Int32 × mS)) (y2 : Int32) (s : mS) : Option (Int32 × mS) :=
  bO (fX11_runs (nI 20) s) fun s1 =>
  bP (R0 (nI 0) y2 s1) fun r2 s3 =>
  some (r2 + (nI 3), s3)

def gX11_typesAs (R0 : Int32 → Int32 → mS → Option (Int32 × mS)) (x1 : Int32) (x2 : Int32) (s : mS) : Option (Int32 × mS) :=
  if x1 = (nI 1) then
    gX11_typesAs_b16 R0 x2 s
  else
    if x1 = (nI 4) then
      gX11_typesAs_b16 R0 x2 s
    else
      if x1 = (nI 7) then
        gX11_typesAs_b16 R0 x2 s
      else
        if x1 = (nI 6) then
          bO (fX11_runs (nI 70) s) fun s5 =>
          bP (R0 (nI 0) x2 s5) fun r6 s7 =>
          some (r6 * (nI 2), s7)
        else
          bO (fX11_runs (nI 1) s) fun s4 =>
          some (x2 + (gI s4 iX_ownNumber), s4)

set_option maxRecDepth 20000 in
theorem wX11_typesAs_b16 {ρ : mRo} {n d : Nat} {P : mPo} {V : mS → List mE} (hV : mView LX V) {R0 : Int32 → Int32 → mS → Option (Int32 × mS)} (hR0 : ∀ {x1 x2 : Int32} {s : mS} {res : (Int32 × mS)} {Q : mPo}, R0 x1 x2 s = some res → Q (some (.int res.1)) (V res.2) → mC ρ (n + d + 1) 216 [.ref qX, .int x1, .int x2] (V s) Q)  {res : (Int32 × mS)} (hP : P (some (.int res.1)) (V res.2)) (y2 : Int32) (s : mS) (hf : gX11_typesAs_b16 R0 y2 s = some res) : mG ρ (mC ρ (n + d + 1)) 11 3 cX11_typesAs (some .int) P 16 [(0, .ref qX), (2, .int y2)] [] (V s) := by
  unfold gX11_typesAs_b16 at hf
  refine e_aload_n 0 dX11_typesAs_16 rfl rfl ?_
  refine e_bipush (w := (nI 20)) dX11_typesAs_17 (by decide) ?_
  obtain ⟨s1, hg, hf⟩ := bO_some hf
  refine e_callV (as := [.int (nI 20)]) (v := none) (s' := s1) hV dX11_typesAs_19 (Or.inl rfl) rfl rfl rfl rfl (Nat.le_of_ble_eq_true rfl) lx_X rfl rfl (fun Q hQ => tX11_runs (d := (n + d)) hV  hg hQ) ?_
  refine e_aload_n 0 dX11_typesAs_22 rfl rfl ?_
  refine e_iconst (w := (nI 0)) dX11_typesAs_23 (by decide) ?_
  refine e_iload_n 1 dX11_typesAs_24 rfl rfl ?_
  obtain ⟨r2, s3, hg, hf⟩ := bP_some hf
  refine e_callV (as := [.int (nI 0), .int y2]) (v := (some (.int r2))) (s' := s3) hV dX11_typesAs_25 (Or.inl rfl) rfl rfl rfl rfl (Nat.le_of_ble_eq_true rfl) lx_X rfl rfl (fun Q hQ => hR0 hg hQ) ?_
  refine e_iconst (w := (nI 3)) dX11_typesAs_28 (by decide) ?_
  refine e_iadd dX11_typesAs_29 ?_
  obtain rfl := Option.some.inj hf
  exact e_iret dX11_typesAs_30 trivial hP
set_option maxRecDepth 20000 in
theorem uX11_typesAs {ρ : mRo} {n d : Nat} {P : mPo} {V : mS → List mE} (hV : mView LX V) {R0 : Int32 → Int32 → mS → Option (Int32 × mS)} (hR0 : ∀ {x1 x2 : Int32} {s : mS} {res : (Int32 × mS)} {Q : mPo}, R0 x1 x2 s = some res → Q (some (.int res.1)) (V res.2) → mC ρ (n + d + 1) 216 [.ref qX, .int x1, .int x2] (V s) Q)  {x1 : Int32} {x2 : Int32} {s : mS} {res : (Int32 × mS)} (hf : gX11_typesAs R0 x1 x2 s = some res) (hP : P (some (.int res.1)) (V res.2)) : mC ρ (n + d + 1 + 1) 216 [.ref qX, .int x1, .int x2] (V s) P := by
  refine ⟨_, rfl, Nat.le_of_ble_eq_true rfl, by decide, ?_⟩
  show mG ρ (mC ρ (n + d + 1)) 11 3 cX11_typesAs (some .int) P 0 [(0, .ref qX), (1, .int x1), (2, .int x2)] [] (V s)
  unfold gX11_typesAs at hf
  refine e_iload_n 1 dX11_typesAs_0 rfl rfl ?_
  refine e_iconst (w := (nI 1)) dX11_typesAs_1 (by decide) ?_
  refine e_icmp_eq 16 dX11_typesAs_2 (by decide) hf (fun hf => ?_) (fun hf => ?_)
  · refine e_pick [0, 2] rfl ?_
    exact wX11_typesAs_b16 hV hR0 hP x2 s hf
  · refine e_iload_n 1 dX11_typesAs_5 rfl rfl ?_
    refine e_iconst (w := (nI 4)) dX11_typesAs_6 (by decide) ?_
    refine e_icmp_eq 16 dX11_typesAs_7 (by decide) hf (fun hf => ?_) (fun hf => ?_)
    · refine e_pick [0, 2] rfl ?_
      exact wX11_typesAs_b16 hV hR0 hP x2 s hf
    · refine e_iload_n 1 dX11_typesAs_10 rfl rfl ?_
      refine e_bipush (w := (nI 7)) dX11_typesAs_11 (by decide) ?_
      refine e_icmp_ne 31 dX11_typesAs_13 (by decide) hf (fun hf => ?_) (fun hf => ?_)
      · refine e_iload_n 1 dX11_typesAs_31 rfl rfl ?_
        refine e_bipush (w := (nI 6)) dX11_typesAs_32 (by decide) ?_
        refine e_icmp_ne 52 dX11_typesAs_34 (by decide) hf (fun hf => ?_) (fun hf => ?_)
        · refine e_aload_n 0 dX11_typesAs_52 rfl rfl ?_
          refine e_iconst (w := (nI 1)) dX11_typesAs_53 (by decide) ?_
          obtain ⟨s4, hg, hf⟩ := bO_some hf
          refine e_callV (as := [.int (nI 1)]) (v := none) (s' := s4) hV dX11_typesAs_54 (Or.inl rfl) rfl rfl rfl rfl (Nat.le_of_ble_eq_true rfl) lx_X rfl rfl (fun Q hQ => tX11_runs (d := (n + d)) hV  hg hQ) ?_
          refine e_iload_n 2 dX11_typesAs_57 rfl rfl ?_
          refine e_aload_n 0 dX11_typesAs_58 rfl rfl ?_
          refine e_geti hV dX11_typesAs_59 rfl lx_X rfl ?_
          refine e_iadd dX11_typesAs_62 ?_
          obtain rfl := Option.some.inj hf
          exact e_iret dX11_typesAs_63 trivial hP
        · refine e_aload_n 0 dX11_typesAs_37 rfl rfl ?_
          refine e_bipush (w := (nI 70)) dX11_typesAs_38 (by decide) ?_
          obtain ⟨s5, hg, hf⟩ := bO_some hf
          refine e_callV (as := [.int (nI 70)]) (v := none) (s' := s5) hV dX11_typesAs_40 (Or.inl rfl) rfl rfl rfl rfl (Nat.le_of_ble_eq_true rfl) lx_X rfl rfl (fun Q hQ => tX11_runs (d := (n + d)) hV  hg hQ) ?_
          refine e_aload_n 0 dX11_typesAs_43 rfl rfl ?_
          refine e_iconst (w := (nI 0)) dX11_typesAs_44 (by decide) ?_
          refine e_iload_n 2 dX11_typesAs_45 rfl rfl ?_
          obtain ⟨r6, s7, hg, hf⟩ := bP_some hf
          refine e_callV (as := [.int (nI 0), .int x2]) (v := (some (.int r6))) (s' := s7) hV dX11_typesAs_46 (Or.inl rfl) rfl rfl rfl rfl (Nat.le_of_ble_eq_true rfl) lx_X rfl rfl (fun Q hQ => hR0 hg hQ) ?_
          refine e_iconst (w := (nI 2)) dX11_typesAs_49 (by decide) ?_
          refine e_imul dX11_typesAs_50 ?_
          obtain rfl := Option.some.inj hf
          exact e_iret dX11_typesAs_51 trivial hP
      · refine e_pick [0, 2] rfl ?_
        exact wX11_typesAs_b16 hV hR0 hP x2 s hf

def sccX11_typesAs : Nat → (Int32 → Int32 → mS → Option (Int32 × mS))
  | 0 => (fun _ _ _ => none)
  | n + 1 => (gX11_typesAs (sccX11_typesAs n))
theorem tsccX11_typesAs {ρ : mRo} {d : Nat} {V : mS → List mE} (hV : mView LX V) : ∀ n : Nat, (∀ {x1 x2 : Int32} {s : mS} {res : (Int32 × mS)} {Q : mPo}, sccX11_typesAs n x1 x2 s = some res → Q (some (.int res.1)) (V res.2) → mC ρ (n + d + 1) 216 [.ref qX, .int x1, .int x2] (V s) Q) := by
  intro n
  induction n with
  | zero => exact (fun hf _ => nomatch hf)
  | succ n ih =>
    rw [show n + 1 + d + 1 = n + d + 1 + 1 by omega]
    exact (fun hf hP => uX11_typesAs hV ih hf hP)
def fX11_typesAs (x1 : Int32) (x2 : Int32) (s : mS) : Option (Int32 × mS) := sccX11_typesAs 60 x1 x2 s
theorem tX11_typesAs {ρ : mRo} {d : Nat} {P : mPo} {V : mS → List mE} (hV : mView LX V) {x1 : Int32} {x2 : Int32} {s : mS} {res : (Int32 × mS)} (hf : fX11_typesAs x1 x2 s = some res) (hP : P (some (.int res.1)) (V res.2)) : mC ρ (d + 61) 216 [.ref qX, .int x1, .int x2] (V s) P := by
  rw [show d + 61 = 60 + d + 1 by omega]
  exact (tsccX11_typesAs hV 60) hf hP

theorem dX11_ringsAs_0 : decode cX11_ringsAs 0 = .ok (.iload_n 1, 1) := by decide +kernel
theorem dX11_ringsAs_1 : decode cX11_ringsAs 1 = .ok (.iconst 3, 1) := by decide +kernel
theorem dX11_ringsAs_2 : decode cX11_ringsAs 2 = .ok (.if_icmp .eq 8, 3) := by decide +kernel
theorem dX11_ringsAs_5 : decode cX11_ringsAs 5 = .ok (.iload_n 1, 1) := by decide +kernel
theorem dX11_ringsAs_6 : decode cX11_ringsAs 6 = .ok (.iconst 5, 1) := by decide +kernel
theorem dX11_ringsAs_7 : decode cX11_ringsAs 7 = .ok (.if_icmp .ne 18, 3) := by decide +kernel
theorem dX11_ringsAs_10 : decode cX11_ringsAs 10 = .ok (.aload_n 0, 1) := by decide +kernel
theorem dX11_ringsAs_11 : decode cX11_ringsAs 11 = .ok (.bipush 40, 2) := by decide +kernel
theorem dX11_ringsAs_13 : decode cX11_ringsAs 13 = .ok (.invokevirtual 290, 3) := by decide +kernel
theorem dX11_ringsAs_16 : decode cX11_ringsAs 16 = .ok (.aload_n 0, 1) := by decide +kernel
theorem dX11_ringsAs_17 : decode cX11_ringsAs 17 = .ok (.iconst 2, 1) := by decide +kernel
theorem dX11_ringsAs_18 : decode cX11_ringsAs 18 = .ok (.iload_n 2, 1) := by decide +kernel
theorem dX11_ringsAs_19 : decode cX11_ringsAs 19 = .ok (.invokevirtual 306, 3) := by decide +kernel
theorem dX11_ringsAs_22 : decode cX11_ringsAs 22 = .ok (.iconst 3, 1) := by decide +kernel
theorem dX11_ringsAs_23 : decode cX11_ringsAs 23 = .ok (.imul, 1) := by decide +kernel
theorem dX11_ringsAs_24 : decode cX11_ringsAs 24 = .ok (.ireturn, 1) := by decide +kernel
theorem dX11_ringsAs_25 : decode cX11_ringsAs 25 = .ok (.iload_n 1, 1) := by decide +kernel
theorem dX11_ringsAs_26 : decode cX11_ringsAs 26 = .ok (.iconst 4, 1) := by decide +kernel
theorem dX11_ringsAs_27 : decode cX11_ringsAs 27 = .ok (.if_icmp .eq 9, 3) := by decide +kernel
theorem dX11_ringsAs_30 : decode cX11_ringsAs 30 = .ok (.iload_n 1, 1) := by decide +kernel
theorem dX11_ringsAs_31 : decode cX11_ringsAs 31 = .ok (.bipush 7, 2) := by decide +kernel
theorem dX11_ringsAs_33 : decode cX11_ringsAs 33 = .ok (.if_icmp .ne 28, 3) := by decide +kernel
theorem dX11_ringsAs_36 : decode cX11_ringsAs 36 = .ok (.aload_n 0, 1) := by decide +kernel
theorem dX11_ringsAs_37 : decode cX11_ringsAs 37 = .ok (.bipush 50, 2) := by decide +kernel
theorem dX11_ringsAs_39 : decode cX11_ringsAs 39 = .ok (.invokevirtual 290, 3) := by decide +kernel
theorem dX11_ringsAs_42 : decode cX11_ringsAs 42 = .ok (.aload_n 0, 1) := by decide +kernel
theorem dX11_ringsAs_43 : decode cX11_ringsAs 43 = .ok (.iconst 1, 1) := by decide +kernel
theorem dX11_ringsAs_44 : decode cX11_ringsAs 44 = .ok (.iload_n 2, 1) := by decide +kernel
theorem dX11_ringsAs_45 : decode cX11_ringsAs 45 = .ok (.invokevirtual 306, 3) := by decide +kernel
theorem dX11_ringsAs_48 : decode cX11_ringsAs 48 = .ok (.istore_n 3, 1) := by decide +kernel
theorem dX11_ringsAs_49 : decode cX11_ringsAs 49 = .ok (.iload_n 3, 1) := by decide +kernel
theorem dX11_ringsAs_50 : decode cX11_ringsAs 50 = .ok (.aload_n 0, 1) := by decide +kernel
theorem dX11_ringsAs_51 : decode cX11_ringsAs 51 = .ok (.aload_n 0, 1) := by decide +kernel
theorem dX11_ringsAs_52 : decode cX11_ringsAs 52 = .ok (.getfield 303, 3) := by decide +kernel
theorem dX11_ringsAs_55 : decode cX11_ringsAs 55 = .ok (.iconst 2, 1) := by decide +kernel
theorem dX11_ringsAs_56 : decode cX11_ringsAs 56 = .ok (.invokevirtual 294, 3) := by decide +kernel
theorem dX11_ringsAs_59 : decode cX11_ringsAs 59 = .ok (.isub, 1) := by decide +kernel
theorem dX11_ringsAs_60 : decode cX11_ringsAs 60 = .ok (.ireturn, 1) := by decide +kernel
theorem dX11_ringsAs_61 : decode cX11_ringsAs 61 = .ok (.aload_n 0, 1) := by decide +kernel
theorem dX11_ringsAs_62 : decode cX11_ringsAs 62 = .ok (.bipush 11, 2) := by decide +kernel
theorem dX11_ringsAs_64 : decode cX11_ringsAs 64 = .ok (.invokevirtual 290, 3) := by decide +kernel
theorem dX11_ringsAs_67 : decode cX11_ringsAs 67 = .ok (.iload_n 2, 1) := by decide +kernel
theorem dX11_ringsAs_68 : decode cX11_ringsAs 68 = .ok (.aload_n 0, 1) := by decide +kernel
theorem dX11_ringsAs_69 : decode cX11_ringsAs 69 = .ok (.getfield 297, 3) := by decide +kernel
theorem dX11_ringsAs_72 : decode cX11_ringsAs 72 = .ok (.ixor, 1) := by decide +kernel
theorem dX11_ringsAs_73 : decode cX11_ringsAs 73 = .ok (.ireturn, 1) := by decide +kernel
def gX11_ringsAs_b10 (R0 : Int32 → Int32 → mS → Option (Int32 × mS)) (y2 : Int32) (s : mS) : Option (Int32 × mS) :=
  bO (fX11_runs (nI 40) s) fun s1 =>
  bP (R0 (nI 2) y2 s1) fun r2 s3 =>
  some (r2 * (nI 3), s3)

def gX11_ringsAs_b36 (R0 : Int32 → Int32 → mS → Option (Int32 × mS)) (y2 : Int32) (s : mS) : Option (Int32 × mS) :=
  bO (fX11_runs (nI 50) s) fun s4 =>
  bP (R0 (nI 1) y2 s4) fun r5 s6 =>
  bnd r5 fun v7 =>
  bP (fX11_typesAs (gI s6 iX_ownKind) (nI 2) s6) fun r8 s9 =>
  some (v7 - r8, s9)

def gX11_ringsAs (R0 : Int32 → Int32 → mS → Option (Int32 × mS)) (x1 : Int32) (x2 : Int32) (s : mS) : Option (Int32 × mS) :=
  if x1 = (nI 3) then
    gX11_ringsAs_b10 R0 x2 s
  else
    if x1 = (nI 5) then
      gX11_ringsAs_b10 R0 x2 s
    else
      if x1 = (nI 4) then
        gX11_ringsAs_b36 R0 x2 s
      else
        if x1 = (nI 7) then
          gX11_ringsAs_b36 R0 x2 s
        else
          bO (fX11_runs (nI 11) s) fun s10 =>
          some (x2 ^^^ (gI s10 iX_ownNumber), s10)

set_option maxRecDepth 20000 in
theorem wX11_ringsAs_b10 {ρ : mRo} {n d : Nat} {P : mPo} {V : mS → List mE} (hV : mView LX V) {R0 : Int32 → Int32 → mS → Option (Int32 × mS)} (hR0 : ∀ {x1 x2 : Int32} {s : mS} {res : (Int32 × mS)} {Q : mPo}, R0 x1 x2 s = some res → Q (some (.int res.1)) (V res.2) → mC ρ (n + d + 61) 218 [.ref qX, .int x1, .int x2] (V s) Q)  {res : (Int32 × mS)} (hP : P (some (.int res.1)) (V res.2)) (y2 : Int32) (s : mS) (hf : gX11_ringsAs_b10 R0 y2 s = some res) : mG ρ (mC ρ (n + d + 61)) 11 4 cX11_ringsAs (some .int) P 10 [(0, .ref qX), (2, .int y2)] [] (V s) := by
  unfold gX11_ringsAs_b10 at hf
  refine e_aload_n 0 dX11_ringsAs_10 rfl rfl ?_
  refine e_bipush (w := (nI 40)) dX11_ringsAs_11 (by decide) ?_
  obtain ⟨s1, hg, hf⟩ := bO_some hf
  refine e_callV (as := [.int (nI 40)]) (v := none) (s' := s1) hV dX11_ringsAs_13 (Or.inl rfl) rfl rfl rfl rfl (Nat.le_of_ble_eq_true rfl) lx_X rfl rfl (fun Q hQ => tX11_runs (d := (n + d + 60)) hV  hg hQ) ?_
  refine e_aload_n 0 dX11_ringsAs_16 rfl rfl ?_
  refine e_iconst (w := (nI 2)) dX11_ringsAs_17 (by decide) ?_
  refine e_iload_n 1 dX11_ringsAs_18 rfl rfl ?_
  obtain ⟨r2, s3, hg, hf⟩ := bP_some hf
  refine e_callV (as := [.int (nI 2), .int y2]) (v := (some (.int r2))) (s' := s3) hV dX11_ringsAs_19 (Or.inl rfl) rfl rfl rfl rfl (Nat.le_of_ble_eq_true rfl) lx_X rfl rfl (fun Q hQ => hR0 hg hQ) ?_
  refine e_iconst (w := (nI 3)) dX11_ringsAs_22 (by decide) ?_
  refine e_imul dX11_ringsAs_23 ?_
  obtain rfl := Option.some.inj hf
  exact e_iret dX11_ringsAs_24 trivial hP
set_option maxRecDepth 20000 in
theorem wX11_ringsAs_b36 {ρ : mRo} {n d : Nat} {P : mPo} {V : mS → List mE} (hV : mView LX V) {R0 : Int32 → Int32 → mS → Option (Int32 × mS)} (hR0 : ∀ {x1 x2 : Int32} {s : mS} {res : (Int32 × mS)} {Q : mPo}, R0 x1 x2 s = some res → Q (some (.int res.1)) (V res.2) → mC ρ (n + d + 61) 218 [.ref qX, .int x1, .int x2] (V s) Q)  {res : (Int32 × mS)} (hP : P (some (.int res.1)) (V res.2)) (y2 : Int32) (s : mS) (hf : gX11_ringsAs_b36 R0 y2 s = some res) : mG ρ (mC ρ (n + d + 61)) 11 4 cX11_ringsAs (some .int) P 36 [(0, .ref qX), (2, .int y2)] [] (V s) := by
  unfold gX11_ringsAs_b36 at hf
  refine e_aload_n 0 dX11_ringsAs_36 rfl rfl ?_
  refine e_bipush (w := (nI 50)) dX11_ringsAs_37 (by decide) ?_
  obtain ⟨s4, hg, hf⟩ := bO_some hf
  refine e_callV (as := [.int (nI 50)]) (v := none) (s' := s4) hV dX11_ringsAs_39 (Or.inl rfl) rfl rfl rfl rfl (Nat.le_of_ble_eq_true rfl) lx_X rfl rfl (fun Q hQ => tX11_runs (d := (n + d + 60)) hV  hg hQ) ?_
  refine e_aload_n 0 dX11_ringsAs_42 rfl rfl ?_
  refine e_iconst (w := (nI 1)) dX11_ringsAs_43 (by decide) ?_
  refine e_iload_n 1 dX11_ringsAs_44 rfl rfl ?_
  obtain ⟨r5, s6, hg, hf⟩ := bP_some hf
  refine e_callV (as := [.int (nI 1), .int y2]) (v := (some (.int r5))) (s' := s6) hV dX11_ringsAs_45 (Or.inl rfl) rfl rfl rfl rfl (Nat.le_of_ble_eq_true rfl) lx_X rfl rfl (fun Q hQ => hR0 hg hQ) ?_
  refine e_istore_n dX11_ringsAs_48 rfl (by decide) hf (fun v7 hf => ?_)
  refine e_iload_n 0 dX11_ringsAs_49 rfl rfl ?_
  refine e_aload_n 1 dX11_ringsAs_50 rfl rfl ?_
  refine e_aload_n 1 dX11_ringsAs_51 rfl rfl ?_
  refine e_geti hV dX11_ringsAs_52 rfl lx_X rfl ?_
  refine e_iconst (w := (nI 2)) dX11_ringsAs_55 (by decide) ?_
  obtain ⟨r8, s9, hg, hf⟩ := bP_some hf
  refine e_callV (as := [.int (gI s6 iX_ownKind), .int (nI 2)]) (v := (some (.int r8))) (s' := s9) hV dX11_ringsAs_56 (Or.inl rfl) rfl rfl rfl rfl (Nat.le_of_ble_eq_true rfl) lx_X rfl rfl (fun Q hQ => tX11_typesAs (d := (n + d)) hV  hg hQ) ?_
  refine e_isub dX11_ringsAs_59 ?_
  obtain rfl := Option.some.inj hf
  exact e_iret dX11_ringsAs_60 trivial hP
set_option maxRecDepth 20000 in
theorem uX11_ringsAs {ρ : mRo} {n d : Nat} {P : mPo} {V : mS → List mE} (hV : mView LX V) {R0 : Int32 → Int32 → mS → Option (Int32 × mS)} (hR0 : ∀ {x1 x2 : Int32} {s : mS} {res : (Int32 × mS)} {Q : mPo}, R0 x1 x2 s = some res → Q (some (.int res.1)) (V res.2) → mC ρ (n + d + 61) 218 [.ref qX, .int x1, .int x2] (V s) Q)  {x1 : Int32} {x2 : Int32} {s : mS} {res : (Int32 × mS)} (hf : gX11_ringsAs R0 x1 x2 s = some res) (hP : P (some (.int res.1)) (V res.2)) : mC ρ (n + d + 61 + 1) 218 [.ref qX, .int x1, .int x2] (V s) P := by
  refine ⟨_, rfl, Nat.le_of_ble_eq_true rfl, by decide, ?_⟩
  show mG ρ (mC ρ (n + d + 61)) 11 4 cX11_ringsAs (some .int) P 0 [(0, .ref qX), (1, .int x1), (2, .int x2)] [] (V s)
  unfold gX11_ringsAs at hf
  refine e_iload_n 1 dX11_ringsAs_0 rfl rfl ?_
  refine e_iconst (w := (nI 3)) dX11_ringsAs_1 (by decide) ?_
  refine e_icmp_eq 10 dX11_ringsAs_2 (by decide) hf (fun hf => ?_) (fun hf => ?_)
  · refine e_pick [0, 2] rfl ?_
    exact wX11_ringsAs_b10 hV hR0 hP x2 s hf
  · refine e_iload_n 1 dX11_ringsAs_5 rfl rfl ?_
    refine e_iconst (w := (nI 5)) dX11_ringsAs_6 (by decide) ?_
    refine e_icmp_ne 25 dX11_ringsAs_7 (by decide) hf (fun hf => ?_) (fun hf => ?_)
    · refine e_iload_n 1 dX11_ringsAs_25 rfl rfl ?_
      refine e_iconst (w := (nI 4)) dX11_ringsAs_26 (by decide) ?_
      refine e_icmp_eq 36 dX11_ringsAs_27 (by decide) hf (fun hf => ?_) (fun hf => ?_)
      · refine e_pick [0, 2] rfl ?_
        exact wX11_ringsAs_b36 hV hR0 hP x2 s hf
      · refine e_iload_n 1 dX11_ringsAs_30 rfl rfl ?_
        refine e_bipush (w := (nI 7)) dX11_ringsAs_31 (by decide) ?_
        refine e_icmp_ne 61 dX11_ringsAs_33 (by decide) hf (fun hf => ?_) (fun hf => ?_)
        · refine e_aload_n 0 dX11_ringsAs_61 rfl rfl ?_
          refine e_bipush (w := (nI 11)) dX11_ringsAs_62 (by decide) ?_
          obtain ⟨s10, hg, hf⟩ := bO_some hf
          refine e_callV (as := [.int (nI 11)]) (v := none) (s' := s10) hV dX11_ringsAs_64 (Or.inl rfl) rfl rfl rfl rfl (Nat.le_of_ble_eq_true rfl) lx_X rfl rfl (fun Q hQ => tX11_runs (d := (n + d + 60)) hV  hg hQ) ?_
          refine e_iload_n 2 dX11_ringsAs_67 rfl rfl ?_
          refine e_aload_n 0 dX11_ringsAs_68 rfl rfl ?_
          refine e_geti hV dX11_ringsAs_69 rfl lx_X rfl ?_
          refine e_ixor dX11_ringsAs_72 ?_
          obtain rfl := Option.some.inj hf
          exact e_iret dX11_ringsAs_73 trivial hP
        · refine e_pick [0, 2] rfl ?_
          exact wX11_ringsAs_b36 hV hR0 hP x2 s hf
    · refine e_pick [0, 2] rfl ?_
      exact wX11_ringsAs_b10 hV hR0 hP x2 s hf

def sccX11_ringsAs : Nat → (Int32 → Int32 → mS → Option (Int32 × mS))
  | 0 => (fun _ _ _ => none)
  | n + 1 => (gX11_ringsAs (sccX11_ringsAs n))
theorem tsccX11_ringsAs {ρ : mRo} {d : Nat} {V : mS → List mE} (hV : mView LX V) : ∀ n : Nat, (∀ {x1 x2 : Int32} {s : mS} {res : (Int32 × mS)} {Q : mPo}, sccX11_ringsAs n x1 x2 s = some res → Q (some (.int res.1)) (V res.2) → mC ρ (n + d + 61) 218 [.ref qX, .int x1, .int x2] (V s) Q) := by
  intro n
  induction n with
  | zero => exact (fun hf _ => nomatch hf)
  | succ n ih =>
    rw [show n + 1 + d + 61 = n + d + 61 + 1 by omega]
    exact (fun hf hP => uX11_ringsAs hV ih hf hP)
def fX11_ringsAs (x1 : Int32) (x2 : Int32) (s : mS) : Option (Int32 × mS) := sccX11_ringsAs 60 x1 x2 s
theorem tX11_ringsAs {ρ : mRo} {d : Nat} {P : mPo} {V : mS → List mE} (hV : mView LX V) {x1 : Int32} {x2 : Int32} {s : mS} {res : (Int32 × mS)} (hf : fX11_ringsAs x1 x2 s = some res) (hP : P (some (.int res.1)) (V res.2)) : mC ρ (d + 121) 218 [.ref qX, .int x1, .int x2] (V s) P := by
  rw [show d + 121 = 60 + d + 61 by omega]
  exact (tsccX11_ringsAs hV 60) hf hP

theorem dX11_sticksAs_0 : decode cX11_sticksAs 0 = .ok (.iload_n 1, 1) := by decide +kernel
theorem dX11_sticksAs_1 : decode cX11_sticksAs 1 = .ok (.iconst 3, 1) := by decide +kernel
theorem dX11_sticksAs_2 : decode cX11_sticksAs 2 = .ok (.if_icmp .eq 8, 3) := by decide +kernel
theorem dX11_sticksAs_5 : decode cX11_sticksAs 5 = .ok (.iload_n 1, 1) := by decide +kernel
theorem dX11_sticksAs_6 : decode cX11_sticksAs 6 = .ok (.iconst 5, 1) := by decide +kernel
theorem dX11_sticksAs_7 : decode cX11_sticksAs 7 = .ok (.if_icmp .ne 18, 3) := by decide +kernel
theorem dX11_sticksAs_10 : decode cX11_sticksAs 10 = .ok (.aload_n 0, 1) := by decide +kernel
theorem dX11_sticksAs_11 : decode cX11_sticksAs 11 = .ok (.bipush 41, 2) := by decide +kernel
theorem dX11_sticksAs_13 : decode cX11_sticksAs 13 = .ok (.invokevirtual 290, 3) := by decide +kernel
theorem dX11_sticksAs_16 : decode cX11_sticksAs 16 = .ok (.aload_n 0, 1) := by decide +kernel
theorem dX11_sticksAs_17 : decode cX11_sticksAs 17 = .ok (.iconst 2, 1) := by decide +kernel
theorem dX11_sticksAs_18 : decode cX11_sticksAs 18 = .ok (.iload_n 2, 1) := by decide +kernel
theorem dX11_sticksAs_19 : decode cX11_sticksAs 19 = .ok (.iconst 1, 1) := by decide +kernel
theorem dX11_sticksAs_20 : decode cX11_sticksAs 20 = .ok (.iadd, 1) := by decide +kernel
theorem dX11_sticksAs_21 : decode cX11_sticksAs 21 = .ok (.invokevirtual 300, 3) := by decide +kernel
theorem dX11_sticksAs_24 : decode cX11_sticksAs 24 = .ok (.ireturn, 1) := by decide +kernel
theorem dX11_sticksAs_25 : decode cX11_sticksAs 25 = .ok (.iload_n 1, 1) := by decide +kernel
theorem dX11_sticksAs_26 : decode cX11_sticksAs 26 = .ok (.iconst 2, 1) := by decide +kernel
theorem dX11_sticksAs_27 : decode cX11_sticksAs 27 = .ok (.if_icmp .ne 17, 3) := by decide +kernel
theorem dX11_sticksAs_30 : decode cX11_sticksAs 30 = .ok (.aload_n 0, 1) := by decide +kernel
theorem dX11_sticksAs_31 : decode cX11_sticksAs 31 = .ok (.bipush 30, 2) := by decide +kernel
theorem dX11_sticksAs_33 : decode cX11_sticksAs 33 = .ok (.invokevirtual 290, 3) := by decide +kernel
theorem dX11_sticksAs_36 : decode cX11_sticksAs 36 = .ok (.aload_n 0, 1) := by decide +kernel
theorem dX11_sticksAs_37 : decode cX11_sticksAs 37 = .ok (.iconst 0, 1) := by decide +kernel
theorem dX11_sticksAs_38 : decode cX11_sticksAs 38 = .ok (.iload_n 2, 1) := by decide +kernel
theorem dX11_sticksAs_39 : decode cX11_sticksAs 39 = .ok (.invokevirtual 300, 3) := by decide +kernel
theorem dX11_sticksAs_42 : decode cX11_sticksAs 42 = .ok (.ineg, 1) := by decide +kernel
theorem dX11_sticksAs_43 : decode cX11_sticksAs 43 = .ok (.ireturn, 1) := by decide +kernel
theorem dX11_sticksAs_44 : decode cX11_sticksAs 44 = .ok (.iload_n 1, 1) := by decide +kernel
theorem dX11_sticksAs_45 : decode cX11_sticksAs 45 = .ok (.bipush 7, 2) := by decide +kernel
theorem dX11_sticksAs_47 : decode cX11_sticksAs 47 = .ok (.if_icmp .ne 28, 3) := by decide +kernel
theorem dX11_sticksAs_50 : decode cX11_sticksAs 50 = .ok (.aload_n 0, 1) := by decide +kernel
theorem dX11_sticksAs_51 : decode cX11_sticksAs 51 = .ok (.bipush 80, 2) := by decide +kernel
theorem dX11_sticksAs_53 : decode cX11_sticksAs 53 = .ok (.invokevirtual 290, 3) := by decide +kernel
theorem dX11_sticksAs_56 : decode cX11_sticksAs 56 = .ok (.aload_n 0, 1) := by decide +kernel
theorem dX11_sticksAs_57 : decode cX11_sticksAs 57 = .ok (.iconst 4, 1) := by decide +kernel
theorem dX11_sticksAs_58 : decode cX11_sticksAs 58 = .ok (.iload_n 2, 1) := by decide +kernel
theorem dX11_sticksAs_59 : decode cX11_sticksAs 59 = .ok (.invokevirtual 300, 3) := by decide +kernel
theorem dX11_sticksAs_62 : decode cX11_sticksAs 62 = .ok (.istore_n 3, 1) := by decide +kernel
theorem dX11_sticksAs_63 : decode cX11_sticksAs 63 = .ok (.iload_n 3, 1) := by decide +kernel
theorem dX11_sticksAs_64 : decode cX11_sticksAs 64 = .ok (.aload_n 0, 1) := by decide +kernel
theorem dX11_sticksAs_65 : decode cX11_sticksAs 65 = .ok (.aload_n 0, 1) := by decide +kernel
theorem dX11_sticksAs_66 : decode cX11_sticksAs 66 = .ok (.getfield 303, 3) := by decide +kernel
theorem dX11_sticksAs_69 : decode cX11_sticksAs 69 = .ok (.iconst 2, 1) := by decide +kernel
theorem dX11_sticksAs_70 : decode cX11_sticksAs 70 = .ok (.invokevirtual 306, 3) := by decide +kernel
theorem dX11_sticksAs_73 : decode cX11_sticksAs 73 = .ok (.iadd, 1) := by decide +kernel
theorem dX11_sticksAs_74 : decode cX11_sticksAs 74 = .ok (.ireturn, 1) := by decide +kernel
theorem dX11_sticksAs_75 : decode cX11_sticksAs 75 = .ok (.aload_n 0, 1) := by decide +kernel
theorem dX11_sticksAs_76 : decode cX11_sticksAs 76 = .ok (.bipush 10, 2) := by decide +kernel
theorem dX11_sticksAs_78 : decode cX11_sticksAs 78 = .ok (.invokevirtual 290, 3) := by decide +kernel
theorem dX11_sticksAs_81 : decode cX11_sticksAs 81 = .ok (.aload_n 0, 1) := by decide +kernel
theorem dX11_sticksAs_82 : decode cX11_sticksAs 82 = .ok (.aload_n 0, 1) := by decide +kernel
theorem dX11_sticksAs_83 : decode cX11_sticksAs 83 = .ok (.getfield 303, 3) := by decide +kernel
theorem dX11_sticksAs_86 : decode cX11_sticksAs 86 = .ok (.iload_n 2, 1) := by decide +kernel
theorem dX11_sticksAs_87 : decode cX11_sticksAs 87 = .ok (.invokevirtual 294, 3) := by decide +kernel
theorem dX11_sticksAs_90 : decode cX11_sticksAs 90 = .ok (.iconst 2, 1) := by decide +kernel
theorem dX11_sticksAs_91 : decode cX11_sticksAs 91 = .ok (.imul, 1) := by decide +kernel
theorem dX11_sticksAs_92 : decode cX11_sticksAs 92 = .ok (.ireturn, 1) := by decide +kernel
def gX11_sticksAs_b10 (R0 : Int32 → Int32 → mS → Option (Int32 × mS)) (y2 : Int32) (s : mS) : Option (Int32 × mS) :=
  bO (fX11_runs (nI 41) s) fun s1 =>
  bP (R0 (nI 2) (y2 + (nI 1)) s1) fun r2 s3 =>
  some (r2, s3)

def gX11_sticksAs (R0 : Int32 → Int32 → mS → Option (Int32 × mS)) (x1 : Int32) (x2 : Int32) (s : mS) : Option (Int32 × mS) :=
  if x1 = (nI 3) then
    gX11_sticksAs_b10 R0 x2 s
  else
    if x1 = (nI 5) then
      gX11_sticksAs_b10 R0 x2 s
    else
      if x1 = (nI 2) then
        bO (fX11_runs (nI 30) s) fun s13 =>
        bP (R0 (nI 0) x2 s13) fun r14 s15 =>
        some (-r14, s15)
      else
        if x1 = (nI 7) then
          bO (fX11_runs (nI 80) s) fun s7 =>
          bP (R0 (nI 4) x2 s7) fun r8 s9 =>
          bnd r8 fun v10 =>
          bP (fX11_ringsAs (gI s9 iX_ownKind) (nI 2) s9) fun r11 s12 =>
          some (v10 + r11, s12)
        else
          bO (fX11_runs (nI 10) s) fun s4 =>
          bP (fX11_typesAs (gI s4 iX_ownKind) x2 s4) fun r5 s6 =>
          some (r5 * (nI 2), s6)

set_option maxRecDepth 20000 in
theorem wX11_sticksAs_b10 {ρ : mRo} {n d : Nat} {P : mPo} {V : mS → List mE} (hV : mView LX V) {R0 : Int32 → Int32 → mS → Option (Int32 × mS)} (hR0 : ∀ {x1 x2 : Int32} {s : mS} {res : (Int32 × mS)} {Q : mPo}, R0 x1 x2 s = some res → Q (some (.int res.1)) (V res.2) → mC ρ (n + d + 121) 217 [.ref qX, .int x1, .int x2] (V s) Q)  {res : (Int32 × mS)} (hP : P (some (.int res.1)) (V res.2)) (y2 : Int32) (s : mS) (hf : gX11_sticksAs_b10 R0 y2 s = some res) : mG ρ (mC ρ (n + d + 121)) 11 4 cX11_sticksAs (some .int) P 10 [(0, .ref qX), (2, .int y2)] [] (V s) := by
  unfold gX11_sticksAs_b10 at hf
  refine e_aload_n 0 dX11_sticksAs_10 rfl rfl ?_
  refine e_bipush (w := (nI 41)) dX11_sticksAs_11 (by decide) ?_
  obtain ⟨s1, hg, hf⟩ := bO_some hf
  refine e_callV (as := [.int (nI 41)]) (v := none) (s' := s1) hV dX11_sticksAs_13 (Or.inl rfl) rfl rfl rfl rfl (Nat.le_of_ble_eq_true rfl) lx_X rfl rfl (fun Q hQ => tX11_runs (d := (n + d + 120)) hV  hg hQ) ?_
  refine e_aload_n 0 dX11_sticksAs_16 rfl rfl ?_
  refine e_iconst (w := (nI 2)) dX11_sticksAs_17 (by decide) ?_
  refine e_iload_n 1 dX11_sticksAs_18 rfl rfl ?_
  refine e_iconst (w := (nI 1)) dX11_sticksAs_19 (by decide) ?_
  refine e_iadd dX11_sticksAs_20 ?_
  obtain ⟨r2, s3, hg, hf⟩ := bP_some hf
  refine e_callV (as := [.int (nI 2), .int (y2 + (nI 1))]) (v := (some (.int r2))) (s' := s3) hV dX11_sticksAs_21 (Or.inl rfl) rfl rfl rfl rfl (Nat.le_of_ble_eq_true rfl) lx_X rfl rfl (fun Q hQ => hR0 hg hQ) ?_
  obtain rfl := Option.some.inj hf
  exact e_iret dX11_sticksAs_24 trivial hP
set_option maxRecDepth 20000 in
theorem uX11_sticksAs {ρ : mRo} {n d : Nat} {P : mPo} {V : mS → List mE} (hV : mView LX V) {R0 : Int32 → Int32 → mS → Option (Int32 × mS)} (hR0 : ∀ {x1 x2 : Int32} {s : mS} {res : (Int32 × mS)} {Q : mPo}, R0 x1 x2 s = some res → Q (some (.int res.1)) (V res.2) → mC ρ (n + d + 121) 217 [.ref qX, .int x1, .int x2] (V s) Q)  {x1 : Int32} {x2 : Int32} {s : mS} {res : (Int32 × mS)} (hf : gX11_sticksAs R0 x1 x2 s = some res) (hP : P (some (.int res.1)) (V res.2)) : mC ρ (n + d + 121 + 1) 217 [.ref qX, .int x1, .int x2] (V s) P := by
  refine ⟨_, rfl, Nat.le_of_ble_eq_true rfl, by decide, ?_⟩
  show mG ρ (mC ρ (n + d + 121)) 11 4 cX11_sticksAs (some .int) P 0 [(0, .ref qX), (1, .int x1), (2, .int x2)] [] (V s)
  unfold gX11_sticksAs at hf
  refine e_iload_n 1 dX11_sticksAs_0 rfl rfl ?_
  refine e_iconst (w := (nI 3)) dX11_sticksAs_1 (by decide) ?_
  refine e_icmp_eq 10 dX11_sticksAs_2 (by decide) hf (fun hf => ?_) (fun hf => ?_)
  · refine e_pick [0, 2] rfl ?_
    exact wX11_sticksAs_b10 hV hR0 hP x2 s hf
  · refine e_iload_n 1 dX11_sticksAs_5 rfl rfl ?_
    refine e_iconst (w := (nI 5)) dX11_sticksAs_6 (by decide) ?_
    refine e_icmp_ne 25 dX11_sticksAs_7 (by decide) hf (fun hf => ?_) (fun hf => ?_)
    · refine e_iload_n 1 dX11_sticksAs_25 rfl rfl ?_
      refine e_iconst (w := (nI 2)) dX11_sticksAs_26 (by decide) ?_
      refine e_icmp_ne 44 dX11_sticksAs_27 (by decide) hf (fun hf => ?_) (fun hf => ?_)
      · refine e_iload_n 1 dX11_sticksAs_44 rfl rfl ?_
        refine e_bipush (w := (nI 7)) dX11_sticksAs_45 (by decide) ?_
        refine e_icmp_ne 75 dX11_sticksAs_47 (by decide) hf (fun hf => ?_) (fun hf => ?_)
        · refine e_aload_n 0 dX11_sticksAs_75 rfl rfl ?_
          refine e_bipush (w := (nI 10)) dX11_sticksAs_76 (by decide) ?_
          obtain ⟨s4, hg, hf⟩ := bO_some hf
          refine e_callV (as := [.int (nI 10)]) (v := none) (s' := s4) hV dX11_sticksAs_78 (Or.inl rfl) rfl rfl rfl rfl (Nat.le_of_ble_eq_true rfl) lx_X rfl rfl (fun Q hQ => tX11_runs (d := (n + d + 120)) hV  hg hQ) ?_
          refine e_aload_n 0 dX11_sticksAs_81 rfl rfl ?_
          refine e_aload_n 0 dX11_sticksAs_82 rfl rfl ?_
          refine e_geti hV dX11_sticksAs_83 rfl lx_X rfl ?_
          refine e_iload_n 2 dX11_sticksAs_86 rfl rfl ?_
          obtain ⟨r5, s6, hg, hf⟩ := bP_some hf
          refine e_callV (as := [.int (gI s4 iX_ownKind), .int x2]) (v := (some (.int r5))) (s' := s6) hV dX11_sticksAs_87 (Or.inl rfl) rfl rfl rfl rfl (Nat.le_of_ble_eq_true rfl) lx_X rfl rfl (fun Q hQ => tX11_typesAs (d := (n + d + 60)) hV  hg hQ) ?_
          refine e_iconst (w := (nI 2)) dX11_sticksAs_90 (by decide) ?_
          refine e_imul dX11_sticksAs_91 ?_
          obtain rfl := Option.some.inj hf
          exact e_iret dX11_sticksAs_92 trivial hP
        · refine e_aload_n 0 dX11_sticksAs_50 rfl rfl ?_
          refine e_bipush (w := (nI 80)) dX11_sticksAs_51 (by decide) ?_
          obtain ⟨s7, hg, hf⟩ := bO_some hf
          refine e_callV (as := [.int (nI 80)]) (v := none) (s' := s7) hV dX11_sticksAs_53 (Or.inl rfl) rfl rfl rfl rfl (Nat.le_of_ble_eq_true rfl) lx_X rfl rfl (fun Q hQ => tX11_runs (d := (n + d + 120)) hV  hg hQ) ?_
          refine e_aload_n 0 dX11_sticksAs_56 rfl rfl ?_
          refine e_iconst (w := (nI 4)) dX11_sticksAs_57 (by decide) ?_
          refine e_iload_n 2 dX11_sticksAs_58 rfl rfl ?_
          obtain ⟨r8, s9, hg, hf⟩ := bP_some hf
          refine e_callV (as := [.int (nI 4), .int x2]) (v := (some (.int r8))) (s' := s9) hV dX11_sticksAs_59 (Or.inl rfl) rfl rfl rfl rfl (Nat.le_of_ble_eq_true rfl) lx_X rfl rfl (fun Q hQ => hR0 hg hQ) ?_
          refine e_istore_n dX11_sticksAs_62 rfl (by decide) hf (fun v10 hf => ?_)
          refine e_iload_n 0 dX11_sticksAs_63 rfl rfl ?_
          refine e_aload_n 1 dX11_sticksAs_64 rfl rfl ?_
          refine e_aload_n 1 dX11_sticksAs_65 rfl rfl ?_
          refine e_geti hV dX11_sticksAs_66 rfl lx_X rfl ?_
          refine e_iconst (w := (nI 2)) dX11_sticksAs_69 (by decide) ?_
          obtain ⟨r11, s12, hg, hf⟩ := bP_some hf
          refine e_callV (as := [.int (gI s9 iX_ownKind), .int (nI 2)]) (v := (some (.int r11))) (s' := s12) hV dX11_sticksAs_70 (Or.inl rfl) rfl rfl rfl rfl (Nat.le_of_ble_eq_true rfl) lx_X rfl rfl (fun Q hQ => tX11_ringsAs (d := (n + d)) hV  hg hQ) ?_
          refine e_iadd dX11_sticksAs_73 ?_
          obtain rfl := Option.some.inj hf
          exact e_iret dX11_sticksAs_74 trivial hP
      · refine e_aload_n 0 dX11_sticksAs_30 rfl rfl ?_
        refine e_bipush (w := (nI 30)) dX11_sticksAs_31 (by decide) ?_
        obtain ⟨s13, hg, hf⟩ := bO_some hf
        refine e_callV (as := [.int (nI 30)]) (v := none) (s' := s13) hV dX11_sticksAs_33 (Or.inl rfl) rfl rfl rfl rfl (Nat.le_of_ble_eq_true rfl) lx_X rfl rfl (fun Q hQ => tX11_runs (d := (n + d + 120)) hV  hg hQ) ?_
        refine e_aload_n 0 dX11_sticksAs_36 rfl rfl ?_
        refine e_iconst (w := (nI 0)) dX11_sticksAs_37 (by decide) ?_
        refine e_iload_n 2 dX11_sticksAs_38 rfl rfl ?_
        obtain ⟨r14, s15, hg, hf⟩ := bP_some hf
        refine e_callV (as := [.int (nI 0), .int x2]) (v := (some (.int r14))) (s' := s15) hV dX11_sticksAs_39 (Or.inl rfl) rfl rfl rfl rfl (Nat.le_of_ble_eq_true rfl) lx_X rfl rfl (fun Q hQ => hR0 hg hQ) ?_
        refine e_ineg dX11_sticksAs_42 ?_
        obtain rfl := Option.some.inj hf
        exact e_iret dX11_sticksAs_43 trivial hP
    · refine e_pick [0, 2] rfl ?_
      exact wX11_sticksAs_b10 hV hR0 hP x2 s hf

def sccX11_sticksAs : Nat → (Int32 → Int32 → mS → Option (Int32 × mS))
  | 0 => (fun _ _ _ => none)
  | n + 1 => (gX11_sticksAs (sccX11_sticksAs n))
theorem tsccX11_sticksAs {ρ : mRo} {d : Nat} {V : mS → List mE} (hV : mView LX V) : ∀ n : Nat, (∀ {x1 x2 : Int32} {s : mS} {res : (Int32 × mS)} {Q : mPo}, sccX11_sticksAs n x1 x2 s = some res → Q (some (.int res.1)) (V res.2) → mC ρ (n + d + 121) 217 [.ref qX, .int x1, .int x2] (V s) Q) := by
  intro n
  induction n with
  | zero => exact (fun hf _ => nomatch hf)
  | succ n ih =>
    rw [show n + 1 + d + 121 = n + d + 121 + 1 by omega]
    exact (fun hf hP => uX11_sticksAs hV ih hf hP)
def fX11_sticksAs (x1 : Int32) (x2 : Int32) (s : mS) : Option (Int32 × mS) := sccX11_sticksAs 60 x1 x2 s
theorem tX11_sticksAs {ρ : mRo} {d : Nat} {P : mPo} {V : mS → List mE} (hV : mView LX V) {x1 : Int32} {x2 : Int32} {s : mS} {res : (Int32 × mS)} (hf : fX11_sticksAs x1 x2 s = some res) (hP : P (some (.int res.1)) (V res.2)) : mC ρ (d + 181) 217 [.ref qX, .int x1, .int x2] (V s) P := by
  rw [show d + 181 = 60 + d + 121 by omega]
  exact (tsccX11_sticksAs hV 60) hf hP

theorem dX11_tellsAs_0 : decode cX11_tellsAs 0 = .ok (.iload_n 1, 1) := by decide +kernel
theorem dX11_tellsAs_1 : decode cX11_tellsAs 1 = .ok (.iconst 5, 1) := by decide +kernel
theorem dX11_tellsAs_2 : decode cX11_tellsAs 2 = .ok (.if_icmp .ne 18, 3) := by decide +kernel
theorem dX11_tellsAs_5 : decode cX11_tellsAs 5 = .ok (.aload_n 0, 1) := by decide +kernel
theorem dX11_tellsAs_6 : decode cX11_tellsAs 6 = .ok (.bipush 60, 2) := by decide +kernel
theorem dX11_tellsAs_8 : decode cX11_tellsAs 8 = .ok (.invokevirtual 290, 3) := by decide +kernel
theorem dX11_tellsAs_11 : decode cX11_tellsAs 11 = .ok (.aload_n 0, 1) := by decide +kernel
theorem dX11_tellsAs_12 : decode cX11_tellsAs 12 = .ok (.iconst 3, 1) := by decide +kernel
theorem dX11_tellsAs_13 : decode cX11_tellsAs 13 = .ok (.iload_n 2, 1) := by decide +kernel
theorem dX11_tellsAs_14 : decode cX11_tellsAs 14 = .ok (.invokevirtual 309, 3) := by decide +kernel
theorem dX11_tellsAs_17 : decode cX11_tellsAs 17 = .ok (.iconst 5, 1) := by decide +kernel
theorem dX11_tellsAs_18 : decode cX11_tellsAs 18 = .ok (.ixor, 1) := by decide +kernel
theorem dX11_tellsAs_19 : decode cX11_tellsAs 19 = .ok (.ireturn, 1) := by decide +kernel
theorem dX11_tellsAs_20 : decode cX11_tellsAs 20 = .ok (.iload_n 1, 1) := by decide +kernel
theorem dX11_tellsAs_21 : decode cX11_tellsAs 21 = .ok (.bipush 7, 2) := by decide +kernel
theorem dX11_tellsAs_23 : decode cX11_tellsAs 23 = .ok (.if_icmp .ne 18, 3) := by decide +kernel
theorem dX11_tellsAs_26 : decode cX11_tellsAs 26 = .ok (.aload_n 0, 1) := by decide +kernel
theorem dX11_tellsAs_27 : decode cX11_tellsAs 27 = .ok (.bipush 81, 2) := by decide +kernel
theorem dX11_tellsAs_29 : decode cX11_tellsAs 29 = .ok (.invokevirtual 290, 3) := by decide +kernel
theorem dX11_tellsAs_32 : decode cX11_tellsAs 32 = .ok (.aload_n 0, 1) := by decide +kernel
theorem dX11_tellsAs_33 : decode cX11_tellsAs 33 = .ok (.iconst 4, 1) := by decide +kernel
theorem dX11_tellsAs_34 : decode cX11_tellsAs 34 = .ok (.iload_n 2, 1) := by decide +kernel
theorem dX11_tellsAs_35 : decode cX11_tellsAs 35 = .ok (.invokevirtual 309, 3) := by decide +kernel
theorem dX11_tellsAs_38 : decode cX11_tellsAs 38 = .ok (.iconst 1, 1) := by decide +kernel
theorem dX11_tellsAs_39 : decode cX11_tellsAs 39 = .ok (.isub, 1) := by decide +kernel
theorem dX11_tellsAs_40 : decode cX11_tellsAs 40 = .ok (.ireturn, 1) := by decide +kernel
theorem dX11_tellsAs_41 : decode cX11_tellsAs 41 = .ok (.aload_n 0, 1) := by decide +kernel
theorem dX11_tellsAs_42 : decode cX11_tellsAs 42 = .ok (.iconst 2, 1) := by decide +kernel
theorem dX11_tellsAs_43 : decode cX11_tellsAs 43 = .ok (.invokevirtual 290, 3) := by decide +kernel
theorem dX11_tellsAs_46 : decode cX11_tellsAs 46 = .ok (.aload_n 0, 1) := by decide +kernel
theorem dX11_tellsAs_47 : decode cX11_tellsAs 47 = .ok (.aload_n 0, 1) := by decide +kernel
theorem dX11_tellsAs_48 : decode cX11_tellsAs 48 = .ok (.getfield 303, 3) := by decide +kernel
theorem dX11_tellsAs_51 : decode cX11_tellsAs 51 = .ok (.iload_n 2, 1) := by decide +kernel
theorem dX11_tellsAs_52 : decode cX11_tellsAs 52 = .ok (.invokevirtual 300, 3) := by decide +kernel
theorem dX11_tellsAs_55 : decode cX11_tellsAs 55 = .ok (.istore_n 3, 1) := by decide +kernel
theorem dX11_tellsAs_56 : decode cX11_tellsAs 56 = .ok (.iload_n 3, 1) := by decide +kernel
theorem dX11_tellsAs_57 : decode cX11_tellsAs 57 = .ok (.aload_n 0, 1) := by decide +kernel
theorem dX11_tellsAs_58 : decode cX11_tellsAs 58 = .ok (.aload_n 0, 1) := by decide +kernel
theorem dX11_tellsAs_59 : decode cX11_tellsAs 59 = .ok (.getfield 303, 3) := by decide +kernel
theorem dX11_tellsAs_62 : decode cX11_tellsAs 62 = .ok (.iconst 1, 1) := by decide +kernel
theorem dX11_tellsAs_63 : decode cX11_tellsAs 63 = .ok (.invokevirtual 306, 3) := by decide +kernel
theorem dX11_tellsAs_66 : decode cX11_tellsAs 66 = .ok (.isub, 1) := by decide +kernel
theorem dX11_tellsAs_67 : decode cX11_tellsAs 67 = .ok (.ireturn, 1) := by decide +kernel
def gX11_tellsAs (R0 : Int32 → Int32 → mS → Option (Int32 × mS)) (x1 : Int32) (x2 : Int32) (s : mS) : Option (Int32 × mS) :=
  if x1 = (nI 5) then
    bO (fX11_runs (nI 60) s) fun s10 =>
    bP (R0 (nI 3) x2 s10) fun r11 s12 =>
    some (r11 ^^^ (nI 5), s12)
  else
    if x1 = (nI 7) then
      bO (fX11_runs (nI 81) s) fun s7 =>
      bP (R0 (nI 4) x2 s7) fun r8 s9 =>
      some (r8 - (nI 1), s9)
    else
      bO (fX11_runs (nI 2) s) fun s1 =>
      bP (fX11_sticksAs (gI s1 iX_ownKind) x2 s1) fun r2 s3 =>
      bnd r2 fun v4 =>
      bP (fX11_ringsAs (gI s3 iX_ownKind) (nI 1) s3) fun r5 s6 =>
      some (v4 - r5, s6)

set_option maxRecDepth 20000 in
theorem uX11_tellsAs {ρ : mRo} {n d : Nat} {P : mPo} {V : mS → List mE} (hV : mView LX V) {R0 : Int32 → Int32 → mS → Option (Int32 × mS)} (hR0 : ∀ {x1 x2 : Int32} {s : mS} {res : (Int32 × mS)} {Q : mPo}, R0 x1 x2 s = some res → Q (some (.int res.1)) (V res.2) → mC ρ (n + d + 181) 219 [.ref qX, .int x1, .int x2] (V s) Q)  {x1 : Int32} {x2 : Int32} {s : mS} {res : (Int32 × mS)} (hf : gX11_tellsAs R0 x1 x2 s = some res) (hP : P (some (.int res.1)) (V res.2)) : mC ρ (n + d + 181 + 1) 219 [.ref qX, .int x1, .int x2] (V s) P := by
  refine ⟨_, rfl, Nat.le_of_ble_eq_true rfl, by decide, ?_⟩
  show mG ρ (mC ρ (n + d + 181)) 11 4 cX11_tellsAs (some .int) P 0 [(0, .ref qX), (1, .int x1), (2, .int x2)] [] (V s)
  unfold gX11_tellsAs at hf
  refine e_iload_n 1 dX11_tellsAs_0 rfl rfl ?_
  refine e_iconst (w := (nI 5)) dX11_tellsAs_1 (by decide) ?_
  refine e_icmp_ne 20 dX11_tellsAs_2 (by decide) hf (fun hf => ?_) (fun hf => ?_)
  · refine e_iload_n 1 dX11_tellsAs_20 rfl rfl ?_
    refine e_bipush (w := (nI 7)) dX11_tellsAs_21 (by decide) ?_
    refine e_icmp_ne 41 dX11_tellsAs_23 (by decide) hf (fun hf => ?_) (fun hf => ?_)
    · refine e_aload_n 0 dX11_tellsAs_41 rfl rfl ?_
      refine e_iconst (w := (nI 2)) dX11_tellsAs_42 (by decide) ?_
      obtain ⟨s1, hg, hf⟩ := bO_some hf
      refine e_callV (as := [.int (nI 2)]) (v := none) (s' := s1) hV dX11_tellsAs_43 (Or.inl rfl) rfl rfl rfl rfl (Nat.le_of_ble_eq_true rfl) lx_X rfl rfl (fun Q hQ => tX11_runs (d := (n + d + 180)) hV  hg hQ) ?_
      refine e_aload_n 0 dX11_tellsAs_46 rfl rfl ?_
      refine e_aload_n 0 dX11_tellsAs_47 rfl rfl ?_
      refine e_geti hV dX11_tellsAs_48 rfl lx_X rfl ?_
      refine e_iload_n 2 dX11_tellsAs_51 rfl rfl ?_
      obtain ⟨r2, s3, hg, hf⟩ := bP_some hf
      refine e_callV (as := [.int (gI s1 iX_ownKind), .int x2]) (v := (some (.int r2))) (s' := s3) hV dX11_tellsAs_52 (Or.inl rfl) rfl rfl rfl rfl (Nat.le_of_ble_eq_true rfl) lx_X rfl rfl (fun Q hQ => tX11_sticksAs (d := (n + d)) hV  hg hQ) ?_
      refine e_istore_n dX11_tellsAs_55 rfl (by decide) hf (fun v4 hf => ?_)
      refine e_iload_n 0 dX11_tellsAs_56 rfl rfl ?_
      refine e_aload_n 1 dX11_tellsAs_57 rfl rfl ?_
      refine e_aload_n 1 dX11_tellsAs_58 rfl rfl ?_
      refine e_geti hV dX11_tellsAs_59 rfl lx_X rfl ?_
      refine e_iconst (w := (nI 1)) dX11_tellsAs_62 (by decide) ?_
      obtain ⟨r5, s6, hg, hf⟩ := bP_some hf
      refine e_callV (as := [.int (gI s3 iX_ownKind), .int (nI 1)]) (v := (some (.int r5))) (s' := s6) hV dX11_tellsAs_63 (Or.inl rfl) rfl rfl rfl rfl (Nat.le_of_ble_eq_true rfl) lx_X rfl rfl (fun Q hQ => tX11_ringsAs (d := (n + d + 60)) hV  hg hQ) ?_
      refine e_isub dX11_tellsAs_66 ?_
      obtain rfl := Option.some.inj hf
      exact e_iret dX11_tellsAs_67 trivial hP
    · refine e_aload_n 0 dX11_tellsAs_26 rfl rfl ?_
      refine e_bipush (w := (nI 81)) dX11_tellsAs_27 (by decide) ?_
      obtain ⟨s7, hg, hf⟩ := bO_some hf
      refine e_callV (as := [.int (nI 81)]) (v := none) (s' := s7) hV dX11_tellsAs_29 (Or.inl rfl) rfl rfl rfl rfl (Nat.le_of_ble_eq_true rfl) lx_X rfl rfl (fun Q hQ => tX11_runs (d := (n + d + 180)) hV  hg hQ) ?_
      refine e_aload_n 0 dX11_tellsAs_32 rfl rfl ?_
      refine e_iconst (w := (nI 4)) dX11_tellsAs_33 (by decide) ?_
      refine e_iload_n 2 dX11_tellsAs_34 rfl rfl ?_
      obtain ⟨r8, s9, hg, hf⟩ := bP_some hf
      refine e_callV (as := [.int (nI 4), .int x2]) (v := (some (.int r8))) (s' := s9) hV dX11_tellsAs_35 (Or.inl rfl) rfl rfl rfl rfl (Nat.le_of_ble_eq_true rfl) lx_X rfl rfl (fun Q hQ => hR0 hg hQ) ?_
      refine e_iconst (w := (nI 1)) dX11_tellsAs_38 (by decide) ?_
      refine e_isub dX11_tellsAs_39 ?_
      obtain rfl := Option.some.inj hf
      exact e_iret dX11_tellsAs_40 trivial hP
  · refine e_aload_n 0 dX11_tellsAs_5 rfl rfl ?_
    refine e_bipush (w := (nI 60)) dX11_tellsAs_6 (by decide) ?_
    obtain ⟨s10, hg, hf⟩ := bO_some hf
    refine e_callV (as := [.int (nI 60)]) (v := none) (s' := s10) hV dX11_tellsAs_8 (Or.inl rfl) rfl rfl rfl rfl (Nat.le_of_ble_eq_true rfl) lx_X rfl rfl (fun Q hQ => tX11_runs (d := (n + d + 180)) hV  hg hQ) ?_
    refine e_aload_n 0 dX11_tellsAs_11 rfl rfl ?_
    refine e_iconst (w := (nI 3)) dX11_tellsAs_12 (by decide) ?_
    refine e_iload_n 2 dX11_tellsAs_13 rfl rfl ?_
    obtain ⟨r11, s12, hg, hf⟩ := bP_some hf
    refine e_callV (as := [.int (nI 3), .int x2]) (v := (some (.int r11))) (s' := s12) hV dX11_tellsAs_14 (Or.inl rfl) rfl rfl rfl rfl (Nat.le_of_ble_eq_true rfl) lx_X rfl rfl (fun Q hQ => hR0 hg hQ) ?_
    refine e_iconst (w := (nI 5)) dX11_tellsAs_17 (by decide) ?_
    refine e_ixor dX11_tellsAs_18 ?_
    obtain rfl := Option.some.inj hf
    exact e_iret dX11_tellsAs_19 trivial hP

def sccX11_tellsAs : Nat → (Int32 → Int32 → mS → Option (Int32 × mS))
  | 0 => (fun _ _ _ => none)
  | n + 1 => (gX11_tellsAs (sccX11_tellsAs n))
theorem tsccX11_tellsAs {ρ : mRo} {d : Nat} {V : mS → List mE} (hV : mView LX V) : ∀ n : Nat, (∀ {x1 x2 : Int32} {s : mS} {res : (Int32 × mS)} {Q : mPo}, sccX11_tellsAs n x1 x2 s = some res → Q (some (.int res.1)) (V res.2) → mC ρ (n + d + 181) 219 [.ref qX, .int x1, .int x2] (V s) Q) := by
  intro n
  induction n with
  | zero => exact (fun hf _ => nomatch hf)
  | succ n ih =>
    rw [show n + 1 + d + 181 = n + d + 181 + 1 by omega]
    exact (fun hf hP => uX11_tellsAs hV ih hf hP)
def fX11_tellsAs (x1 : Int32) (x2 : Int32) (s : mS) : Option (Int32 × mS) := sccX11_tellsAs 60 x1 x2 s
theorem tX11_tellsAs {ρ : mRo} {d : Nat} {P : mPo} {V : mS → List mE} (hV : mView LX V) {x1 : Int32} {x2 : Int32} {s : mS} {res : (Int32 × mS)} (hf : fX11_tellsAs x1 x2 s = some res) (hP : P (some (.int res.1)) (V res.2)) : mC ρ (d + 241) 219 [.ref qX, .int x1, .int x2] (V s) P := by
  rw [show d + 241 = 60 + d + 181 by omega]
  exact (tsccX11_tellsAs hV 60) hf hP

theorem dX11_act_0 : decode cX11_act 0 = .ok (.aload_n 0, 1) := by decide +kernel
theorem dX11_act_1 : decode cX11_act 1 = .ok (.iconst 0, 1) := by decide +kernel
theorem dX11_act_2 : decode cX11_act 2 = .ok (.putfield 287, 3) := by decide +kernel
theorem dX11_act_5 : decode cX11_act 5 = .ok (.aload_n 0, 1) := by decide +kernel
theorem dX11_act_6 : decode cX11_act 6 = .ok (.iload_n 1, 1) := by decide +kernel
theorem dX11_act_7 : decode cX11_act 7 = .ok (.invokevirtual 312, 3) := by decide +kernel
theorem dX11_act_10 : decode cX11_act 10 = .ok (.ifCond .ne 5, 3) := by decide +kernel
theorem dX11_act_13 : decode cX11_act 13 = .ok (.iconst 0, 1) := by decide +kernel
theorem dX11_act_14 : decode cX11_act 14 = .ok (.ireturn, 1) := by decide +kernel
theorem dX11_act_15 : decode cX11_act 15 = .ok (.aload_n 0, 1) := by decide +kernel
theorem dX11_act_16 : decode cX11_act 16 = .ok (.aload_n 0, 1) := by decide +kernel
theorem dX11_act_17 : decode cX11_act 17 = .ok (.getfield 62, 3) := by decide +kernel
theorem dX11_act_20 : decode cX11_act 20 = .ok (.iload_n 1, 1) := by decide +kernel
theorem dX11_act_21 : decode cX11_act 21 = .ok (.iaload, 1) := by decide +kernel
theorem dX11_act_22 : decode cX11_act 22 = .ok (.putfield 303, 3) := by decide +kernel
theorem dX11_act_25 : decode cX11_act 25 = .ok (.aload_n 0, 1) := by decide +kernel
theorem dX11_act_26 : decode cX11_act 26 = .ok (.iload_n 1, 1) := by decide +kernel
theorem dX11_act_27 : decode cX11_act 27 = .ok (.putfield 297, 3) := by decide +kernel
theorem dX11_act_30 : decode cX11_act 30 = .ok (.iload_n 2, 1) := by decide +kernel
theorem dX11_act_31 : decode cX11_act 31 = .ok (.tableswitch 69 0 3 #[29, 39, 49, 59], 29) := by decide +kernel
theorem dX11_act_60 : decode cX11_act 60 = .ok (.aload_n 0, 1) := by decide +kernel
theorem dX11_act_61 : decode cX11_act 61 = .ok (.aload_n 0, 1) := by decide +kernel
theorem dX11_act_62 : decode cX11_act 62 = .ok (.getfield 303, 3) := by decide +kernel
theorem dX11_act_65 : decode cX11_act 65 = .ok (.iload_n 3, 1) := by decide +kernel
theorem dX11_act_66 : decode cX11_act 66 = .ok (.invokevirtual 294, 3) := by decide +kernel
theorem dX11_act_69 : decode cX11_act 69 = .ok (.ireturn, 1) := by decide +kernel
theorem dX11_act_70 : decode cX11_act 70 = .ok (.aload_n 0, 1) := by decide +kernel
theorem dX11_act_71 : decode cX11_act 71 = .ok (.aload_n 0, 1) := by decide +kernel
theorem dX11_act_72 : decode cX11_act 72 = .ok (.getfield 303, 3) := by decide +kernel
theorem dX11_act_75 : decode cX11_act 75 = .ok (.iload_n 3, 1) := by decide +kernel
theorem dX11_act_76 : decode cX11_act 76 = .ok (.invokevirtual 300, 3) := by decide +kernel
theorem dX11_act_79 : decode cX11_act 79 = .ok (.ireturn, 1) := by decide +kernel
theorem dX11_act_80 : decode cX11_act 80 = .ok (.aload_n 0, 1) := by decide +kernel
theorem dX11_act_81 : decode cX11_act 81 = .ok (.aload_n 0, 1) := by decide +kernel
theorem dX11_act_82 : decode cX11_act 82 = .ok (.getfield 303, 3) := by decide +kernel
theorem dX11_act_85 : decode cX11_act 85 = .ok (.iload_n 3, 1) := by decide +kernel
theorem dX11_act_86 : decode cX11_act 86 = .ok (.invokevirtual 306, 3) := by decide +kernel
theorem dX11_act_89 : decode cX11_act 89 = .ok (.ireturn, 1) := by decide +kernel
theorem dX11_act_90 : decode cX11_act 90 = .ok (.aload_n 0, 1) := by decide +kernel
theorem dX11_act_91 : decode cX11_act 91 = .ok (.aload_n 0, 1) := by decide +kernel
theorem dX11_act_92 : decode cX11_act 92 = .ok (.getfield 303, 3) := by decide +kernel
theorem dX11_act_95 : decode cX11_act 95 = .ok (.iload_n 3, 1) := by decide +kernel
theorem dX11_act_96 : decode cX11_act 96 = .ok (.invokevirtual 309, 3) := by decide +kernel
theorem dX11_act_99 : decode cX11_act 99 = .ok (.ireturn, 1) := by decide +kernel
theorem dX11_act_100 : decode cX11_act 100 = .ok (.iconst 0, 1) := by decide +kernel
theorem dX11_act_101 : decode cX11_act 101 = .ok (.ireturn, 1) := by decide +kernel
def fX11_act (x1 : Int32) (x2 : Int32) (x3 : Int32) (s : mS) : Option (Int32 × mS) :=
  bnd (pI s iX_ran (nI 0)) fun s1 =>
  bO (fX11_isBody x1 s1) fun r2 =>
  if r2 = 0 then
    some ((nI 0), s1)
  else
    ldA s1 aX_bodyKind 50 x1 fun v3 =>
    bnd (pI s1 iX_ownKind v3) fun s4 =>
    bnd (pI s4 iX_ownNumber x1) fun s5 =>
    if x2 = (nI 0) then
      bP (fX11_typesAs (gI s5 iX_ownKind) x3 s5) fun r6 s7 =>
      some (r6, s7)
    else if x2 = (nI 1) then
      bP (fX11_sticksAs (gI s5 iX_ownKind) x3 s5) fun r8 s9 =>
      some (r8, s9)
    else if x2 = (nI 2) then
      bP (fX11_ringsAs (gI s5 iX_ownKind) x3 s5) fun r10 s11 =>
      some (r10, s11)
    else if x2 = (nI 3) then
      bP (fX11_tellsAs (gI s5 iX_ownKind) x3 s5) fun r12 s13 =>
      some (r12, s13)
    else
      some ((nI 0), s5)

set_option maxRecDepth 20000 in
theorem tX11_act {ρ : mRo} {d : Nat} {P : mPo} {V : mS → List mE} (hV : mView LX V)  {x1 : Int32} {x2 : Int32} {x3 : Int32} {s : mS} {res : (Int32 × mS)} (hf : fX11_act x1 x2 x3 s = some res) (hP : P (some (.int res.1)) (V res.2)) : mC ρ (d + 242) 220 [.ref qX, .int x1, .int x2, .int x3] (V s) P := by
  refine ⟨_, rfl, Nat.le_of_ble_eq_true rfl, by decide, ?_⟩
  show mG ρ (mC ρ (d + 241)) 11 4 cX11_act (some .int) P 0 [(0, .ref qX), (1, .int x1), (2, .int x2), (3, .int x3)] [] (V s)
  unfold fX11_act at hf
  refine e_aload_n 0 dX11_act_0 rfl rfl ?_
  refine e_iconst (w := (nI 0)) dX11_act_1 (by decide) ?_
  refine e_puti hV dX11_act_2 rfl rfl rfl (Or.inl rfl) lx_X rfl hf (fun s1 hf => ?_)
  refine e_aload_n 0 dX11_act_5 rfl rfl ?_
  refine e_iload_n 1 dX11_act_6 rfl rfl ?_
  obtain ⟨r2, hg, hf⟩ := bO_some hf
  refine e_callV (as := [.int x1]) (v := (some (.int r2))) (s' := s1) hV dX11_act_7 (Or.inl rfl) rfl rfl rfl rfl (Nat.le_of_ble_eq_true rfl) lx_X rfl rfl (fun Q hQ => tX11_isBody (d := (d + 239)) hV  hg hQ) ?_
  refine e_if_ne 15 dX11_act_10 (by decide) hf (fun hf => ?_) (fun hf => ?_)
  · refine e_aload_n 0 dX11_act_15 rfl rfl ?_
    refine e_aload_n 0 dX11_act_16 rfl rfl ?_
    refine e_getr hV dX11_act_17 rfl lx_X rfl ?_
    refine e_iload_n 1 dX11_act_20 rfl rfl ?_
    refine e_iald hV dX11_act_21 lx_X_bodyKind hf (fun v3 hf => ?_)
    refine e_puti hV dX11_act_22 rfl rfl rfl (Or.inl rfl) lx_X rfl hf (fun s4 hf => ?_)
    refine e_aload_n 0 dX11_act_25 rfl rfl ?_
    refine e_iload_n 1 dX11_act_26 rfl rfl ?_
    refine e_puti hV dX11_act_27 rfl rfl rfl (Or.inl rfl) lx_X rfl hf (fun s5 hf => ?_)
    refine e_iload_n 2 dX11_act_30 rfl rfl ?_
    by_cases hc0 : x2 = (nI 0)
    · rw [if_pos hc0] at hf
      refine e_tabI (off := 29) (tgt := 60) dX11_act_31 hc0 (by decide) (by decide) ?_
      refine e_aload_n 0 dX11_act_60 rfl rfl ?_
      refine e_aload_n 0 dX11_act_61 rfl rfl ?_
      refine e_geti hV dX11_act_62 rfl lx_X rfl ?_
      refine e_iload_n 3 dX11_act_65 rfl rfl ?_
      obtain ⟨r6, s7, hg, hf⟩ := bP_some hf
      refine e_callV (as := [.int (gI s5 iX_ownKind), .int x3]) (v := (some (.int r6))) (s' := s7) hV dX11_act_66 (Or.inl rfl) rfl rfl rfl rfl (Nat.le_of_ble_eq_true rfl) lx_X rfl rfl (fun Q hQ => tX11_typesAs (d := (d + 180)) hV  hg hQ) ?_
      obtain rfl := Option.some.inj hf
      exact e_iret dX11_act_69 trivial hP
    rw [if_neg hc0] at hf
    by_cases hc1 : x2 = (nI 1)
    · rw [if_pos hc1] at hf
      refine e_tabI (off := 39) (tgt := 70) dX11_act_31 hc1 (by decide) (by decide) ?_
      refine e_aload_n 0 dX11_act_70 rfl rfl ?_
      refine e_aload_n 0 dX11_act_71 rfl rfl ?_
      refine e_geti hV dX11_act_72 rfl lx_X rfl ?_
      refine e_iload_n 3 dX11_act_75 rfl rfl ?_
      obtain ⟨r8, s9, hg, hf⟩ := bP_some hf
      refine e_callV (as := [.int (gI s5 iX_ownKind), .int x3]) (v := (some (.int r8))) (s' := s9) hV dX11_act_76 (Or.inl rfl) rfl rfl rfl rfl (Nat.le_of_ble_eq_true rfl) lx_X rfl rfl (fun Q hQ => tX11_sticksAs (d := (d + 60)) hV  hg hQ) ?_
      obtain rfl := Option.some.inj hf
      exact e_iret dX11_act_79 trivial hP
    rw [if_neg hc1] at hf
    by_cases hc2 : x2 = (nI 2)
    · rw [if_pos hc2] at hf
      refine e_tabI (off := 49) (tgt := 80) dX11_act_31 hc2 (by decide) (by decide) ?_
      refine e_aload_n 0 dX11_act_80 rfl rfl ?_
      refine e_aload_n 0 dX11_act_81 rfl rfl ?_
      refine e_geti hV dX11_act_82 rfl lx_X rfl ?_
      refine e_iload_n 3 dX11_act_85 rfl rfl ?_
      obtain ⟨r10, s11, hg, hf⟩ := bP_some hf
      refine e_callV (as := [.int (gI s5 iX_ownKind), .int x3]) (v := (some (.int r10))) (s' := s11) hV dX11_act_86 (Or.inl rfl) rfl rfl rfl rfl (Nat.le_of_ble_eq_true rfl) lx_X rfl rfl (fun Q hQ => tX11_ringsAs (d := (d + 120)) hV  hg hQ) ?_
      obtain rfl := Option.some.inj hf
      exact e_iret dX11_act_89 trivial hP
    rw [if_neg hc2] at hf
    by_cases hc3 : x2 = (nI 3)
    · rw [if_pos hc3] at hf
      refine e_tabI (off := 59) (tgt := 90) dX11_act_31 hc3 (by decide) (by decide) ?_
      refine e_aload_n 0 dX11_act_90 rfl rfl ?_
      refine e_aload_n 0 dX11_act_91 rfl rfl ?_
      refine e_geti hV dX11_act_92 rfl lx_X rfl ?_
      refine e_iload_n 3 dX11_act_95 rfl rfl ?_
      obtain ⟨r12, s13, hg, hf⟩ := bP_some hf
      refine e_callV (as := [.int (gI s5 iX_ownKind), .int x3]) (v := (some (.int r12))) (s' := s13) hV dX11_act_96 (Or.inl rfl) rfl rfl rfl rfl (Nat.le_of_ble_eq_true rfl) lx_X rfl rfl (fun Q hQ => tX11_tellsAs (d := d) hV  hg hQ) ?_
      obtain rfl := Option.some.inj hf
      exact e_iret dX11_act_99 trivial hP
    rw [if_neg hc3] at hf
    refine e_tabD (tgt := 100) (ks := [(nI 0), (nI 1), (nI 2), (nI 3)]) dX11_act_31 (by decide) (fun z hz => ?_) ?_
    · simp only [List.mem_cons, List.not_mem_nil, or_false] at hz
      rcases hz with rfl | rfl | rfl | rfl
      · exact hc0
      · exact hc1
      · exact hc2
      · exact hc3
    refine e_iconst (w := (nI 0)) dX11_act_100 (by decide) ?_
    obtain rfl := Option.some.inj hf
    exact e_iret dX11_act_101 trivial hP
  · refine e_iconst (w := (nI 0)) dX11_act_13 (by decide) ?_
    obtain rfl := Option.some.inj hf
    exact e_iret dX11_act_14 trivial hP

theorem dX11_trace_0 : decode cX11_trace 0 = .ok (.iload_n 1, 1) := by decide +kernel
theorem dX11_trace_1 : decode cX11_trace 1 = .ok (.ifCond .lt 26, 3) := by decide +kernel
theorem dX11_trace_4 : decode cX11_trace 4 = .ok (.iload_n 1, 1) := by decide +kernel
theorem dX11_trace_5 : decode cX11_trace 5 = .ok (.aload_n 0, 1) := by decide +kernel
theorem dX11_trace_6 : decode cX11_trace 6 = .ok (.getfield 287, 3) := by decide +kernel
theorem dX11_trace_9 : decode cX11_trace 9 = .ok (.if_icmp .ge 18, 3) := by decide +kernel
theorem dX11_trace_12 : decode cX11_trace 12 = .ok (.iload_n 1, 1) := by decide +kernel
theorem dX11_trace_13 : decode cX11_trace 13 = .ok (.bipush 24, 2) := by decide +kernel
theorem dX11_trace_15 : decode cX11_trace 15 = .ok (.if_icmp .ge 12, 3) := by decide +kernel
theorem dX11_trace_18 : decode cX11_trace 18 = .ok (.aload_n 0, 1) := by decide +kernel
theorem dX11_trace_19 : decode cX11_trace 19 = .ok (.getfield 65, 3) := by decide +kernel
theorem dX11_trace_22 : decode cX11_trace 22 = .ok (.iload_n 1, 1) := by decide +kernel
theorem dX11_trace_23 : decode cX11_trace 23 = .ok (.iaload, 1) := by decide +kernel
theorem dX11_trace_24 : decode cX11_trace 24 = .ok (.goto 4, 3) := by decide +kernel
theorem dX11_trace_27 : decode cX11_trace 27 = .ok (.iconst (-1), 1) := by decide +kernel
theorem dX11_trace_28 : decode cX11_trace 28 = .ok (.ireturn, 1) := by decide +kernel
def fX11_trace (x1 : Int32) (s : mS) : Option Int32 :=
  if x1 < 0 then
    some (-1)
  else
    if (gI s iX_ran) ≤ x1 then
      some (-1)
    else
      if (nI 24) ≤ x1 then
        some (-1)
      else
        ldA s aX_trace 24 x1 fun v1 =>
        some v1

set_option maxRecDepth 20000 in
theorem tX11_trace {ρ : mRo} {d : Nat} {P : mPo} {V : mS → List mE} (hV : mView LX V)  {x1 : Int32} {s : mS} {res : Int32} (hf : fX11_trace x1 s = some res) (hP : P (some (.int res)) (V s)) : mC ρ (d + 1) 221 [.ref qX, .int x1] (V s) P := by
  refine ⟨_, rfl, Nat.le_of_ble_eq_true rfl, by decide, ?_⟩
  show mG ρ (mC ρ d) 11 2 cX11_trace (some .int) P 0 [(0, .ref qX), (1, .int x1)] [] (V s)
  unfold fX11_trace at hf
  refine e_iload_n 1 dX11_trace_0 rfl rfl ?_
  refine e_if_lt 27 dX11_trace_1 (by decide) hf (fun hf => ?_) (fun hf => ?_)
  · refine e_iconst (w := (-1)) dX11_trace_27 (by decide) ?_
    obtain rfl := Option.some.inj hf
    exact e_iret dX11_trace_28 trivial hP
  · refine e_iload_n 1 dX11_trace_4 rfl rfl ?_
    refine e_aload_n 0 dX11_trace_5 rfl rfl ?_
    refine e_geti hV dX11_trace_6 rfl lx_X rfl ?_
    refine e_icmp_ge 27 dX11_trace_9 (by decide) hf (fun hf => ?_) (fun hf => ?_)
    · refine e_iconst (w := (-1)) dX11_trace_27 (by decide) ?_
      obtain rfl := Option.some.inj hf
      exact e_iret dX11_trace_28 trivial hP
    · refine e_iload_n 1 dX11_trace_12 rfl rfl ?_
      refine e_bipush (w := (nI 24)) dX11_trace_13 (by decide) ?_
      refine e_icmp_ge 27 dX11_trace_15 (by decide) hf (fun hf => ?_) (fun hf => ?_)
      · refine e_iconst (w := (-1)) dX11_trace_27 (by decide) ?_
        obtain rfl := Option.some.inj hf
        exact e_iret dX11_trace_28 trivial hP
      · refine e_aload_n 0 dX11_trace_18 rfl rfl ?_
        refine e_getr hV dX11_trace_19 rfl lx_X rfl ?_
        refine e_iload_n 1 dX11_trace_22 rfl rfl ?_
        refine e_iald hV dX11_trace_23 lx_X_trace hf (fun v1 hf => ?_)
        refine e_goto 28 dX11_trace_24 (by decide) ?_
        obtain rfl := Option.some.inj hf
        exact e_iret dX11_trace_28 trivial hP

theorem dX11_keep_0 : decode cX11_keep 0 = .ok (.iload_n 1, 1) := by decide +kernel
theorem dX11_keep_1 : decode cX11_keep 1 = .ok (.invokestatic 111, 3) := by decide +kernel
theorem dX11_keep_4 : decode cX11_keep 4 = .ok (.ifCond .eq 16, 3) := by decide +kernel
theorem dX11_keep_7 : decode cX11_keep 7 = .ok (.iload_n 2, 1) := by decide +kernel
theorem dX11_keep_8 : decode cX11_keep 8 = .ok (.iconst (-1), 1) := by decide +kernel
theorem dX11_keep_9 : decode cX11_keep 9 = .ok (.if_icmp .eq 13, 3) := by decide +kernel
theorem dX11_keep_12 : decode cX11_keep 12 = .ok (.aload_n 0, 1) := by decide +kernel
theorem dX11_keep_13 : decode cX11_keep 13 = .ok (.iload_n 2, 1) := by decide +kernel
theorem dX11_keep_14 : decode cX11_keep 14 = .ok (.invokevirtual 312, 3) := by decide +kernel
theorem dX11_keep_17 : decode cX11_keep 17 = .ok (.ifCond .ne 5, 3) := by decide +kernel
theorem dX11_keep_20 : decode cX11_keep 20 = .ok (.iconst (-1), 1) := by decide +kernel
theorem dX11_keep_21 : decode cX11_keep 21 = .ok (.ireturn, 1) := by decide +kernel
theorem dX11_keep_22 : decode cX11_keep 22 = .ok (.aload_n 0, 1) := by decide +kernel
theorem dX11_keep_23 : decode cX11_keep 23 = .ok (.getfield 68, 3) := by decide +kernel
theorem dX11_keep_26 : decode cX11_keep 26 = .ok (.iload_n 1, 1) := by decide +kernel
theorem dX11_keep_27 : decode cX11_keep 27 = .ok (.iload_n 2, 1) := by decide +kernel
theorem dX11_keep_28 : decode cX11_keep 28 = .ok (.iastore, 1) := by decide +kernel
theorem dX11_keep_29 : decode cX11_keep 29 = .ok (.aload_n 0, 1) := by decide +kernel
theorem dX11_keep_30 : decode cX11_keep 30 = .ok (.getfield 71, 3) := by decide +kernel
theorem dX11_keep_33 : decode cX11_keep 33 = .ok (.iload_n 1, 1) := by decide +kernel
theorem dX11_keep_34 : decode cX11_keep 34 = .ok (.iconst 0, 1) := by decide +kernel
theorem dX11_keep_35 : decode cX11_keep 35 = .ok (.iastore, 1) := by decide +kernel
theorem dX11_keep_36 : decode cX11_keep 36 = .ok (.iconst 1, 1) := by decide +kernel
theorem dX11_keep_37 : decode cX11_keep 37 = .ok (.ireturn, 1) := by decide +kernel
def fX11_keep_b22 (y1 : Int32) (y2 : Int32) (s : mS) : Option (Int32 × mS) :=
  stA s aX_shelf 6 y1 y2 fun s2 =>
  stA s2 aX_many 6 y1 (nI 0) fun s3 =>
  some ((nI 1), s3)

def fX11_keep (x1 : Int32) (x2 : Int32) (s : mS) : Option (Int32 × mS) :=
  bO (fX11_isShelf x1 s) fun r1 =>
  if r1 = 0 then
    some ((-1), s)
  else
    if x2 = (-1) then
      fX11_keep_b22 x1 x2 s
    else
      bO (fX11_isBody x2 s) fun r4 =>
      if r4 = 0 then
        some ((-1), s)
      else
        fX11_keep_b22 x1 x2 s

set_option maxRecDepth 20000 in
theorem wX11_keep_b22 {ρ : mRo} {d : Nat} {P : mPo} {V : mS → List mE} (hV : mView LX V)  {res : (Int32 × mS)} (hP : P (some (.int res.1)) (V res.2)) (y1 : Int32) (y2 : Int32) (s : mS) (hf : fX11_keep_b22 y1 y2 s = some res) : mG ρ (mC ρ (d + 2)) 11 3 cX11_keep (some .int) P 22 [(0, .ref qX), (1, .int y1), (2, .int y2)] [] (V s) := by
  unfold fX11_keep_b22 at hf
  refine e_aload_n 0 dX11_keep_22 rfl rfl ?_
  refine e_getr hV dX11_keep_23 rfl lx_X rfl ?_
  refine e_iload_n 1 dX11_keep_26 rfl rfl ?_
  refine e_iload_n 2 dX11_keep_27 rfl rfl ?_
  refine e_iast hV dX11_keep_28 lx_X_shelf hf (fun s2 hf => ?_)
  refine e_aload_n 0 dX11_keep_29 rfl rfl ?_
  refine e_getr hV dX11_keep_30 rfl lx_X rfl ?_
  refine e_iload_n 1 dX11_keep_33 rfl rfl ?_
  refine e_iconst (w := (nI 0)) dX11_keep_34 (by decide) ?_
  refine e_iast hV dX11_keep_35 lx_X_many hf (fun s3 hf => ?_)
  refine e_iconst (w := (nI 1)) dX11_keep_36 (by decide) ?_
  obtain rfl := Option.some.inj hf
  exact e_iret dX11_keep_37 trivial hP
set_option maxRecDepth 20000 in
theorem tX11_keep {ρ : mRo} {d : Nat} {P : mPo} {V : mS → List mE} (hV : mView LX V)  {x1 : Int32} {x2 : Int32} {s : mS} {res : (Int32 × mS)} (hf : fX11_keep x1 x2 s = some res) (hP : P (some (.int res.1)) (V res.2)) : mC ρ (d + 3) 223 [.ref qX, .int x1, .int x2] (V s) P := by
  refine ⟨_, rfl, Nat.le_of_ble_eq_true rfl, by decide, ?_⟩
  show mG ρ (mC ρ (d + 2)) 11 3 cX11_keep (some .int) P 0 [(0, .ref qX), (1, .int x1), (2, .int x2)] [] (V s)
  unfold fX11_keep at hf
  refine e_iload_n 1 dX11_keep_0 rfl rfl ?_
  obtain ⟨r1, hg, hf⟩ := bO_some hf
  refine e_callS (as := [.int x1]) (v := (some (.int r1))) (s' := s) dX11_keep_1 rfl rfl rfl rfl rfl (Nat.le_of_ble_eq_true rfl) (fun Q hQ => tX11_isShelf (d := d) hV  hg hQ) ?_
  refine e_if_eq 20 dX11_keep_4 (by decide) hf (fun hf => ?_) (fun hf => ?_)
  · refine e_iconst (w := (-1)) dX11_keep_20 (by decide) ?_
    obtain rfl := Option.some.inj hf
    exact e_iret dX11_keep_21 trivial hP
  · refine e_iload_n 2 dX11_keep_7 rfl rfl ?_
    refine e_iconst (w := (-1)) dX11_keep_8 (by decide) ?_
    refine e_icmp_eq 22 dX11_keep_9 (by decide) hf (fun hf => ?_) (fun hf => ?_)
    · refine e_pick [0, 1, 2] rfl ?_
      exact wX11_keep_b22 hV hP x1 x2 s hf
    · refine e_aload_n 0 dX11_keep_12 rfl rfl ?_
      refine e_iload_n 2 dX11_keep_13 rfl rfl ?_
      obtain ⟨r4, hg, hf⟩ := bO_some hf
      refine e_callV (as := [.int x2]) (v := (some (.int r4))) (s' := s) hV dX11_keep_14 (Or.inl rfl) rfl rfl rfl rfl (Nat.le_of_ble_eq_true rfl) lx_X rfl rfl (fun Q hQ => tX11_isBody (d := d) hV  hg hQ) ?_
      refine e_if_ne 22 dX11_keep_17 (by decide) hf (fun hf => ?_) (fun hf => ?_)
      · refine e_pick [0, 1, 2] rfl ?_
        exact wX11_keep_b22 hV hP x1 x2 s hf
      · refine e_iconst (w := (-1)) dX11_keep_20 (by decide) ?_
        obtain rfl := Option.some.inj hf
        exact e_iret dX11_keep_21 trivial hP

theorem dX11_row_0 : decode cX11_row 0 = .ok (.iload_n 1, 1) := by decide +kernel
theorem dX11_row_1 : decode cX11_row 1 = .ok (.invokestatic 111, 3) := by decide +kernel
theorem dX11_row_4 : decode cX11_row 4 = .ok (.ifCond .eq 21, 3) := by decide +kernel
theorem dX11_row_7 : decode cX11_row 7 = .ok (.iload_n 2, 1) := by decide +kernel
theorem dX11_row_8 : decode cX11_row 8 = .ok (.i2l, 1) := by decide +kernel
theorem dX11_row_9 : decode cX11_row 9 = .ok (.lconst 0, 1) := by decide +kernel
theorem dX11_row_10 : decode cX11_row 10 = .ok (.ldc2_w 130, 3) := by decide +kernel
theorem dX11_row_13 : decode cX11_row 13 = .ok (.invokestatic 93, 3) := by decide +kernel
theorem dX11_row_16 : decode cX11_row 16 = .ok (.ifCond .eq 9, 3) := by decide +kernel
theorem dX11_row_19 : decode cX11_row 19 = .ok (.iload_n 3, 1) := by decide +kernel
theorem dX11_row_20 : decode cX11_row 20 = .ok (.bipush 60, 2) := by decide +kernel
theorem dX11_row_22 : decode cX11_row 22 = .ok (.if_icmp .le 5, 3) := by decide +kernel
theorem dX11_row_25 : decode cX11_row 25 = .ok (.iconst (-1), 1) := by decide +kernel
theorem dX11_row_26 : decode cX11_row 26 = .ok (.ireturn, 1) := by decide +kernel
theorem dX11_row_27 : decode cX11_row 27 = .ok (.iload_n 3, 1) := by decide +kernel
theorem dX11_row_28 : decode cX11_row 28 = .ok (.ifCond .ge 6, 3) := by decide +kernel
theorem dX11_row_31 : decode cX11_row 31 = .ok (.bipush (-14), 2) := by decide +kernel
theorem dX11_row_33 : decode cX11_row 33 = .ok (.ireturn, 1) := by decide +kernel
theorem dX11_row_34 : decode cX11_row 34 = .ok (.aload_n 0, 1) := by decide +kernel
theorem dX11_row_35 : decode cX11_row 35 = .ok (.getfield 68, 3) := by decide +kernel
theorem dX11_row_38 : decode cX11_row 38 = .ok (.iload_n 1, 1) := by decide +kernel
theorem dX11_row_39 : decode cX11_row 39 = .ok (.bipush 50, 2) := by decide +kernel
theorem dX11_row_41 : decode cX11_row 41 = .ok (.iload_n 2, 1) := by decide +kernel
theorem dX11_row_42 : decode cX11_row 42 = .ok (.iadd, 1) := by decide +kernel
theorem dX11_row_43 : decode cX11_row 43 = .ok (.iastore, 1) := by decide +kernel
theorem dX11_row_44 : decode cX11_row 44 = .ok (.aload_n 0, 1) := by decide +kernel
theorem dX11_row_45 : decode cX11_row 45 = .ok (.getfield 71, 3) := by decide +kernel
theorem dX11_row_48 : decode cX11_row 48 = .ok (.iload_n 1, 1) := by decide +kernel
theorem dX11_row_49 : decode cX11_row 49 = .ok (.iload_n 3, 1) := by decide +kernel
theorem dX11_row_50 : decode cX11_row 50 = .ok (.iastore, 1) := by decide +kernel
theorem dX11_row_51 : decode cX11_row 51 = .ok (.bipush 60, 2) := by decide +kernel
theorem dX11_row_53 : decode cX11_row 53 = .ok (.iload_n 1, 1) := by decide +kernel
theorem dX11_row_54 : decode cX11_row 54 = .ok (.imul, 1) := by decide +kernel
theorem dX11_row_55 : decode cX11_row 55 = .ok (.istore 4, 2) := by decide +kernel
theorem dX11_row_57 : decode cX11_row 57 = .ok (.iload 4, 2) := by decide +kernel
theorem dX11_row_59 : decode cX11_row 59 = .ok (.bipush 60, 2) := by decide +kernel
theorem dX11_row_61 : decode cX11_row 61 = .ok (.iload_n 1, 1) := by decide +kernel
theorem dX11_row_62 : decode cX11_row 62 = .ok (.imul, 1) := by decide +kernel
theorem dX11_row_63 : decode cX11_row 63 = .ok (.bipush 60, 2) := by decide +kernel
theorem dX11_row_65 : decode cX11_row 65 = .ok (.iadd, 1) := by decide +kernel
theorem dX11_row_66 : decode cX11_row 66 = .ok (.if_icmp .ge 17, 3) := by decide +kernel
theorem dX11_row_69 : decode cX11_row 69 = .ok (.aload_n 0, 1) := by decide +kernel
theorem dX11_row_70 : decode cX11_row 70 = .ok (.getfield 74, 3) := by decide +kernel
theorem dX11_row_73 : decode cX11_row 73 = .ok (.iload 4, 2) := by decide +kernel
theorem dX11_row_75 : decode cX11_row 75 = .ok (.lconst 0, 1) := by decide +kernel
theorem dX11_row_76 : decode cX11_row 76 = .ok (.lastore, 1) := by decide +kernel
theorem dX11_row_77 : decode cX11_row 77 = .ok (.iinc 4 1, 3) := by decide +kernel
theorem dX11_row_80 : decode cX11_row 80 = .ok (.goto (-23), 3) := by decide +kernel
theorem dX11_row_83 : decode cX11_row 83 = .ok (.iconst 1, 1) := by decide +kernel
theorem dX11_row_84 : decode cX11_row 84 = .ok (.ireturn, 1) := by decide +kernel
def fX11_row_b57 : Nat → Int32 → Int32 → mS → Option (Int32 × mS)
  | 0, _, _, _ => none
  | k + 1, y1, y4, s =>
    if (((nI 60) * y1) + (nI 60)) ≤ y4 then
      some ((nI 1), s)
    else
      stL s lX_items 360 y4 0 fun s6 =>
      bnd (y4 + (nI 1)) fun v7 =>
      fX11_row_b57 k y1 v7 s6

def fX11_row (x1 : Int32) (x2 : Int32) (x3 : Int32) (s : mS) : Option (Int32 × mS) :=
  bO (fX11_isShelf x1 s) fun r1 =>
  if r1 = 0 then
    some ((-1), s)
  else
    bO (fX11_within (Int32.toInt64 x2) 0 4 s) fun r2 =>
    if r2 = 0 then
      some ((-1), s)
    else
      if x3 ≤ (nI 60) then
        if 0 ≤ x3 then
          stA s aX_shelf 6 x1 ((nI 50) + x2) fun s3 =>
          stA s3 aX_many 6 x1 x3 fun s4 =>
          bnd ((nI 60) * x1) fun v5 =>
          fX11_row_b57 mFu x1 v5 s4
        else
          some ((-14), s)
      else
        some ((-1), s)

set_option maxRecDepth 20000 in
theorem wX11_row_b57 {ρ : mRo} {d : Nat} {P : mPo} {V : mS → List mE} (hV : mView LX V)  {res : (Int32 × mS)} (hP : P (some (.int res.1)) (V res.2)) : ∀ (k : Nat) (y1 : Int32) (y4 : Int32) (s : mS), fX11_row_b57 k y1 y4 s = some res → mG ρ (mC ρ (d + 2)) 11 5 cX11_row (some .int) P 57 [(0, .ref qX), (1, .int y1), (4, .int y4)] [] (V s) := by
  intro k
  induction k with
  | zero => intro y1 y4 s hf; rw [fX11_row_b57] at hf; cases hf
  | succ k ih =>
    intro y1 y4 s hf
    rw [fX11_row_b57] at hf
    refine e_iload 2 dX11_row_57 rfl ?_
    refine e_bipush (w := (nI 60)) dX11_row_59 (by decide) ?_
    refine e_iload_n 1 dX11_row_61 rfl rfl ?_
    refine e_imul dX11_row_62 ?_
    refine e_bipush (w := (nI 60)) dX11_row_63 (by decide) ?_
    refine e_iadd dX11_row_65 ?_
    refine e_icmp_ge 83 dX11_row_66 (by decide) hf (fun hf => ?_) (fun hf => ?_)
    · refine e_iconst (w := (nI 1)) dX11_row_83 (by decide) ?_
      obtain rfl := Option.some.inj hf
      exact e_iret dX11_row_84 trivial hP
    · refine e_aload_n 0 dX11_row_69 rfl rfl ?_
      refine e_getr hV dX11_row_70 rfl lx_X rfl ?_
      refine e_iload 2 dX11_row_73 rfl ?_
      refine e_lconst (w := 0) dX11_row_75 (by decide) ?_
      refine e_last hV dX11_row_76 lx_X_items hf (fun s6 hf => ?_)
      refine e_iinc 2 dX11_row_77 (by decide) rfl hf (fun v7 hf => ?_)
      refine e_goto 57 dX11_row_80 (by decide) ?_
      refine e_pick [1, 2, 0] rfl ?_
      exact ih y1 v7 s6 hf
set_option maxRecDepth 20000 in
theorem tX11_row {ρ : mRo} {d : Nat} {P : mPo} {V : mS → List mE} (hV : mView LX V)  {x1 : Int32} {x2 : Int32} {x3 : Int32} {s : mS} {res : (Int32 × mS)} (hf : fX11_row x1 x2 x3 s = some res) (hP : P (some (.int res.1)) (V res.2)) : mC ρ (d + 3) 224 [.ref qX, .int x1, .int x2, .int x3] (V s) P := by
  refine ⟨_, rfl, Nat.le_of_ble_eq_true rfl, by decide, ?_⟩
  show mG ρ (mC ρ (d + 2)) 11 5 cX11_row (some .int) P 0 [(0, .ref qX), (1, .int x1), (2, .int x2), (3, .int x3)] [] (V s)
  unfold fX11_row at hf
  refine e_iload_n 1 dX11_row_0 rfl rfl ?_
  obtain ⟨r1, hg, hf⟩ := bO_some hf
  refine e_callS (as := [.int x1]) (v := (some (.int r1))) (s' := s) dX11_row_1 rfl rfl rfl rfl rfl (Nat.le_of_ble_eq_true rfl) (fun Q hQ => tX11_isShelf (d := d) hV  hg hQ) ?_
  refine e_if_eq 25 dX11_row_4 (by decide) hf (fun hf => ?_) (fun hf => ?_)
  · refine e_iconst (w := (-1)) dX11_row_25 (by decide) ?_
    obtain rfl := Option.some.inj hf
    exact e_iret dX11_row_26 trivial hP
  · refine e_iload_n 2 dX11_row_7 rfl rfl ?_
    refine e_i2l dX11_row_8 ?_
    refine e_lconst (w := 0) dX11_row_9 (by decide) ?_
    refine e_ldc2_w (w := 4) dX11_row_10 rfl ?_
    obtain ⟨r2, hg, hf⟩ := bO_some hf
    refine e_callS (as := [.long (Int32.toInt64 x2), .long 0, .long 4]) (v := (some (.int r2))) (s' := s) dX11_row_13 rfl rfl rfl rfl rfl (Nat.le_of_ble_eq_true rfl) (fun Q hQ => tX11_within (d := (d + 1)) hV  hg hQ) ?_
    refine e_if_eq 25 dX11_row_16 (by decide) hf (fun hf => ?_) (fun hf => ?_)
    · refine e_iconst (w := (-1)) dX11_row_25 (by decide) ?_
      obtain rfl := Option.some.inj hf
      exact e_iret dX11_row_26 trivial hP
    · refine e_iload_n 3 dX11_row_19 rfl rfl ?_
      refine e_bipush (w := (nI 60)) dX11_row_20 (by decide) ?_
      refine e_icmp_le 27 dX11_row_22 (by decide) hf (fun hf => ?_) (fun hf => ?_)
      · refine e_iload_n 3 dX11_row_27 rfl rfl ?_
        refine e_if_ge 34 dX11_row_28 (by decide) hf (fun hf => ?_) (fun hf => ?_)
        · refine e_aload_n 0 dX11_row_34 rfl rfl ?_
          refine e_getr hV dX11_row_35 rfl lx_X rfl ?_
          refine e_iload_n 1 dX11_row_38 rfl rfl ?_
          refine e_bipush (w := (nI 50)) dX11_row_39 (by decide) ?_
          refine e_iload_n 2 dX11_row_41 rfl rfl ?_
          refine e_iadd dX11_row_42 ?_
          refine e_iast hV dX11_row_43 lx_X_shelf hf (fun s3 hf => ?_)
          refine e_aload_n 0 dX11_row_44 rfl rfl ?_
          refine e_getr hV dX11_row_45 rfl lx_X rfl ?_
          refine e_iload_n 1 dX11_row_48 rfl rfl ?_
          refine e_iload_n 3 dX11_row_49 rfl rfl ?_
          refine e_iast hV dX11_row_50 lx_X_many hf (fun s4 hf => ?_)
          refine e_bipush (w := (nI 60)) dX11_row_51 (by decide) ?_
          refine e_iload_n 1 dX11_row_53 rfl rfl ?_
          refine e_imul dX11_row_54 ?_
          refine e_istore dX11_row_55 (by decide) hf (fun v5 hf => ?_)
          refine e_pick [1, 2, 0] rfl ?_
          exact wX11_row_b57 hV hP mFu x1 v5 s4 hf
        · refine e_bipush (w := (-14)) dX11_row_31 (by decide) ?_
          obtain rfl := Option.some.inj hf
          exact e_iret dX11_row_33 trivial hP
      · refine e_iconst (w := (-1)) dX11_row_25 (by decide) ?_
        obtain rfl := Option.some.inj hf
        exact e_iret dX11_row_26 trivial hP

theorem dX11_refusal_0 : decode cX11_refusal 0 = .ok (.iload_n 1, 1) := by decide +kernel
theorem dX11_refusal_1 : decode cX11_refusal 1 = .ok (.invokestatic 111, 3) := by decide +kernel
theorem dX11_refusal_4 : decode cX11_refusal 4 = .ok (.ifCond .ne 5, 3) := by decide +kernel
theorem dX11_refusal_7 : decode cX11_refusal 7 = .ok (.iconst (-1), 1) := by decide +kernel
theorem dX11_refusal_8 : decode cX11_refusal 8 = .ok (.ireturn, 1) := by decide +kernel
theorem dX11_refusal_9 : decode cX11_refusal 9 = .ok (.aload_n 0, 1) := by decide +kernel
theorem dX11_refusal_10 : decode cX11_refusal 10 = .ok (.getfield 68, 3) := by decide +kernel
theorem dX11_refusal_13 : decode cX11_refusal 13 = .ok (.iload_n 1, 1) := by decide +kernel
theorem dX11_refusal_14 : decode cX11_refusal 14 = .ok (.iaload, 1) := by decide +kernel
theorem dX11_refusal_15 : decode cX11_refusal 15 = .ok (.ifCond .ge 6, 3) := by decide +kernel
theorem dX11_refusal_18 : decode cX11_refusal 18 = .ok (.bipush (-11), 2) := by decide +kernel
theorem dX11_refusal_20 : decode cX11_refusal 20 = .ok (.ireturn, 1) := by decide +kernel
theorem dX11_refusal_21 : decode cX11_refusal 21 = .ok (.aload_n 0, 1) := by decide +kernel
theorem dX11_refusal_22 : decode cX11_refusal 22 = .ok (.getfield 68, 3) := by decide +kernel
theorem dX11_refusal_25 : decode cX11_refusal 25 = .ok (.iload_n 1, 1) := by decide +kernel
theorem dX11_refusal_26 : decode cX11_refusal 26 = .ok (.iaload, 1) := by decide +kernel
theorem dX11_refusal_27 : decode cX11_refusal 27 = .ok (.bipush 50, 2) := by decide +kernel
theorem dX11_refusal_29 : decode cX11_refusal 29 = .ok (.if_icmp .ge 6, 3) := by decide +kernel
theorem dX11_refusal_32 : decode cX11_refusal 32 = .ok (.bipush (-12), 2) := by decide +kernel
theorem dX11_refusal_34 : decode cX11_refusal 34 = .ok (.ireturn, 1) := by decide +kernel
theorem dX11_refusal_35 : decode cX11_refusal 35 = .ok (.iload_n 2, 1) := by decide +kernel
theorem dX11_refusal_36 : decode cX11_refusal 36 = .ok (.ifCond .lt 17, 3) := by decide +kernel
theorem dX11_refusal_39 : decode cX11_refusal 39 = .ok (.iload_n 2, 1) := by decide +kernel
theorem dX11_refusal_40 : decode cX11_refusal 40 = .ok (.aload_n 0, 1) := by decide +kernel
theorem dX11_refusal_41 : decode cX11_refusal 41 = .ok (.getfield 71, 3) := by decide +kernel
theorem dX11_refusal_44 : decode cX11_refusal 44 = .ok (.iload_n 1, 1) := by decide +kernel
theorem dX11_refusal_45 : decode cX11_refusal 45 = .ok (.iaload, 1) := by decide +kernel
theorem dX11_refusal_46 : decode cX11_refusal 46 = .ok (.if_icmp .ge 7, 3) := by decide +kernel
theorem dX11_refusal_49 : decode cX11_refusal 49 = .ok (.iconst 0, 1) := by decide +kernel
theorem dX11_refusal_50 : decode cX11_refusal 50 = .ok (.goto 5, 3) := by decide +kernel
theorem dX11_refusal_53 : decode cX11_refusal 53 = .ok (.bipush (-13), 2) := by decide +kernel
theorem dX11_refusal_55 : decode cX11_refusal 55 = .ok (.ireturn, 1) := by decide +kernel
def fX11_refusal (x1 : Int32) (x2 : Int32) (s : mS) : Option Int32 :=
  bO (fX11_isShelf x1 s) fun r1 =>
  if r1 = 0 then
    some (-1)
  else
    ldA s aX_shelf 6 x1 fun v2 =>
    if 0 ≤ v2 then
      ldA s aX_shelf 6 x1 fun v3 =>
      if (nI 50) ≤ v3 then
        if x2 < 0 then
          some (-13)
        else
          ldA s aX_many 6 x1 fun v4 =>
          if v4 ≤ x2 then
            some (-13)
          else
            some (nI 0)
      else
        some (-12)
    else
      some (-11)

set_option maxRecDepth 20000 in
theorem tX11_refusal {ρ : mRo} {d : Nat} {P : mPo} {V : mS → List mE} (hV : mView LX V)  {x1 : Int32} {x2 : Int32} {s : mS} {res : Int32} (hf : fX11_refusal x1 x2 s = some res) (hP : P (some (.int res)) (V s)) : mC ρ (d + 3) 225 [.ref qX, .int x1, .int x2] (V s) P := by
  refine ⟨_, rfl, Nat.le_of_ble_eq_true rfl, by decide, ?_⟩
  show mG ρ (mC ρ (d + 2)) 11 3 cX11_refusal (some .int) P 0 [(0, .ref qX), (1, .int x1), (2, .int x2)] [] (V s)
  unfold fX11_refusal at hf
  refine e_iload_n 1 dX11_refusal_0 rfl rfl ?_
  obtain ⟨r1, hg, hf⟩ := bO_some hf
  refine e_callS (as := [.int x1]) (v := (some (.int r1))) (s' := s) dX11_refusal_1 rfl rfl rfl rfl rfl (Nat.le_of_ble_eq_true rfl) (fun Q hQ => tX11_isShelf (d := d) hV  hg hQ) ?_
  refine e_if_ne 9 dX11_refusal_4 (by decide) hf (fun hf => ?_) (fun hf => ?_)
  · refine e_aload_n 0 dX11_refusal_9 rfl rfl ?_
    refine e_getr hV dX11_refusal_10 rfl lx_X rfl ?_
    refine e_iload_n 1 dX11_refusal_13 rfl rfl ?_
    refine e_iald hV dX11_refusal_14 lx_X_shelf hf (fun v2 hf => ?_)
    refine e_if_ge 21 dX11_refusal_15 (by decide) hf (fun hf => ?_) (fun hf => ?_)
    · refine e_aload_n 0 dX11_refusal_21 rfl rfl ?_
      refine e_getr hV dX11_refusal_22 rfl lx_X rfl ?_
      refine e_iload_n 1 dX11_refusal_25 rfl rfl ?_
      refine e_iald hV dX11_refusal_26 lx_X_shelf hf (fun v3 hf => ?_)
      refine e_bipush (w := (nI 50)) dX11_refusal_27 (by decide) ?_
      refine e_icmp_ge 35 dX11_refusal_29 (by decide) hf (fun hf => ?_) (fun hf => ?_)
      · refine e_iload_n 2 dX11_refusal_35 rfl rfl ?_
        refine e_if_lt 53 dX11_refusal_36 (by decide) hf (fun hf => ?_) (fun hf => ?_)
        · refine e_bipush (w := (-13)) dX11_refusal_53 (by decide) ?_
          obtain rfl := Option.some.inj hf
          exact e_iret dX11_refusal_55 trivial hP
        · refine e_iload_n 2 dX11_refusal_39 rfl rfl ?_
          refine e_aload_n 0 dX11_refusal_40 rfl rfl ?_
          refine e_getr hV dX11_refusal_41 rfl lx_X rfl ?_
          refine e_iload_n 1 dX11_refusal_44 rfl rfl ?_
          refine e_iald hV dX11_refusal_45 lx_X_many hf (fun v4 hf => ?_)
          refine e_icmp_ge 53 dX11_refusal_46 (by decide) hf (fun hf => ?_) (fun hf => ?_)
          · refine e_bipush (w := (-13)) dX11_refusal_53 (by decide) ?_
            obtain rfl := Option.some.inj hf
            exact e_iret dX11_refusal_55 trivial hP
          · refine e_iconst (w := (nI 0)) dX11_refusal_49 (by decide) ?_
            refine e_goto 55 dX11_refusal_50 (by decide) ?_
            obtain rfl := Option.some.inj hf
            exact e_iret dX11_refusal_55 trivial hP
      · refine e_bipush (w := (-12)) dX11_refusal_32 (by decide) ?_
        obtain rfl := Option.some.inj hf
        exact e_iret dX11_refusal_34 trivial hP
    · refine e_bipush (w := (-11)) dX11_refusal_18 (by decide) ?_
      obtain rfl := Option.some.inj hf
      exact e_iret dX11_refusal_20 trivial hP
  · refine e_iconst (w := (-1)) dX11_refusal_7 (by decide) ?_
    obtain rfl := Option.some.inj hf
    exact e_iret dX11_refusal_8 trivial hP
