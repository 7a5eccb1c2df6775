-- bytecode to functions, by program (wip/gen/decomp.py)
theorem dX11_typesOn_0 : decode cX11_typesOn 0 = .ok (.iconst 0, 1) := by decide +kernel
theorem dX11_typesOn_1 : decode cX11_typesOn 1 = .ok (.istore_n 3, 1) := by decide +kernel
theorem dX11_typesOn_2 : decode cX11_typesOn 2 = .ok (.iload_n 3, 1) := by decide +kernel
theorem dX11_typesOn_3 : decode cX11_typesOn 3 = .ok (.iconst 3, 1) := by decide +kernel
theorem dX11_typesOn_4 : decode cX11_typesOn 4 = .ok (.if_icmp .ge 38, 3) := by decide +kernel
theorem dX11_typesOn_7 : decode cX11_typesOn 7 = .ok (.aload_n 0, 1) := by decide +kernel
theorem dX11_typesOn_8 : decode cX11_typesOn 8 = .ok (.getfield 31, 3) := by decide +kernel
theorem dX11_typesOn_11 : decode cX11_typesOn 11 = .ok (.iconst 3, 1) := by decide +kernel
theorem dX11_typesOn_12 : decode cX11_typesOn 12 = .ok (.iload_n 2, 1) := by decide +kernel
theorem dX11_typesOn_13 : decode cX11_typesOn 13 = .ok (.imul, 1) := by decide +kernel
theorem dX11_typesOn_14 : decode cX11_typesOn 14 = .ok (.iload_n 3, 1) := by decide +kernel
theorem dX11_typesOn_15 : decode cX11_typesOn 15 = .ok (.iadd, 1) := by decide +kernel
theorem dX11_typesOn_16 : decode cX11_typesOn 16 = .ok (.aload_n 0, 1) := by decide +kernel
theorem dX11_typesOn_17 : decode cX11_typesOn 17 = .ok (.getfield 31, 3) := by decide +kernel
theorem dX11_typesOn_20 : decode cX11_typesOn 20 = .ok (.iconst 3, 1) := by decide +kernel
theorem dX11_typesOn_21 : decode cX11_typesOn 21 = .ok (.iload_n 2, 1) := by decide +kernel
theorem dX11_typesOn_22 : decode cX11_typesOn 22 = .ok (.imul, 1) := by decide +kernel
theorem dX11_typesOn_23 : decode cX11_typesOn 23 = .ok (.iload_n 3, 1) := by decide +kernel
theorem dX11_typesOn_24 : decode cX11_typesOn 24 = .ok (.iadd, 1) := by decide +kernel
theorem dX11_typesOn_25 : decode cX11_typesOn 25 = .ok (.iaload, 1) := by decide +kernel
theorem dX11_typesOn_26 : decode cX11_typesOn 26 = .ok (.aload_n 0, 1) := by decide +kernel
theorem dX11_typesOn_27 : decode cX11_typesOn 27 = .ok (.iload_n 1, 1) := by decide +kernel
theorem dX11_typesOn_28 : decode cX11_typesOn 28 = .ok (.iload_n 3, 1) := by decide +kernel
theorem dX11_typesOn_29 : decode cX11_typesOn 29 = .ok (.invokevirtual 198, 3) := by decide +kernel
theorem dX11_typesOn_32 : decode cX11_typesOn 32 = .ok (.invokestatic 211, 3) := by decide +kernel
theorem dX11_typesOn_35 : decode cX11_typesOn 35 = .ok (.iastore, 1) := by decide +kernel
theorem dX11_typesOn_36 : decode cX11_typesOn 36 = .ok (.iinc 3 1, 3) := by decide +kernel
theorem dX11_typesOn_39 : decode cX11_typesOn 39 = .ok (.goto (-37), 3) := by decide +kernel
theorem dX11_typesOn_42 : decode cX11_typesOn 42 = .ok (.aload_n 0, 1) := by decide +kernel
theorem dX11_typesOn_43 : decode cX11_typesOn 43 = .ok (.getfield 34, 3) := by decide +kernel
theorem dX11_typesOn_46 : decode cX11_typesOn 46 = .ok (.iload_n 2, 1) := by decide +kernel
theorem dX11_typesOn_47 : decode cX11_typesOn 47 = .ok (.dup2, 1) := by decide +kernel
theorem dX11_typesOn_48 : decode cX11_typesOn 48 = .ok (.iaload, 1) := by decide +kernel
theorem dX11_typesOn_49 : decode cX11_typesOn 49 = .ok (.aload_n 0, 1) := by decide +kernel
theorem dX11_typesOn_50 : decode cX11_typesOn 50 = .ok (.getfield 34, 3) := by decide +kernel
theorem dX11_typesOn_53 : decode cX11_typesOn 53 = .ok (.iload_n 2, 1) := by decide +kernel
theorem dX11_typesOn_54 : decode cX11_typesOn 54 = .ok (.iaload, 1) := by decide +kernel
theorem dX11_typesOn_55 : decode cX11_typesOn 55 = .ok (.bipush 99, 2) := by decide +kernel
theorem dX11_typesOn_57 : decode cX11_typesOn 57 = .ok (.if_icmp .ge 7, 3) := by decide +kernel
theorem dX11_typesOn_60 : decode cX11_typesOn 60 = .ok (.iconst 1, 1) := by decide +kernel
theorem dX11_typesOn_61 : decode cX11_typesOn 61 = .ok (.goto 4, 3) := by decide +kernel
theorem dX11_typesOn_64 : decode cX11_typesOn 64 = .ok (.iconst 0, 1) := by decide +kernel
theorem dX11_typesOn_65 : decode cX11_typesOn 65 = .ok (.iadd, 1) := by decide +kernel
theorem dX11_typesOn_66 : decode cX11_typesOn 66 = .ok (.iastore, 1) := by decide +kernel
theorem dX11_typesOn_67 : decode cX11_typesOn 67 = .ok (.return_, 1) := by decide +kernel
def fX11_typesOn_b65 (z0 : Int32) (z1 : Int32) (z2 : Int32) (s : mS) : Option mS :=
  stA s aX_age 8 z2 (z1 + z0) fun s4 =>
  some s4

def fX11_typesOn_b2 : Nat → Int32 → Int32 → Int32 → mS → Option mS
  | 0, _, _, _, _ => none
  | k + 1, y1, y2, y3, s =>
    if (nI 3) ≤ y3 then
      ldA s aX_age 8 y2 fun v2 =>
      ldA s aX_age 8 y2 fun v3 =>
      if (nI 99) ≤ v3 then
        fX11_typesOn_b65 (nI 0) v2 y2 s
      else
        fX11_typesOn_b65 (nI 1) v2 y2 s
    else
      ldA s aX_pull 24 (((nI 3) * y2) + y3) fun v5 =>
      bO (fX11_handOf y1 y3 s) fun r6 =>
      bO (fX11_nearer v5 r6 s) fun r7 =>
      stA s aX_pull 24 (((nI 3) * y2) + y3) r7 fun s8 =>
      bnd (y3 + (nI 1)) fun v9 =>
      fX11_typesOn_b2 k y1 y2 v9 s8

def fX11_typesOn (x1 : Int32) (x2 : Int32) (s : mS) : Option mS :=
  bnd (nI 0) fun v1 =>
  fX11_typesOn_b2 mFu x1 x2 v1 s

set_option maxRecDepth 20000 in
theorem wX11_typesOn_b65 {ρ : mRo} {d : Nat} {P : mPo} {V : mS → List mE} (hV : mView LX V)  {res : mS} (hP : P none (V res)) (z0 : Int32) (z1 : Int32) (z2 : Int32) (s : mS) (hf : fX11_typesOn_b65 z0 z1 z2 s = some res) : mG ρ (mC ρ (d + 1)) 11 4 cX11_typesOn none P 65 [] [.int z0, .int z1, .int z2, .ref qX_age] (V s) := by
  unfold fX11_typesOn_b65 at hf
  refine e_iadd dX11_typesOn_65 ?_
  refine e_iast hV dX11_typesOn_66 lx_X_age hf (fun s4 hf => ?_)
  obtain rfl := Option.some.inj hf
  exact e_ret dX11_typesOn_67 rfl hP
set_option maxRecDepth 20000 in
theorem wX11_typesOn_b2 {ρ : mRo} {d : Nat} {P : mPo} {V : mS → List mE} (hV : mView LX V)  {res : mS} (hP : P none (V res)) : ∀ (k : Nat) (y1 : Int32) (y2 : Int32) (y3 : Int32) (s : mS), fX11_typesOn_b2 k y1 y2 y3 s = some res → mG ρ (mC ρ (d + 1)) 11 4 cX11_typesOn none P 2 [(0, .ref qX), (1, .int y1), (2, .int y2), (3, .int y3)] [] (V s) := by
  intro k
  induction k with
  | zero => intro y1 y2 y3 s hf; rw [fX11_typesOn_b2] at hf; cases hf
  | succ k ih =>
    intro y1 y2 y3 s hf
    rw [fX11_typesOn_b2] at hf
    refine e_iload_n 3 dX11_typesOn_2 rfl rfl ?_
    refine e_iconst (w := (nI 3)) dX11_typesOn_3 (by decide) ?_
    refine e_icmp_ge 42 dX11_typesOn_4 (by decide) hf (fun hf => ?_) (fun hf => ?_)
    · refine e_aload_n 0 dX11_typesOn_42 rfl rfl ?_
      refine e_getr hV dX11_typesOn_43 rfl lx_X rfl ?_
      refine e_iload_n 2 dX11_typesOn_46 rfl rfl ?_
      refine e_dup2 dX11_typesOn_47 rfl rfl ?_
      refine e_iald hV dX11_typesOn_48 lx_X_age hf (fun v2 hf => ?_)
      refine e_aload_n 0 dX11_typesOn_49 rfl rfl ?_
      refine e_getr hV dX11_typesOn_50 rfl lx_X rfl ?_
      refine e_iload_n 2 dX11_typesOn_53 rfl rfl ?_
      refine e_iald hV dX11_typesOn_54 lx_X_age hf (fun v3 hf => ?_)
      refine e_bipush (w := (nI 99)) dX11_typesOn_55 (by decide) ?_
      refine e_icmp_ge 64 dX11_typesOn_57 (by decide) hf (fun hf => ?_) (fun hf => ?_)
      · refine e_iconst (w := (nI 0)) dX11_typesOn_64 (by decide) ?_
        refine e_pick [] rfl ?_
        exact wX11_typesOn_b65 hV hP (nI 0) v2 y2 s hf
      · refine e_iconst (w := (nI 1)) dX11_typesOn_60 (by decide) ?_
        refine e_goto 65 dX11_typesOn_61 (by decide) ?_
        refine e_pick [] rfl ?_
        exact wX11_typesOn_b65 hV hP (nI 1) v2 y2 s hf
    · refine e_aload_n 0 dX11_typesOn_7 rfl rfl ?_
      refine e_getr hV dX11_typesOn_8 rfl lx_X rfl ?_
      refine e_iconst (w := (nI 3)) dX11_typesOn_11 (by decide) ?_
      refine e_iload_n 2 dX11_typesOn_12 rfl rfl ?_
      refine e_imul dX11_typesOn_13 ?_
      refine e_iload_n 3 dX11_typesOn_14 rfl rfl ?_
      refine e_iadd dX11_typesOn_15 ?_
      refine e_aload_n 0 dX11_typesOn_16 rfl rfl ?_
      refine e_getr hV dX11_typesOn_17 rfl lx_X rfl ?_
      refine e_iconst (w := (nI 3)) dX11_typesOn_20 (by decide) ?_
      refine e_iload_n 2 dX11_typesOn_21 rfl rfl ?_
      refine e_imul dX11_typesOn_22 ?_
      refine e_iload_n 3 dX11_typesOn_23 rfl rfl ?_
      refine e_iadd dX11_typesOn_24 ?_
      refine e_iald hV dX11_typesOn_25 lx_X_pull hf (fun v5 hf => ?_)
      refine e_aload_n 0 dX11_typesOn_26 rfl rfl ?_
      refine e_iload_n 1 dX11_typesOn_27 rfl rfl ?_
      refine e_iload_n 3 dX11_typesOn_28 rfl rfl ?_
      obtain ⟨r6, hg, hf⟩ := bO_some hf
      refine e_callV (as := [.int y1, .int y3]) (v := (some (.int r6))) (s' := s) hV dX11_typesOn_29 (Or.inl rfl) rfl rfl rfl rfl (Nat.le_of_ble_eq_true rfl) lx_X rfl rfl (fun Q hQ => tX11_handOf (d := d) hV  hg hQ) ?_
      obtain ⟨r7, hg, hf⟩ := bO_some hf
      refine e_callS (as := [.int v5, .int r6]) (v := (some (.int r7))) (s' := s) dX11_typesOn_32 rfl rfl rfl rfl rfl (Nat.le_of_ble_eq_true rfl) (fun Q hQ => tX11_nearer (d := d) hV  hg hQ) ?_
      refine e_iast hV dX11_typesOn_35 lx_X_pull hf (fun s8 hf => ?_)
      refine e_iinc 3 dX11_typesOn_36 (by decide) rfl hf (fun v9 hf => ?_)
      refine e_goto 2 dX11_typesOn_39 (by decide) ?_
      refine e_pick [1, 2, 3, 0] rfl ?_
      exact ih y1 y2 v9 s8 hf
set_option maxRecDepth 20000 in
theorem tX11_typesOn {ρ : mRo} {d : Nat} {P : mPo} {V : mS → List mE} (hV : mView LX V)  {x1 : Int32} {x2 : Int32} {s : mS} {res : mS} (hf : fX11_typesOn x1 x2 s = some res) (hP : P none (V res)) : mC ρ (d + 2) 174 [.ref qX, .int x1, .int x2] (V s) P := by
  refine ⟨_, rfl, Nat.le_of_ble_eq_true rfl, by decide, ?_⟩
  show mG ρ (mC ρ (d + 1)) 11 4 cX11_typesOn none P 0 [(0, .ref qX), (1, .int x1), (2, .int x2)] [] (V s)
  unfold fX11_typesOn at hf
  refine e_iconst (w := (nI 0)) dX11_typesOn_0 (by decide) ?_
  refine e_istore_n dX11_typesOn_1 rfl (by decide) hf (fun v1 hf => ?_)
  refine e_pick [1, 2, 3, 0] rfl ?_
  exact wX11_typesOn_b2 hV hP mFu x1 x2 v1 s hf

theorem dX11_shows_0 : decode cX11_shows 0 = .ok (.aload_n 0, 1) := by decide +kernel
theorem dX11_shows_1 : decode cX11_shows 1 = .ok (.iload_n 1, 1) := by decide +kernel
theorem dX11_shows_2 : decode cX11_shows 2 = .ok (.invokevirtual 214, 3) := by decide +kernel
theorem dX11_shows_5 : decode cX11_shows 5 = .ok (.ifCond .eq 25, 3) := by decide +kernel
theorem dX11_shows_8 : decode cX11_shows 8 = .ok (.iload_n 2, 1) := by decide +kernel
theorem dX11_shows_9 : decode cX11_shows 9 = .ok (.i2l, 1) := by decide +kernel
theorem dX11_shows_10 : decode cX11_shows 10 = .ok (.lconst 0, 1) := by decide +kernel
theorem dX11_shows_11 : decode cX11_shows 11 = .ok (.ldc2_w 128, 3) := by decide +kernel
theorem dX11_shows_14 : decode cX11_shows 14 = .ok (.invokestatic 93, 3) := by decide +kernel
theorem dX11_shows_17 : decode cX11_shows 17 = .ok (.ifCond .eq 13, 3) := by decide +kernel
theorem dX11_shows_20 : decode cX11_shows 20 = .ok (.iload_n 3, 1) := by decide +kernel
theorem dX11_shows_21 : decode cX11_shows 21 = .ok (.i2l, 1) := by decide +kernel
theorem dX11_shows_22 : decode cX11_shows 22 = .ok (.lconst 0, 1) := by decide +kernel
theorem dX11_shows_23 : decode cX11_shows 23 = .ok (.lconst 1, 1) := by decide +kernel
theorem dX11_shows_24 : decode cX11_shows 24 = .ok (.invokestatic 93, 3) := by decide +kernel
theorem dX11_shows_27 : decode cX11_shows 27 = .ok (.ifCond .ne 5, 3) := by decide +kernel
theorem dX11_shows_30 : decode cX11_shows 30 = .ok (.iconst (-1), 1) := by decide +kernel
theorem dX11_shows_31 : decode cX11_shows 31 = .ok (.ireturn, 1) := by decide +kernel
theorem dX11_shows_32 : decode cX11_shows 32 = .ok (.aload_n 0, 1) := by decide +kernel
theorem dX11_shows_33 : decode cX11_shows 33 = .ok (.invokevirtual 217, 3) := by decide +kernel
theorem dX11_shows_36 : decode cX11_shows 36 = .ok (.iload_n 3, 1) := by decide +kernel
theorem dX11_shows_37 : decode cX11_shows 37 = .ok (.ifCond .ne 19, 3) := by decide +kernel
theorem dX11_shows_40 : decode cX11_shows 40 = .ok (.aload_n 0, 1) := by decide +kernel
theorem dX11_shows_41 : decode cX11_shows 41 = .ok (.iload_n 1, 1) := by decide +kernel
theorem dX11_shows_42 : decode cX11_shows 42 = .ok (.bipush 10, 2) := by decide +kernel
theorem dX11_shows_44 : decode cX11_shows 44 = .ok (.idiv, 1) := by decide +kernel
theorem dX11_shows_45 : decode cX11_shows 45 = .ok (.iload_n 1, 1) := by decide +kernel
theorem dX11_shows_46 : decode cX11_shows 46 = .ok (.bipush 10, 2) := by decide +kernel
theorem dX11_shows_48 : decode cX11_shows 48 = .ok (.irem, 1) := by decide +kernel
theorem dX11_shows_49 : decode cX11_shows 49 = .ok (.iload_n 2, 1) := by decide +kernel
theorem dX11_shows_50 : decode cX11_shows 50 = .ok (.invokevirtual 208, 3) := by decide +kernel
theorem dX11_shows_53 : decode cX11_shows 53 = .ok (.goto 16, 3) := by decide +kernel
theorem dX11_shows_56 : decode cX11_shows 56 = .ok (.aload_n 0, 1) := by decide +kernel
theorem dX11_shows_57 : decode cX11_shows 57 = .ok (.iload_n 1, 1) := by decide +kernel
theorem dX11_shows_58 : decode cX11_shows 58 = .ok (.bipush 10, 2) := by decide +kernel
theorem dX11_shows_60 : decode cX11_shows 60 = .ok (.idiv, 1) := by decide +kernel
theorem dX11_shows_61 : decode cX11_shows 61 = .ok (.iload_n 1, 1) := by decide +kernel
theorem dX11_shows_62 : decode cX11_shows 62 = .ok (.bipush 10, 2) := by decide +kernel
theorem dX11_shows_64 : decode cX11_shows 64 = .ok (.irem, 1) := by decide +kernel
theorem dX11_shows_65 : decode cX11_shows 65 = .ok (.iload_n 2, 1) := by decide +kernel
theorem dX11_shows_66 : decode cX11_shows 66 = .ok (.invokevirtual 204, 3) := by decide +kernel
theorem dX11_shows_69 : decode cX11_shows 69 = .ok (.ireturn, 1) := by decide +kernel
def fX11_shows (x1 : Int32) (x2 : Int32) (x3 : Int32) (s : mS) : Option (Int32 × mS) :=
  bO (fX11_isWm x1 s) fun r1 =>
  if r1 = 0 then
    some ((-1), s)
  else
    bO (fX11_within (Int32.toInt64 x2) 0 2 s) fun r2 =>
    if r2 = 0 then
      some ((-1), s)
    else
      bO (fX11_within (Int32.toInt64 x3) 0 1 s) fun r3 =>
      if r3 = 0 then
        some ((-1), s)
      else
        bO (fX11_begins s) fun s4 =>
        if x3 = 0 then
          bP (fX11_showsOf (x1 / (nI 10)) (x1 - x1 / (nI 10) * (nI 10)) x2 s4) fun r7 s8 =>
          some (r7, s8)
        else
          bP (fX11_gripOf (x1 / (nI 10)) (x1 - x1 / (nI 10) * (nI 10)) x2 s4) fun r5 s6 =>
          some (r5, s6)

set_option maxRecDepth 20000 in
theorem tX11_shows {ρ : mRo} {d : Nat} {P : mPo} {V : mS → List mE} (hV : mView LX V)  {x1 : Int32} {x2 : Int32} {x3 : Int32} {s : mS} {res : (Int32 × mS)} (hf : fX11_shows x1 x2 x3 s = some res) (hP : P (some (.int res.1)) (V res.2)) : mC ρ (d + 66) 175 [.ref qX, .int x1, .int x2, .int x3] (V s) P := by
  refine ⟨_, rfl, Nat.le_of_ble_eq_true rfl, by decide, ?_⟩
  show mG ρ (mC ρ (d + 65)) 11 4 cX11_shows (some .int) P 0 [(0, .ref qX), (1, .int x1), (2, .int x2), (3, .int x3)] [] (V s)
  unfold fX11_shows at hf
  refine e_aload_n 0 dX11_shows_0 rfl rfl ?_
  refine e_iload_n 1 dX11_shows_1 rfl rfl ?_
  obtain ⟨r1, hg, hf⟩ := bO_some hf
  refine e_callV (as := [.int x1]) (v := (some (.int r1))) (s' := s) hV dX11_shows_2 (Or.inl rfl) rfl rfl rfl rfl (Nat.le_of_ble_eq_true rfl) lx_X rfl rfl (fun Q hQ => tX11_isWm (d := (d + 62)) hV  hg hQ) ?_
  refine e_if_eq 30 dX11_shows_5 (by decide) hf (fun hf => ?_) (fun hf => ?_)
  · refine e_iconst (w := (-1)) dX11_shows_30 (by decide) ?_
    obtain rfl := Option.some.inj hf
    exact e_iret dX11_shows_31 trivial hP
  · refine e_iload_n 2 dX11_shows_8 rfl rfl ?_
    refine e_i2l dX11_shows_9 ?_
    refine e_lconst (w := 0) dX11_shows_10 (by decide) ?_
    refine e_ldc2_w (w := 2) dX11_shows_11 rfl ?_
    obtain ⟨r2, hg, hf⟩ := bO_some hf
    refine e_callS (as := [.long (Int32.toInt64 x2), .long 0, .long 2]) (v := (some (.int r2))) (s' := s) dX11_shows_14 rfl rfl rfl rfl rfl (Nat.le_of_ble_eq_true rfl) (fun Q hQ => tX11_within (d := (d + 64)) hV  hg hQ) ?_
    refine e_if_eq 30 dX11_shows_17 (by decide) hf (fun hf => ?_) (fun hf => ?_)
    · refine e_iconst (w := (-1)) dX11_shows_30 (by decide) ?_
      obtain rfl := Option.some.inj hf
      exact e_iret dX11_shows_31 trivial hP
    · refine e_iload_n 3 dX11_shows_20 rfl rfl ?_
      refine e_i2l dX11_shows_21 ?_
      refine e_lconst (w := 0) dX11_shows_22 (by decide) ?_
      refine e_lconst (w := 1) dX11_shows_23 (by decide) ?_
      obtain ⟨r3, hg, hf⟩ := bO_some hf
      refine e_callS (as := [.long (Int32.toInt64 x3), .long 0, .long 1]) (v := (some (.int r3))) (s' := s) dX11_shows_24 rfl rfl rfl rfl rfl (Nat.le_of_ble_eq_true rfl) (fun Q hQ => tX11_within (d := (d + 64)) hV  hg hQ) ?_
      refine e_if_ne 32 dX11_shows_27 (by decide) hf (fun hf => ?_) (fun hf => ?_)
      · refine e_aload_n 0 dX11_shows_32 rfl rfl ?_
        obtain ⟨s4, hg, hf⟩ := bO_some hf
        refine e_callV (as := []) (v := none) (s' := s4) hV dX11_shows_33 (Or.inl rfl) rfl rfl rfl rfl (Nat.le_of_ble_eq_true rfl) lx_X rfl rfl (fun Q hQ => tX11_begins (d := (d + 64)) hV  hg hQ) ?_
        refine e_iload_n 3 dX11_shows_36 rfl rfl ?_
        refine e_if_ne 56 dX11_shows_37 (by decide) hf (fun hf => ?_) (fun hf => ?_)
        · refine e_aload_n 0 dX11_shows_56 rfl rfl ?_
          refine e_iload_n 1 dX11_shows_57 rfl rfl ?_
          refine e_bipush (w := (nI 10)) dX11_shows_58 (by decide) ?_
          refine e_idiv dX11_shows_60 (by decide) ?_
          refine e_iload_n 1 dX11_shows_61 rfl rfl ?_
          refine e_bipush (w := (nI 10)) dX11_shows_62 (by decide) ?_
          refine e_irem dX11_shows_64 (by decide) ?_
          refine e_iload_n 2 dX11_shows_65 rfl rfl ?_
          obtain ⟨r5, s6, hg, hf⟩ := bP_some hf
          refine e_callV (as := [.int (x1 / (nI 10)), .int (x1 - x1 / (nI 10) * (nI 10)), .int x2]) (v := (some (.int r5))) (s' := s6) hV dX11_shows_66 (Or.inl rfl) rfl rfl rfl rfl (Nat.le_of_ble_eq_true rfl) lx_X rfl rfl (fun Q hQ => tX11_gripOf (d := (d + 1)) hV  hg hQ) ?_
          obtain rfl := Option.some.inj hf
          exact e_iret dX11_shows_69 trivial hP
        · refine e_aload_n 0 dX11_shows_40 rfl rfl ?_
          refine e_iload_n 1 dX11_shows_41 rfl rfl ?_
          refine e_bipush (w := (nI 10)) dX11_shows_42 (by decide) ?_
          refine e_idiv dX11_shows_44 (by decide) ?_
          refine e_iload_n 1 dX11_shows_45 rfl rfl ?_
          refine e_bipush (w := (nI 10)) dX11_shows_46 (by decide) ?_
          refine e_irem dX11_shows_48 (by decide) ?_
          refine e_iload_n 2 dX11_shows_49 rfl rfl ?_
          obtain ⟨r7, s8, hg, hf⟩ := bP_some hf
          refine e_callV (as := [.int (x1 / (nI 10)), .int (x1 - x1 / (nI 10) * (nI 10)), .int x2]) (v := (some (.int r7))) (s' := s8) hV dX11_shows_50 (Or.inl rfl) rfl rfl rfl rfl (Nat.le_of_ble_eq_true rfl) lx_X rfl rfl (fun Q hQ => tX11_showsOf (d := d) hV  hg hQ) ?_
          refine e_goto 69 dX11_shows_53 (by decide) ?_
          obtain rfl := Option.some.inj hf
          exact e_iret dX11_shows_69 trivial hP
      · refine e_iconst (w := (-1)) dX11_shows_30 (by decide) ?_
        obtain rfl := Option.some.inj hf
        exact e_iret dX11_shows_31 trivial hP

theorem dX11_rowIs_0 : decode cX11_rowIs 0 = .ok (.iload_n 1, 1) := by decide +kernel
theorem dX11_rowIs_1 : decode cX11_rowIs 1 = .ok (.invokestatic 111, 3) := by decide +kernel
theorem dX11_rowIs_4 : decode cX11_rowIs 4 = .ok (.ifCond .ne 7, 3) := by decide +kernel
theorem dX11_rowIs_7 : decode cX11_rowIs 7 = .ok (.iconst (-1), 1) := by decide +kernel
theorem dX11_rowIs_8 : decode cX11_rowIs 8 = .ok (.goto 36, 3) := by decide +kernel
theorem dX11_rowIs_11 : decode cX11_rowIs 11 = .ok (.aload_n 0, 1) := by decide +kernel
theorem dX11_rowIs_12 : decode cX11_rowIs 12 = .ok (.getfield 68, 3) := by decide +kernel
theorem dX11_rowIs_15 : decode cX11_rowIs 15 = .ok (.iload_n 1, 1) := by decide +kernel
theorem dX11_rowIs_16 : decode cX11_rowIs 16 = .ok (.iaload, 1) := by decide +kernel
theorem dX11_rowIs_17 : decode cX11_rowIs 17 = .ok (.ifCond .ge 8, 3) := by decide +kernel
theorem dX11_rowIs_20 : decode cX11_rowIs 20 = .ok (.bipush (-11), 2) := by decide +kernel
theorem dX11_rowIs_22 : decode cX11_rowIs 22 = .ok (.goto 22, 3) := by decide +kernel
theorem dX11_rowIs_25 : decode cX11_rowIs 25 = .ok (.aload_n 0, 1) := by decide +kernel
theorem dX11_rowIs_26 : decode cX11_rowIs 26 = .ok (.getfield 68, 3) := by decide +kernel
theorem dX11_rowIs_29 : decode cX11_rowIs 29 = .ok (.iload_n 1, 1) := by decide +kernel
theorem dX11_rowIs_30 : decode cX11_rowIs 30 = .ok (.iaload, 1) := by decide +kernel
theorem dX11_rowIs_31 : decode cX11_rowIs 31 = .ok (.bipush 50, 2) := by decide +kernel
theorem dX11_rowIs_33 : decode cX11_rowIs 33 = .ok (.iload_n 2, 1) := by decide +kernel
theorem dX11_rowIs_34 : decode cX11_rowIs 34 = .ok (.iadd, 1) := by decide +kernel
theorem dX11_rowIs_35 : decode cX11_rowIs 35 = .ok (.if_icmp .ne 7, 3) := by decide +kernel
theorem dX11_rowIs_38 : decode cX11_rowIs 38 = .ok (.iconst 1, 1) := by decide +kernel
theorem dX11_rowIs_39 : decode cX11_rowIs 39 = .ok (.goto 5, 3) := by decide +kernel
theorem dX11_rowIs_42 : decode cX11_rowIs 42 = .ok (.bipush (-12), 2) := by decide +kernel
theorem dX11_rowIs_44 : decode cX11_rowIs 44 = .ok (.ireturn, 1) := by decide +kernel
def fX11_rowIs (x1 : Int32) (x2 : Int32) (s : mS) : Option Int32 :=
  bO (fX11_isShelf x1 s) fun r1 =>
  if r1 = 0 then
    some (-1)
  else
    ldA s aX_shelf 6 x1 fun v2 =>
    if 0 ≤ v2 then
      ldA s aX_shelf 6 x1 fun v3 =>
      if v3 = ((nI 50) + x2) then
        some (nI 1)
      else
        some (-12)
    else
      some (-11)

set_option maxRecDepth 20000 in
theorem tX11_rowIs {ρ : mRo} {d : Nat} {P : mPo} {V : mS → List mE} (hV : mView LX V)  {x1 : Int32} {x2 : Int32} {s : mS} {res : Int32} (hf : fX11_rowIs x1 x2 s = some res) (hP : P (some (.int res)) (V s)) : mC ρ (d + 3) 176 [.ref qX, .int x1, .int x2] (V s) P := by
  refine ⟨_, rfl, Nat.le_of_ble_eq_true rfl, by decide, ?_⟩
  show mG ρ (mC ρ (d + 2)) 11 3 cX11_rowIs (some .int) P 0 [(0, .ref qX), (1, .int x1), (2, .int x2)] [] (V s)
  unfold fX11_rowIs at hf
  refine e_iload_n 1 dX11_rowIs_0 rfl rfl ?_
  obtain ⟨r1, hg, hf⟩ := bO_some hf
  refine e_callS (as := [.int x1]) (v := (some (.int r1))) (s' := s) dX11_rowIs_1 rfl rfl rfl rfl rfl (Nat.le_of_ble_eq_true rfl) (fun Q hQ => tX11_isShelf (d := d) hV  hg hQ) ?_
  refine e_if_ne 11 dX11_rowIs_4 (by decide) hf (fun hf => ?_) (fun hf => ?_)
  · refine e_aload_n 0 dX11_rowIs_11 rfl rfl ?_
    refine e_getr hV dX11_rowIs_12 rfl lx_X rfl ?_
    refine e_iload_n 1 dX11_rowIs_15 rfl rfl ?_
    refine e_iald hV dX11_rowIs_16 lx_X_shelf hf (fun v2 hf => ?_)
    refine e_if_ge 25 dX11_rowIs_17 (by decide) hf (fun hf => ?_) (fun hf => ?_)
    · refine e_aload_n 0 dX11_rowIs_25 rfl rfl ?_
      refine e_getr hV dX11_rowIs_26 rfl lx_X rfl ?_
      refine e_iload_n 1 dX11_rowIs_29 rfl rfl ?_
      refine e_iald hV dX11_rowIs_30 lx_X_shelf hf (fun v3 hf => ?_)
      refine e_bipush (w := (nI 50)) dX11_rowIs_31 (by decide) ?_
      refine e_iload_n 2 dX11_rowIs_33 rfl rfl ?_
      refine e_iadd dX11_rowIs_34 ?_
      refine e_icmp_ne 42 dX11_rowIs_35 (by decide) hf (fun hf => ?_) (fun hf => ?_)
      · refine e_bipush (w := (-12)) dX11_rowIs_42 (by decide) ?_
        obtain rfl := Option.some.inj hf
        exact e_iret dX11_rowIs_44 trivial hP
      · refine e_iconst (w := (nI 1)) dX11_rowIs_38 (by decide) ?_
        refine e_goto 44 dX11_rowIs_39 (by decide) ?_
        obtain rfl := Option.some.inj hf
        exact e_iret dX11_rowIs_44 trivial hP
    · refine e_bipush (w := (-11)) dX11_rowIs_20 (by decide) ?_
      refine e_goto 44 dX11_rowIs_22 (by decide) ?_
      obtain rfl := Option.some.inj hf
      exact e_iret dX11_rowIs_44 trivial hP
  · refine e_iconst (w := (-1)) dX11_rowIs_7 (by decide) ?_
    refine e_goto 44 dX11_rowIs_8 (by decide) ?_
    obtain rfl := Option.some.inj hf
    exact e_iret dX11_rowIs_44 trivial hP

theorem dX11_lettersIn_0 : decode cX11_lettersIn 0 = .ok (.iconst 0, 1) := by decide +kernel
theorem dX11_lettersIn_1 : decode cX11_lettersIn 1 = .ok (.istore_n 2, 1) := by decide +kernel
theorem dX11_lettersIn_2 : decode cX11_lettersIn 2 = .ok (.iload_n 2, 1) := by decide +kernel
theorem dX11_lettersIn_3 : decode cX11_lettersIn 3 = .ok (.bipush 30, 2) := by decide +kernel
theorem dX11_lettersIn_5 : decode cX11_lettersIn 5 = .ok (.if_icmp .ge 65, 3) := by decide +kernel
theorem dX11_lettersIn_8 : decode cX11_lettersIn 8 = .ok (.iconst 2, 1) := by decide +kernel
theorem dX11_lettersIn_9 : decode cX11_lettersIn 9 = .ok (.iload_n 2, 1) := by decide +kernel
theorem dX11_lettersIn_10 : decode cX11_lettersIn 10 = .ok (.imul, 1) := by decide +kernel
theorem dX11_lettersIn_11 : decode cX11_lettersIn 11 = .ok (.iconst 1, 1) := by decide +kernel
theorem dX11_lettersIn_12 : decode cX11_lettersIn 12 = .ok (.iadd, 1) := by decide +kernel
theorem dX11_lettersIn_13 : decode cX11_lettersIn 13 = .ok (.aload_n 0, 1) := by decide +kernel
theorem dX11_lettersIn_14 : decode cX11_lettersIn 14 = .ok (.getfield 71, 3) := by decide +kernel
theorem dX11_lettersIn_17 : decode cX11_lettersIn 17 = .ok (.iload_n 1, 1) := by decide +kernel
theorem dX11_lettersIn_18 : decode cX11_lettersIn 18 = .ok (.iaload, 1) := by decide +kernel
theorem dX11_lettersIn_19 : decode cX11_lettersIn 19 = .ok (.if_icmp .ge 51, 3) := by decide +kernel
theorem dX11_lettersIn_22 : decode cX11_lettersIn 22 = .ok (.aload_n 0, 1) := by decide +kernel
theorem dX11_lettersIn_23 : decode cX11_lettersIn 23 = .ok (.aload_n 0, 1) := by decide +kernel
theorem dX11_lettersIn_24 : decode cX11_lettersIn 24 = .ok (.getfield 74, 3) := by decide +kernel
theorem dX11_lettersIn_27 : decode cX11_lettersIn 27 = .ok (.bipush 60, 2) := by decide +kernel
theorem dX11_lettersIn_29 : decode cX11_lettersIn 29 = .ok (.iload_n 1, 1) := by decide +kernel
theorem dX11_lettersIn_30 : decode cX11_lettersIn 30 = .ok (.imul, 1) := by decide +kernel
theorem dX11_lettersIn_31 : decode cX11_lettersIn 31 = .ok (.iconst 2, 1) := by decide +kernel
theorem dX11_lettersIn_32 : decode cX11_lettersIn 32 = .ok (.iload_n 2, 1) := by decide +kernel
theorem dX11_lettersIn_33 : decode cX11_lettersIn 33 = .ok (.imul, 1) := by decide +kernel
theorem dX11_lettersIn_34 : decode cX11_lettersIn 34 = .ok (.iadd, 1) := by decide +kernel
theorem dX11_lettersIn_35 : decode cX11_lettersIn 35 = .ok (.laload, 1) := by decide +kernel
theorem dX11_lettersIn_36 : decode cX11_lettersIn 36 = .ok (.invokevirtual 100, 3) := by decide +kernel
theorem dX11_lettersIn_39 : decode cX11_lettersIn 39 = .ok (.ifCond .eq 31, 3) := by decide +kernel
theorem dX11_lettersIn_42 : decode cX11_lettersIn 42 = .ok (.aload_n 0, 1) := by decide +kernel
theorem dX11_lettersIn_43 : decode cX11_lettersIn 43 = .ok (.aload_n 0, 1) := by decide +kernel
theorem dX11_lettersIn_44 : decode cX11_lettersIn 44 = .ok (.getfield 74, 3) := by decide +kernel
theorem dX11_lettersIn_47 : decode cX11_lettersIn 47 = .ok (.bipush 60, 2) := by decide +kernel
theorem dX11_lettersIn_49 : decode cX11_lettersIn 49 = .ok (.iload_n 1, 1) := by decide +kernel
theorem dX11_lettersIn_50 : decode cX11_lettersIn 50 = .ok (.imul, 1) := by decide +kernel
theorem dX11_lettersIn_51 : decode cX11_lettersIn 51 = .ok (.iconst 2, 1) := by decide +kernel
theorem dX11_lettersIn_52 : decode cX11_lettersIn 52 = .ok (.iload_n 2, 1) := by decide +kernel
theorem dX11_lettersIn_53 : decode cX11_lettersIn 53 = .ok (.imul, 1) := by decide +kernel
theorem dX11_lettersIn_54 : decode cX11_lettersIn 54 = .ok (.iadd, 1) := by decide +kernel
theorem dX11_lettersIn_55 : decode cX11_lettersIn 55 = .ok (.iconst 1, 1) := by decide +kernel
theorem dX11_lettersIn_56 : decode cX11_lettersIn 56 = .ok (.iadd, 1) := by decide +kernel
theorem dX11_lettersIn_57 : decode cX11_lettersIn 57 = .ok (.laload, 1) := by decide +kernel
theorem dX11_lettersIn_58 : decode cX11_lettersIn 58 = .ok (.invokevirtual 104, 3) := by decide +kernel
theorem dX11_lettersIn_61 : decode cX11_lettersIn 61 = .ok (.ifCond .eq 9, 3) := by decide +kernel
theorem dX11_lettersIn_64 : decode cX11_lettersIn 64 = .ok (.iinc 2 1, 3) := by decide +kernel
theorem dX11_lettersIn_67 : decode cX11_lettersIn 67 = .ok (.goto (-65), 3) := by decide +kernel
theorem dX11_lettersIn_70 : decode cX11_lettersIn 70 = .ok (.iload_n 2, 1) := by decide +kernel
theorem dX11_lettersIn_71 : decode cX11_lettersIn 71 = .ok (.ireturn, 1) := by decide +kernel
def fX11_lettersIn_b2 : Nat → Int32 → Int32 → mS → Option Int32
  | 0, _, _, _ => none
  | k + 1, y1, y2, s =>
    if (nI 30) ≤ y2 then
      some y2
    else
      ldA s aX_many 6 y1 fun v2 =>
      if v2 ≤ (((nI 2) * y2) + (nI 1)) then
        some y2
      else
        ldL s lX_items 360 (((nI 60) * y1) + ((nI 2) * y2)) fun v3 =>
        bO (fX11_isWriter v3 s) fun r4 =>
        if r4 = 0 then
          some y2
        else
          ldL s lX_items 360 ((((nI 60) * y1) + ((nI 2) * y2)) + (nI 1)) fun v5 =>
          bO (fX11_isMachine v5 s) fun r6 =>
          if r6 = 0 then
            some y2
          else
            bnd (y2 + (nI 1)) fun v7 =>
            fX11_lettersIn_b2 k y1 v7 s

def fX11_lettersIn (x1 : Int32) (s : mS) : Option Int32 :=
  bnd (nI 0) fun v1 =>
  fX11_lettersIn_b2 mFu x1 v1 s

set_option maxRecDepth 20000 in
theorem wX11_lettersIn_b2 {ρ : mRo} {d : Nat} {P : mPo} {V : mS → List mE} (hV : mView LX V)  {res : Int32} {s : mS} (hP : P (some (.int res)) (V s)) : ∀ (k : Nat) (y1 : Int32) (y2 : Int32), fX11_lettersIn_b2 k y1 y2 s = some res → mG ρ (mC ρ (d + 2)) 11 3 cX11_lettersIn (some .int) P 2 [(0, .ref qX), (1, .int y1), (2, .int y2)] [] (V s) := by
  intro k
  induction k with
  | zero => intro y1 y2 hf; rw [fX11_lettersIn_b2] at hf; cases hf
  | succ k ih =>
    intro y1 y2 hf
    rw [fX11_lettersIn_b2] at hf
    refine e_iload_n 2 dX11_lettersIn_2 rfl rfl ?_
    refine e_bipush (w := (nI 30)) dX11_lettersIn_3 (by decide) ?_
    refine e_icmp_ge 70 dX11_lettersIn_5 (by decide) hf (fun hf => ?_) (fun hf => ?_)
    · refine e_iload_n 2 dX11_lettersIn_70 rfl rfl ?_
      obtain rfl := Option.some.inj hf
      exact e_iret dX11_lettersIn_71 trivial hP
    · refine e_iconst (w := (nI 2)) dX11_lettersIn_8 (by decide) ?_
      refine e_iload_n 2 dX11_lettersIn_9 rfl rfl ?_
      refine e_imul dX11_lettersIn_10 ?_
      refine e_iconst (w := (nI 1)) dX11_lettersIn_11 (by decide) ?_
      refine e_iadd dX11_lettersIn_12 ?_
      refine e_aload_n 0 dX11_lettersIn_13 rfl rfl ?_
      refine e_getr hV dX11_lettersIn_14 rfl lx_X rfl ?_
      refine e_iload_n 1 dX11_lettersIn_17 rfl rfl ?_
      refine e_iald hV dX11_lettersIn_18 lx_X_many hf (fun v2 hf => ?_)
      refine e_icmp_ge 70 dX11_lettersIn_19 (by decide) hf (fun hf => ?_) (fun hf => ?_)
      · refine e_iload_n 2 dX11_lettersIn_70 rfl rfl ?_
        obtain rfl := Option.some.inj hf
        exact e_iret dX11_lettersIn_71 trivial hP
      · refine e_aload_n 0 dX11_lettersIn_22 rfl rfl ?_
        refine e_aload_n 0 dX11_lettersIn_23 rfl rfl ?_
        refine e_getr hV dX11_lettersIn_24 rfl lx_X rfl ?_
        refine e_bipush (w := (nI 60)) dX11_lettersIn_27 (by decide) ?_
        refine e_iload_n 1 dX11_lettersIn_29 rfl rfl ?_
        refine e_imul dX11_lettersIn_30 ?_
        refine e_iconst (w := (nI 2)) dX11_lettersIn_31 (by decide) ?_
        refine e_iload_n 2 dX11_lettersIn_32 rfl rfl ?_
        refine e_imul dX11_lettersIn_33 ?_
        refine e_iadd dX11_lettersIn_34 ?_
        refine e_lald hV dX11_lettersIn_35 lx_X_items hf (fun v3 hf => ?_)
        obtain ⟨r4, hg, hf⟩ := bO_some hf
        refine e_callV (as := [.long v3]) (v := (some (.int r4))) (s' := s) hV dX11_lettersIn_36 (Or.inl rfl) rfl rfl rfl rfl (Nat.le_of_ble_eq_true rfl) lx_X rfl rfl (fun Q hQ => tX11_isWriter (d := d) hV  hg hQ) ?_
        refine e_if_eq 70 dX11_lettersIn_39 (by decide) hf (fun hf => ?_) (fun hf => ?_)
        · refine e_iload_n 2 dX11_lettersIn_70 rfl rfl ?_
          obtain rfl := Option.some.inj hf
          exact e_iret dX11_lettersIn_71 trivial hP
        · refine e_aload_n 0 dX11_lettersIn_42 rfl rfl ?_
          refine e_aload_n 0 dX11_lettersIn_43 rfl rfl ?_
          refine e_getr hV dX11_lettersIn_44 rfl lx_X rfl ?_
          refine e_bipush (w := (nI 60)) dX11_lettersIn_47 (by decide) ?_
          refine e_iload_n 1 dX11_lettersIn_49 rfl rfl ?_
          refine e_imul dX11_lettersIn_50 ?_
          refine e_iconst (w := (nI 2)) dX11_lettersIn_51 (by decide) ?_
          refine e_iload_n 2 dX11_lettersIn_52 rfl rfl ?_
          refine e_imul dX11_lettersIn_53 ?_
          refine e_iadd dX11_lettersIn_54 ?_
          refine e_iconst (w := (nI 1)) dX11_lettersIn_55 (by decide) ?_
          refine e_iadd dX11_lettersIn_56 ?_
          refine e_lald hV dX11_lettersIn_57 lx_X_items hf (fun v5 hf => ?_)
          obtain ⟨r6, hg, hf⟩ := bO_some hf
          refine e_callV (as := [.long v5]) (v := (some (.int r6))) (s' := s) hV dX11_lettersIn_58 (Or.inl rfl) rfl rfl rfl rfl (Nat.le_of_ble_eq_true rfl) lx_X rfl rfl (fun Q hQ => tX11_isMachine (d := d) hV  hg hQ) ?_
          refine e_if_eq 70 dX11_lettersIn_61 (by decide) hf (fun hf => ?_) (fun hf => ?_)
          · refine e_iload_n 2 dX11_lettersIn_70 rfl rfl ?_
            obtain rfl := Option.some.inj hf
            exact e_iret dX11_lettersIn_71 trivial hP
          · refine e_iinc 2 dX11_lettersIn_64 (by decide) rfl hf (fun v7 hf => ?_)
            refine e_goto 2 dX11_lettersIn_67 (by decide) ?_
            refine e_pick [1, 2, 0] rfl ?_
            exact ih y1 v7 hf
set_option maxRecDepth 20000 in
theorem tX11_lettersIn {ρ : mRo} {d : Nat} {P : mPo} {V : mS → List mE} (hV : mView LX V)  {x1 : Int32} {s : mS} {res : Int32} (hf : fX11_lettersIn x1 s = some res) (hP : P (some (.int res)) (V s)) : mC ρ (d + 3) 177 [.ref qX, .int x1] (V s) P := by
  refine ⟨_, rfl, Nat.le_of_ble_eq_true rfl, by decide, ?_⟩
  show mG ρ (mC ρ (d + 2)) 11 3 cX11_lettersIn (some .int) P 0 [(0, .ref qX), (1, .int x1)] [] (V s)
  unfold fX11_lettersIn at hf
  refine e_iconst (w := (nI 0)) dX11_lettersIn_0 (by decide) ?_
  refine e_istore_n dX11_lettersIn_1 rfl (by decide) hf (fun v1 hf => ?_)
  refine e_pick [1, 2, 0] rfl ?_
  exact wX11_lettersIn_b2 hV hP mFu x1 v1 hf

theorem dX11_typesDay_0 : decode cX11_typesDay 0 = .ok (.aload_n 0, 1) := by decide +kernel
theorem dX11_typesDay_1 : decode cX11_typesDay 1 = .ok (.iload_n 1, 1) := by decide +kernel
theorem dX11_typesDay_2 : decode cX11_typesDay 2 = .ok (.invokevirtual 220, 3) := by decide +kernel
theorem dX11_typesDay_5 : decode cX11_typesDay 5 = .ok (.istore_n 3, 1) := by decide +kernel
theorem dX11_typesDay_6 : decode cX11_typesDay 6 = .ok (.iconst 0, 1) := by decide +kernel
theorem dX11_typesDay_7 : decode cX11_typesDay 7 = .ok (.istore 4, 2) := by decide +kernel
theorem dX11_typesDay_9 : decode cX11_typesDay 9 = .ok (.iload 4, 2) := by decide +kernel
theorem dX11_typesDay_11 : decode cX11_typesDay 11 = .ok (.iload_n 2, 1) := by decide +kernel
theorem dX11_typesDay_12 : decode cX11_typesDay 12 = .ok (.if_icmp .ge 51, 3) := by decide +kernel
theorem dX11_typesDay_15 : decode cX11_typesDay 15 = .ok (.iload 4, 2) := by decide +kernel
theorem dX11_typesDay_17 : decode cX11_typesDay 17 = .ok (.iload_n 3, 1) := by decide +kernel
theorem dX11_typesDay_18 : decode cX11_typesDay 18 = .ok (.if_icmp .ge 45, 3) := by decide +kernel
theorem dX11_typesDay_21 : decode cX11_typesDay 21 = .ok (.aload_n 0, 1) := by decide +kernel
theorem dX11_typesDay_22 : decode cX11_typesDay 22 = .ok (.aload_n 0, 1) := by decide +kernel
theorem dX11_typesDay_23 : decode cX11_typesDay 23 = .ok (.getfield 74, 3) := by decide +kernel
theorem dX11_typesDay_26 : decode cX11_typesDay 26 = .ok (.bipush 60, 2) := by decide +kernel
theorem dX11_typesDay_28 : decode cX11_typesDay 28 = .ok (.iload_n 1, 1) := by decide +kernel
theorem dX11_typesDay_29 : decode cX11_typesDay 29 = .ok (.imul, 1) := by decide +kernel
theorem dX11_typesDay_30 : decode cX11_typesDay 30 = .ok (.iconst 2, 1) := by decide +kernel
theorem dX11_typesDay_31 : decode cX11_typesDay 31 = .ok (.iload 4, 2) := by decide +kernel
theorem dX11_typesDay_33 : decode cX11_typesDay 33 = .ok (.imul, 1) := by decide +kernel
theorem dX11_typesDay_34 : decode cX11_typesDay 34 = .ok (.iadd, 1) := by decide +kernel
theorem dX11_typesDay_35 : decode cX11_typesDay 35 = .ok (.laload, 1) := by decide +kernel
theorem dX11_typesDay_36 : decode cX11_typesDay 36 = .ok (.l2i, 1) := by decide +kernel
theorem dX11_typesDay_37 : decode cX11_typesDay 37 = .ok (.aload_n 0, 1) := by decide +kernel
theorem dX11_typesDay_38 : decode cX11_typesDay 38 = .ok (.getfield 74, 3) := by decide +kernel
theorem dX11_typesDay_41 : decode cX11_typesDay 41 = .ok (.bipush 60, 2) := by decide +kernel
theorem dX11_typesDay_43 : decode cX11_typesDay 43 = .ok (.iload_n 1, 1) := by decide +kernel
theorem dX11_typesDay_44 : decode cX11_typesDay 44 = .ok (.imul, 1) := by decide +kernel
theorem dX11_typesDay_45 : decode cX11_typesDay 45 = .ok (.iconst 2, 1) := by decide +kernel
theorem dX11_typesDay_46 : decode cX11_typesDay 46 = .ok (.iload 4, 2) := by decide +kernel
theorem dX11_typesDay_48 : decode cX11_typesDay 48 = .ok (.imul, 1) := by decide +kernel
theorem dX11_typesDay_49 : decode cX11_typesDay 49 = .ok (.iadd, 1) := by decide +kernel
theorem dX11_typesDay_50 : decode cX11_typesDay 50 = .ok (.iconst 1, 1) := by decide +kernel
theorem dX11_typesDay_51 : decode cX11_typesDay 51 = .ok (.iadd, 1) := by decide +kernel
theorem dX11_typesDay_52 : decode cX11_typesDay 52 = .ok (.laload, 1) := by decide +kernel
theorem dX11_typesDay_53 : decode cX11_typesDay 53 = .ok (.l2i, 1) := by decide +kernel
theorem dX11_typesDay_54 : decode cX11_typesDay 54 = .ok (.invokevirtual 223, 3) := by decide +kernel
theorem dX11_typesDay_57 : decode cX11_typesDay 57 = .ok (.iinc 4 1, 3) := by decide +kernel
theorem dX11_typesDay_60 : decode cX11_typesDay 60 = .ok (.goto (-51), 3) := by decide +kernel
theorem dX11_typesDay_63 : decode cX11_typesDay 63 = .ok (.return_, 1) := by decide +kernel
def fX11_typesDay_b9 : Nat → Int32 → Int32 → Int32 → Int32 → mS → Option mS
  | 0, _, _, _, _, _ => none
  | k + 1, y1, y2, y3, y4, s =>
    if y2 ≤ y4 then
      some s
    else
      if y3 ≤ y4 then
        some s
      else
        ldL s lX_items 360 (((nI 60) * y1) + ((nI 2) * y4)) fun v4 =>
        ldL s lX_items 360 ((((nI 60) * y1) + ((nI 2) * y4)) + (nI 1)) fun v5 =>
        bO (fX11_typesOn (Int64.toInt32 v4) (Int64.toInt32 v5) s) fun s6 =>
        bnd (y4 + (nI 1)) fun v7 =>
        fX11_typesDay_b9 k y1 y2 y3 v7 s6

def fX11_typesDay (x1 : Int32) (x2 : Int32) (s : mS) : Option mS :=
  bO (fX11_lettersIn x1 s) fun r1 =>
  bnd r1 fun v2 =>
  bnd (nI 0) fun v3 =>
  fX11_typesDay_b9 mFu x1 x2 v2 v3 s

set_option maxRecDepth 20000 in
theorem wX11_typesDay_b9 {ρ : mRo} {d : Nat} {P : mPo} {V : mS → List mE} (hV : mView LX V)  {res : mS} (hP : P none (V res)) : ∀ (k : Nat) (y1 : Int32) (y2 : Int32) (y3 : Int32) (y4 : Int32) (s : mS), fX11_typesDay_b9 k y1 y2 y3 y4 s = some res → mG ρ (mC ρ (d + 3)) 11 5 cX11_typesDay none P 9 [(0, .ref qX), (1, .int y1), (2, .int y2), (3, .int y3), (4, .int y4)] [] (V s) := by
  intro k
  induction k with
  | zero => intro y1 y2 y3 y4 s hf; rw [fX11_typesDay_b9] at hf; cases hf
  | succ k ih =>
    intro y1 y2 y3 y4 s hf
    rw [fX11_typesDay_b9] at hf
    refine e_iload 4 dX11_typesDay_9 rfl ?_
    refine e_iload_n 2 dX11_typesDay_11 rfl rfl ?_
    refine e_icmp_ge 63 dX11_typesDay_12 (by decide) hf (fun hf => ?_) (fun hf => ?_)
    · obtain rfl := Option.some.inj hf
      exact e_ret dX11_typesDay_63 rfl hP
    · refine e_iload 4 dX11_typesDay_15 rfl ?_
      refine e_iload_n 3 dX11_typesDay_17 rfl rfl ?_
      refine e_icmp_ge 63 dX11_typesDay_18 (by decide) hf (fun hf => ?_) (fun hf => ?_)
      · obtain rfl := Option.some.inj hf
        exact e_ret dX11_typesDay_63 rfl hP
      · refine e_aload_n 0 dX11_typesDay_21 rfl rfl ?_
        refine e_aload_n 0 dX11_typesDay_22 rfl rfl ?_
        refine e_getr hV dX11_typesDay_23 rfl lx_X rfl ?_
        refine e_bipush (w := (nI 60)) dX11_typesDay_26 (by decide) ?_
        refine e_iload_n 1 dX11_typesDay_28 rfl rfl ?_
        refine e_imul dX11_typesDay_29 ?_
        refine e_iconst (w := (nI 2)) dX11_typesDay_30 (by decide) ?_
        refine e_iload 4 dX11_typesDay_31 rfl ?_
        refine e_imul dX11_typesDay_33 ?_
        refine e_iadd dX11_typesDay_34 ?_
        refine e_lald hV dX11_typesDay_35 lx_X_items hf (fun v4 hf => ?_)
        refine e_l2i dX11_typesDay_36 ?_
        refine e_aload_n 0 dX11_typesDay_37 rfl rfl ?_
        refine e_getr hV dX11_typesDay_38 rfl lx_X rfl ?_
        refine e_bipush (w := (nI 60)) dX11_typesDay_41 (by decide) ?_
        refine e_iload_n 1 dX11_typesDay_43 rfl rfl ?_
        refine e_imul dX11_typesDay_44 ?_
        refine e_iconst (w := (nI 2)) dX11_typesDay_45 (by decide) ?_
        refine e_iload 4 dX11_typesDay_46 rfl ?_
        refine e_imul dX11_typesDay_48 ?_
        refine e_iadd dX11_typesDay_49 ?_
        refine e_iconst (w := (nI 1)) dX11_typesDay_50 (by decide) ?_
        refine e_iadd dX11_typesDay_51 ?_
        refine e_lald hV dX11_typesDay_52 lx_X_items hf (fun v5 hf => ?_)
        refine e_l2i dX11_typesDay_53 ?_
        obtain ⟨s6, hg, hf⟩ := bO_some hf
        refine e_callV (as := [.int (Int64.toInt32 v4), .int (Int64.toInt32 v5)]) (v := none) (s' := s6) hV dX11_typesDay_54 (Or.inl rfl) rfl rfl rfl rfl (Nat.le_of_ble_eq_true rfl) lx_X rfl rfl (fun Q hQ => tX11_typesOn (d := (d + 1)) hV  hg hQ) ?_
        refine e_iinc 4 dX11_typesDay_57 (by decide) rfl hf (fun v7 hf => ?_)
        refine e_goto 9 dX11_typesDay_60 (by decide) ?_
        refine e_pick [1, 2, 3, 4, 0] rfl ?_
        exact ih y1 y2 y3 v7 s6 hf
set_option maxRecDepth 20000 in
theorem tX11_typesDay {ρ : mRo} {d : Nat} {P : mPo} {V : mS → List mE} (hV : mView LX V)  {x1 : Int32} {x2 : Int32} {s : mS} {res : mS} (hf : fX11_typesDay x1 x2 s = some res) (hP : P none (V res)) : mC ρ (d + 4) 178 [.ref qX, .int x1, .int x2] (V s) P := by
  refine ⟨_, rfl, Nat.le_of_ble_eq_true rfl, by decide, ?_⟩
  show mG ρ (mC ρ (d + 3)) 11 5 cX11_typesDay none P 0 [(0, .ref qX), (1, .int x1), (2, .int x2)] [] (V s)
  unfold fX11_typesDay at hf
  refine e_aload_n 0 dX11_typesDay_0 rfl rfl ?_
  refine e_iload_n 1 dX11_typesDay_1 rfl rfl ?_
  obtain ⟨r1, hg, hf⟩ := bO_some hf
  refine e_callV (as := [.int x1]) (v := (some (.int r1))) (s' := s) hV dX11_typesDay_2 (Or.inl rfl) rfl rfl rfl rfl (Nat.le_of_ble_eq_true rfl) lx_X rfl rfl (fun Q hQ => tX11_lettersIn (d := d) hV  hg hQ) ?_
  refine e_istore_n dX11_typesDay_5 rfl (by decide) hf (fun v2 hf => ?_)
  refine e_iconst (w := (nI 0)) dX11_typesDay_6 (by decide) ?_
  refine e_istore dX11_typesDay_7 (by decide) hf (fun v3 hf => ?_)
  refine e_pick [2, 3, 4, 1, 0] rfl ?_
  exact wX11_typesDay_b9 hV hP mFu x1 x2 v2 v3 s hf

theorem dX11_later_0 : decode cX11_later 0 = .ok (.aload_n 0, 1) := by decide +kernel
theorem dX11_later_1 : decode cX11_later 1 = .ok (.iload_n 1, 1) := by decide +kernel
theorem dX11_later_2 : decode cX11_later 2 = .ok (.iconst 0, 1) := by decide +kernel
theorem dX11_later_3 : decode cX11_later 3 = .ok (.invokevirtual 227, 3) := by decide +kernel
theorem dX11_later_6 : decode cX11_later 6 = .ok (.iconst (-1), 1) := by decide +kernel
theorem dX11_later_7 : decode cX11_later 7 = .ok (.if_icmp .eq 37, 3) := by decide +kernel
theorem dX11_later_10 : decode cX11_later 10 = .ok (.iload_n 2, 1) := by decide +kernel
theorem dX11_later_11 : decode cX11_later 11 = .ok (.i2l, 1) := by decide +kernel
theorem dX11_later_12 : decode cX11_later 12 = .ok (.lconst 0, 1) := by decide +kernel
theorem dX11_later_13 : decode cX11_later 13 = .ok (.ldc2_w 230, 3) := by decide +kernel
theorem dX11_later_16 : decode cX11_later 16 = .ok (.invokestatic 93, 3) := by decide +kernel
theorem dX11_later_19 : decode cX11_later 19 = .ok (.ifCond .eq 25, 3) := by decide +kernel
theorem dX11_later_22 : decode cX11_later 22 = .ok (.aload_n 0, 1) := by decide +kernel
theorem dX11_later_23 : decode cX11_later 23 = .ok (.iload_n 3, 1) := by decide +kernel
theorem dX11_later_24 : decode cX11_later 24 = .ok (.i2l, 1) := by decide +kernel
theorem dX11_later_25 : decode cX11_later 25 = .ok (.invokevirtual 104, 3) := by decide +kernel
theorem dX11_later_28 : decode cX11_later 28 = .ok (.ifCond .eq 16, 3) := by decide +kernel
theorem dX11_later_31 : decode cX11_later 31 = .ok (.iload 4, 2) := by decide +kernel
theorem dX11_later_33 : decode cX11_later 33 = .ok (.i2l, 1) := by decide +kernel
theorem dX11_later_34 : decode cX11_later 34 = .ok (.lconst 0, 1) := by decide +kernel
theorem dX11_later_35 : decode cX11_later 35 = .ok (.ldc2_w 232, 3) := by decide +kernel
theorem dX11_later_38 : decode cX11_later 38 = .ok (.invokestatic 93, 3) := by decide +kernel
theorem dX11_later_41 : decode cX11_later 41 = .ok (.ifCond .ne 5, 3) := by decide +kernel
theorem dX11_later_44 : decode cX11_later 44 = .ok (.iconst (-1), 1) := by decide +kernel
theorem dX11_later_45 : decode cX11_later 45 = .ok (.ireturn, 1) := by decide +kernel
theorem dX11_later_46 : decode cX11_later 46 = .ok (.aload_n 0, 1) := by decide +kernel
theorem dX11_later_47 : decode cX11_later 47 = .ok (.iload_n 1, 1) := by decide +kernel
theorem dX11_later_48 : decode cX11_later 48 = .ok (.iconst 0, 1) := by decide +kernel
theorem dX11_later_49 : decode cX11_later 49 = .ok (.invokevirtual 227, 3) := by decide +kernel
theorem dX11_later_52 : decode cX11_later 52 = .ok (.ifCond .ge 10, 3) := by decide +kernel
theorem dX11_later_55 : decode cX11_later 55 = .ok (.aload_n 0, 1) := by decide +kernel
theorem dX11_later_56 : decode cX11_later 56 = .ok (.iload_n 1, 1) := by decide +kernel
theorem dX11_later_57 : decode cX11_later 57 = .ok (.iconst 0, 1) := by decide +kernel
theorem dX11_later_58 : decode cX11_later 58 = .ok (.invokevirtual 227, 3) := by decide +kernel
theorem dX11_later_61 : decode cX11_later 61 = .ok (.ireturn, 1) := by decide +kernel
theorem dX11_later_62 : decode cX11_later 62 = .ok (.aload_n 0, 1) := by decide +kernel
theorem dX11_later_63 : decode cX11_later 63 = .ok (.invokevirtual 217, 3) := by decide +kernel
theorem dX11_later_66 : decode cX11_later 66 = .ok (.aload_n 0, 1) := by decide +kernel
theorem dX11_later_67 : decode cX11_later 67 = .ok (.iload_n 1, 1) := by decide +kernel
theorem dX11_later_68 : decode cX11_later 68 = .ok (.iload_n 2, 1) := by decide +kernel
theorem dX11_later_69 : decode cX11_later 69 = .ok (.invokevirtual 234, 3) := by decide +kernel
theorem dX11_later_72 : decode cX11_later 72 = .ok (.iload 4, 2) := by decide +kernel
theorem dX11_later_74 : decode cX11_later 74 = .ok (.iconst 3, 1) := by decide +kernel
theorem dX11_later_75 : decode cX11_later 75 = .ok (.if_icmp .ne 12, 3) := by decide +kernel
theorem dX11_later_78 : decode cX11_later 78 = .ok (.aload_n 0, 1) := by decide +kernel
theorem dX11_later_79 : decode cX11_later 79 = .ok (.getfield 34, 3) := by decide +kernel
theorem dX11_later_82 : decode cX11_later 82 = .ok (.iload_n 3, 1) := by decide +kernel
theorem dX11_later_83 : decode cX11_later 83 = .ok (.iaload, 1) := by decide +kernel
theorem dX11_later_84 : decode cX11_later 84 = .ok (.goto 14, 3) := by decide +kernel
theorem dX11_later_87 : decode cX11_later 87 = .ok (.aload_n 0, 1) := by decide +kernel
theorem dX11_later_88 : decode cX11_later 88 = .ok (.getfield 31, 3) := by decide +kernel
theorem dX11_later_91 : decode cX11_later 91 = .ok (.iconst 3, 1) := by decide +kernel
theorem dX11_later_92 : decode cX11_later 92 = .ok (.iload_n 3, 1) := by decide +kernel
theorem dX11_later_93 : decode cX11_later 93 = .ok (.imul, 1) := by decide +kernel
theorem dX11_later_94 : decode cX11_later 94 = .ok (.iload 4, 2) := by decide +kernel
theorem dX11_later_96 : decode cX11_later 96 = .ok (.iadd, 1) := by decide +kernel
theorem dX11_later_97 : decode cX11_later 97 = .ok (.iaload, 1) := by decide +kernel
theorem dX11_later_98 : decode cX11_later 98 = .ok (.ireturn, 1) := by decide +kernel
def fX11_later (x1 : Int32) (x2 : Int32) (x3 : Int32) (x4 : Int32) (s : mS) : Option (Int32 × mS) :=
  bO (fX11_rowIs x1 (nI 0) s) fun r1 =>
  if r1 = (-1) then
    some ((-1), s)
  else
    bO (fX11_within (Int32.toInt64 x2) 0 30 s) fun r2 =>
    if r2 = 0 then
      some ((-1), s)
    else
      bO (fX11_isMachine (Int32.toInt64 x3) s) fun r3 =>
      if r3 = 0 then
        some ((-1), s)
      else
        bO (fX11_within (Int32.toInt64 x4) 0 3 s) fun r4 =>
        if r4 = 0 then
          some ((-1), s)
        else
          bO (fX11_rowIs x1 (nI 0) s) fun r5 =>
          if 0 ≤ r5 then
            bO (fX11_begins s) fun s6 =>
            bO (fX11_typesDay x1 x2 s6) fun s7 =>
            if x4 = (nI 3) then
              ldA s7 aX_age 8 x3 fun v9 =>
              some (v9, s7)
            else
              ldA s7 aX_pull 24 (((nI 3) * x3) + x4) fun v8 =>
              some (v8, s7)
          else
            bO (fX11_rowIs x1 (nI 0) s) fun r10 =>
            some (r10, s)

set_option maxRecDepth 20000 in
theorem tX11_later {ρ : mRo} {d : Nat} {P : mPo} {V : mS → List mE} (hV : mView LX V)  {x1 : Int32} {x2 : Int32} {x3 : Int32} {x4 : Int32} {s : mS} {res : (Int32 × mS)} (hf : fX11_later x1 x2 x3 x4 s = some res) (hP : P (some (.int res.1)) (V res.2)) : mC ρ (d + 5) 179 [.ref qX, .int x1, .int x2, .int x3, .int x4] (V s) P := by
  refine ⟨_, rfl, Nat.le_of_ble_eq_true rfl, by decide, ?_⟩
  show mG ρ (mC ρ (d + 4)) 11 5 cX11_later (some .int) P 0 [(0, .ref qX), (1, .int x1), (2, .int x2), (3, .int x3), (4, .int x4)] [] (V s)
  unfold fX11_later at hf
  refine e_aload_n 0 dX11_later_0 rfl rfl ?_
  refine e_iload_n 1 dX11_later_1 rfl rfl ?_
  refine e_iconst (w := (nI 0)) dX11_later_2 (by decide) ?_
  obtain ⟨r1, hg, hf⟩ := bO_some hf
  refine e_callV (as := [.int x1, .int (nI 0)]) (v := (some (.int r1))) (s' := s) hV dX11_later_3 (Or.inl rfl) rfl rfl rfl rfl (Nat.le_of_ble_eq_true rfl) lx_X rfl rfl (fun Q hQ => tX11_rowIs (d := (d + 1)) hV  hg hQ) ?_
  refine e_iconst (w := (-1)) dX11_later_6 (by decide) ?_
  refine e_icmp_eq 44 dX11_later_7 (by decide) hf (fun hf => ?_) (fun hf => ?_)
  · refine e_iconst (w := (-1)) dX11_later_44 (by decide) ?_
    obtain rfl := Option.some.inj hf
    exact e_iret dX11_later_45 trivial hP
  · refine e_iload_n 2 dX11_later_10 rfl rfl ?_
    refine e_i2l dX11_later_11 ?_
    refine e_lconst (w := 0) dX11_later_12 (by decide) ?_
    refine e_ldc2_w (w := 30) dX11_later_13 rfl ?_
    obtain ⟨r2, hg, hf⟩ := bO_some hf
    refine e_callS (as := [.long (Int32.toInt64 x2), .long 0, .long 30]) (v := (some (.int r2))) (s' := s) dX11_later_16 rfl rfl rfl rfl rfl (Nat.le_of_ble_eq_true rfl) (fun Q hQ => tX11_within (d := (d + 3)) hV  hg hQ) ?_
    refine e_if_eq 44 dX11_later_19 (by decide) hf (fun hf => ?_) (fun hf => ?_)
    · refine e_iconst (w := (-1)) dX11_later_44 (by decide) ?_
      obtain rfl := Option.some.inj hf
      exact e_iret dX11_later_45 trivial hP
    · refine e_aload_n 0 dX11_later_22 rfl rfl ?_
      refine e_iload_n 3 dX11_later_23 rfl rfl ?_
      refine e_i2l dX11_later_24 ?_
      obtain ⟨r3, hg, hf⟩ := bO_some hf
      refine e_callV (as := [.long (Int32.toInt64 x3)]) (v := (some (.int r3))) (s' := s) hV dX11_later_25 (Or.inl rfl) rfl rfl rfl rfl (Nat.le_of_ble_eq_true rfl) lx_X rfl rfl (fun Q hQ => tX11_isMachine (d := (d + 2)) hV  hg hQ) ?_
      refine e_if_eq 44 dX11_later_28 (by decide) hf (fun hf => ?_) (fun hf => ?_)
      · refine e_iconst (w := (-1)) dX11_later_44 (by decide) ?_
        obtain rfl := Option.some.inj hf
        exact e_iret dX11_later_45 trivial hP
      · refine e_iload 4 dX11_later_31 rfl ?_
        refine e_i2l dX11_later_33 ?_
        refine e_lconst (w := 0) dX11_later_34 (by decide) ?_
        refine e_ldc2_w (w := 3) dX11_later_35 rfl ?_
        obtain ⟨r4, hg, hf⟩ := bO_some hf
        refine e_callS (as := [.long (Int32.toInt64 x4), .long 0, .long 3]) (v := (some (.int r4))) (s' := s) dX11_later_38 rfl rfl rfl rfl rfl (Nat.le_of_ble_eq_true rfl) (fun Q hQ => tX11_within (d := (d + 3)) hV  hg hQ) ?_
        refine e_if_ne 46 dX11_later_41 (by decide) hf (fun hf => ?_) (fun hf => ?_)
        · refine e_aload_n 0 dX11_later_46 rfl rfl ?_
          refine e_iload_n 1 dX11_later_47 rfl rfl ?_
          refine e_iconst (w := (nI 0)) dX11_later_48 (by decide) ?_
          obtain ⟨r5, hg, hf⟩ := bO_some hf
          refine e_callV (as := [.int x1, .int (nI 0)]) (v := (some (.int r5))) (s' := s) hV dX11_later_49 (Or.inl rfl) rfl rfl rfl rfl (Nat.le_of_ble_eq_true rfl) lx_X rfl rfl (fun Q hQ => tX11_rowIs (d := (d + 1)) hV  hg hQ) ?_
          refine e_if_ge 62 dX11_later_52 (by decide) hf (fun hf => ?_) (fun hf => ?_)
          · refine e_aload_n 0 dX11_later_62 rfl rfl ?_
            obtain ⟨s6, hg, hf⟩ := bO_some hf
            refine e_callV (as := []) (v := none) (s' := s6) hV dX11_later_63 (Or.inl rfl) rfl rfl rfl rfl (Nat.le_of_ble_eq_true rfl) lx_X rfl rfl (fun Q hQ => tX11_begins (d := (d + 3)) hV  hg hQ) ?_
            refine e_aload_n 0 dX11_later_66 rfl rfl ?_
            refine e_iload_n 1 dX11_later_67 rfl rfl ?_
            refine e_iload_n 2 dX11_later_68 rfl rfl ?_
            obtain ⟨s7, hg, hf⟩ := bO_some hf
            refine e_callV (as := [.int x1, .int x2]) (v := none) (s' := s7) hV dX11_later_69 (Or.inl rfl) rfl rfl rfl rfl (Nat.le_of_ble_eq_true rfl) lx_X rfl rfl (fun Q hQ => tX11_typesDay (d := d) hV  hg hQ) ?_
            refine e_iload 4 dX11_later_72 rfl ?_
            refine e_iconst (w := (nI 3)) dX11_later_74 (by decide) ?_
            refine e_icmp_ne 87 dX11_later_75 (by decide) hf (fun hf => ?_) (fun hf => ?_)
            · refine e_aload_n 0 dX11_later_87 rfl rfl ?_
              refine e_getr hV dX11_later_88 rfl lx_X rfl ?_
              refine e_iconst (w := (nI 3)) dX11_later_91 (by decide) ?_
              refine e_iload_n 3 dX11_later_92 rfl rfl ?_
              refine e_imul dX11_later_93 ?_
              refine e_iload 4 dX11_later_94 rfl ?_
              refine e_iadd dX11_later_96 ?_
              refine e_iald hV dX11_later_97 lx_X_pull hf (fun v8 hf => ?_)
              obtain rfl := Option.some.inj hf
              exact e_iret dX11_later_98 trivial hP
            · refine e_aload_n 0 dX11_later_78 rfl rfl ?_
              refine e_getr hV dX11_later_79 rfl lx_X rfl ?_
              refine e_iload_n 3 dX11_later_82 rfl rfl ?_
              refine e_iald hV dX11_later_83 lx_X_age hf (fun v9 hf => ?_)
              refine e_goto 98 dX11_later_84 (by decide) ?_
              obtain rfl := Option.some.inj hf
              exact e_iret dX11_later_98 trivial hP
          · refine e_aload_n 0 dX11_later_55 rfl rfl ?_
            refine e_iload_n 1 dX11_later_56 rfl rfl ?_
            refine e_iconst (w := (nI 0)) dX11_later_57 (by decide) ?_
            obtain ⟨r10, hg, hf⟩ := bO_some hf
            refine e_callV (as := [.int x1, .int (nI 0)]) (v := (some (.int r10))) (s' := s) hV dX11_later_58 (Or.inl rfl) rfl rfl rfl rfl (Nat.le_of_ble_eq_true rfl) lx_X rfl rfl (fun Q hQ => tX11_rowIs (d := (d + 1)) hV  hg hQ) ?_
            obtain rfl := Option.some.inj hf
            exact e_iret dX11_later_61 trivial hP
        · refine e_iconst (w := (-1)) dX11_later_44 (by decide) ?_
          obtain rfl := Option.some.inj hf
          exact e_iret dX11_later_45 trivial hP

theorem dX11_letter_0 : decode cX11_letter 0 = .ok (.aload_n 0, 1) := by decide +kernel
theorem dX11_letter_1 : decode cX11_letter 1 = .ok (.iload_n 1, 1) := by decide +kernel
theorem dX11_letter_2 : decode cX11_letter 2 = .ok (.iconst 0, 1) := by decide +kernel
theorem dX11_letter_3 : decode cX11_letter 3 = .ok (.invokevirtual 227, 3) := by decide +kernel
theorem dX11_letter_6 : decode cX11_letter 6 = .ok (.iconst (-1), 1) := by decide +kernel
theorem dX11_letter_7 : decode cX11_letter 7 = .ok (.if_icmp .eq 8, 3) := by decide +kernel
theorem dX11_letter_10 : decode cX11_letter 10 = .ok (.iload_n 2, 1) := by decide +kernel
theorem dX11_letter_11 : decode cX11_letter 11 = .ok (.iconst (-1), 1) := by decide +kernel
theorem dX11_letter_12 : decode cX11_letter 12 = .ok (.if_icmp .ge 5, 3) := by decide +kernel
theorem dX11_letter_15 : decode cX11_letter 15 = .ok (.iconst (-1), 1) := by decide +kernel
theorem dX11_letter_16 : decode cX11_letter 16 = .ok (.ireturn, 1) := by decide +kernel
theorem dX11_letter_17 : decode cX11_letter 17 = .ok (.aload_n 0, 1) := by decide +kernel
theorem dX11_letter_18 : decode cX11_letter 18 = .ok (.iload_n 1, 1) := by decide +kernel
theorem dX11_letter_19 : decode cX11_letter 19 = .ok (.iconst 0, 1) := by decide +kernel
theorem dX11_letter_20 : decode cX11_letter 20 = .ok (.invokevirtual 227, 3) := by decide +kernel
theorem dX11_letter_23 : decode cX11_letter 23 = .ok (.ifCond .ge 10, 3) := by decide +kernel
theorem dX11_letter_26 : decode cX11_letter 26 = .ok (.aload_n 0, 1) := by decide +kernel
theorem dX11_letter_27 : decode cX11_letter 27 = .ok (.iload_n 1, 1) := by decide +kernel
theorem dX11_letter_28 : decode cX11_letter 28 = .ok (.iconst 0, 1) := by decide +kernel
theorem dX11_letter_29 : decode cX11_letter 29 = .ok (.invokevirtual 227, 3) := by decide +kernel
theorem dX11_letter_32 : decode cX11_letter 32 = .ok (.ireturn, 1) := by decide +kernel
theorem dX11_letter_33 : decode cX11_letter 33 = .ok (.aload_n 0, 1) := by decide +kernel
theorem dX11_letter_34 : decode cX11_letter 34 = .ok (.iload_n 1, 1) := by decide +kernel
theorem dX11_letter_35 : decode cX11_letter 35 = .ok (.invokevirtual 220, 3) := by decide +kernel
theorem dX11_letter_38 : decode cX11_letter 38 = .ok (.istore_n 3, 1) := by decide +kernel
theorem dX11_letter_39 : decode cX11_letter 39 = .ok (.iload_n 2, 1) := by decide +kernel
theorem dX11_letter_40 : decode cX11_letter 40 = .ok (.iconst (-1), 1) := by decide +kernel
theorem dX11_letter_41 : decode cX11_letter 41 = .ok (.if_icmp .ne 5, 3) := by decide +kernel
theorem dX11_letter_44 : decode cX11_letter 44 = .ok (.iload_n 3, 1) := by decide +kernel
theorem dX11_letter_45 : decode cX11_letter 45 = .ok (.ireturn, 1) := by decide +kernel
theorem dX11_letter_46 : decode cX11_letter 46 = .ok (.iload_n 2, 1) := by decide +kernel
theorem dX11_letter_47 : decode cX11_letter 47 = .ok (.iload_n 3, 1) := by decide +kernel
theorem dX11_letter_48 : decode cX11_letter 48 = .ok (.if_icmp .lt 6, 3) := by decide +kernel
theorem dX11_letter_51 : decode cX11_letter 51 = .ok (.bipush (-2), 2) := by decide +kernel
theorem dX11_letter_53 : decode cX11_letter 53 = .ok (.ireturn, 1) := by decide +kernel
theorem dX11_letter_54 : decode cX11_letter 54 = .ok (.aload_n 0, 1) := by decide +kernel
theorem dX11_letter_55 : decode cX11_letter 55 = .ok (.invokevirtual 217, 3) := by decide +kernel
theorem dX11_letter_58 : decode cX11_letter 58 = .ok (.aload_n 0, 1) := by decide +kernel
theorem dX11_letter_59 : decode cX11_letter 59 = .ok (.iload_n 1, 1) := by decide +kernel
theorem dX11_letter_60 : decode cX11_letter 60 = .ok (.iload_n 2, 1) := by decide +kernel
theorem dX11_letter_61 : decode cX11_letter 61 = .ok (.invokevirtual 234, 3) := by decide +kernel
theorem dX11_letter_64 : decode cX11_letter 64 = .ok (.aload_n 0, 1) := by decide +kernel
theorem dX11_letter_65 : decode cX11_letter 65 = .ok (.aload_n 0, 1) := by decide +kernel
theorem dX11_letter_66 : decode cX11_letter 66 = .ok (.getfield 74, 3) := by decide +kernel
theorem dX11_letter_69 : decode cX11_letter 69 = .ok (.bipush 60, 2) := by decide +kernel
theorem dX11_letter_71 : decode cX11_letter 71 = .ok (.iload_n 1, 1) := by decide +kernel
theorem dX11_letter_72 : decode cX11_letter 72 = .ok (.imul, 1) := by decide +kernel
theorem dX11_letter_73 : decode cX11_letter 73 = .ok (.iconst 2, 1) := by decide +kernel
theorem dX11_letter_74 : decode cX11_letter 74 = .ok (.iload_n 2, 1) := by decide +kernel
theorem dX11_letter_75 : decode cX11_letter 75 = .ok (.imul, 1) := by decide +kernel
theorem dX11_letter_76 : decode cX11_letter 76 = .ok (.iadd, 1) := by decide +kernel
theorem dX11_letter_77 : decode cX11_letter 77 = .ok (.laload, 1) := by decide +kernel
theorem dX11_letter_78 : decode cX11_letter 78 = .ok (.l2i, 1) := by decide +kernel
theorem dX11_letter_79 : decode cX11_letter 79 = .ok (.aload_n 0, 1) := by decide +kernel
theorem dX11_letter_80 : decode cX11_letter 80 = .ok (.getfield 74, 3) := by decide +kernel
theorem dX11_letter_83 : decode cX11_letter 83 = .ok (.bipush 60, 2) := by decide +kernel
theorem dX11_letter_85 : decode cX11_letter 85 = .ok (.iload_n 1, 1) := by decide +kernel
theorem dX11_letter_86 : decode cX11_letter 86 = .ok (.imul, 1) := by decide +kernel
theorem dX11_letter_87 : decode cX11_letter 87 = .ok (.iconst 2, 1) := by decide +kernel
theorem dX11_letter_88 : decode cX11_letter 88 = .ok (.iload_n 2, 1) := by decide +kernel
theorem dX11_letter_89 : decode cX11_letter 89 = .ok (.imul, 1) := by decide +kernel
theorem dX11_letter_90 : decode cX11_letter 90 = .ok (.iadd, 1) := by decide +kernel
theorem dX11_letter_91 : decode cX11_letter 91 = .ok (.iconst 1, 1) := by decide +kernel
theorem dX11_letter_92 : decode cX11_letter 92 = .ok (.iadd, 1) := by decide +kernel
theorem dX11_letter_93 : decode cX11_letter 93 = .ok (.laload, 1) := by decide +kernel
theorem dX11_letter_94 : decode cX11_letter 94 = .ok (.l2i, 1) := by decide +kernel
theorem dX11_letter_95 : decode cX11_letter 95 = .ok (.invokevirtual 237, 3) := by decide +kernel
theorem dX11_letter_98 : decode cX11_letter 98 = .ok (.ireturn, 1) := by decide +kernel
def fX11_letter (x1 : Int32) (x2 : Int32) (s : mS) : Option (Int32 × mS) :=
  bO (fX11_rowIs x1 (nI 0) s) fun r1 =>
  if r1 = (-1) then
    some ((-1), s)
  else
    if (-1) ≤ x2 then
      bO (fX11_rowIs x1 (nI 0) s) fun r2 =>
      if 0 ≤ r2 then
        bO (fX11_lettersIn x1 s) fun r3 =>
        bnd r3 fun v4 =>
        if x2 = (-1) then
          some (v4, s)
        else
          if x2 < v4 then
            bO (fX11_begins s) fun s5 =>
            bO (fX11_typesDay x1 x2 s5) fun s6 =>
            ldL s6 lX_items 360 (((nI 60) * x1) + ((nI 2) * x2)) fun v7 =>
            ldL s6 lX_items 360 ((((nI 60) * x1) + ((nI 2) * x2)) + (nI 1)) fun v8 =>
            bP (fX11_codeOf (Int64.toInt32 v7) (Int64.toInt32 v8) s6) fun r9 s10 =>
            some (r9, s10)
          else
            some ((-2), s)
      else
        bO (fX11_rowIs x1 (nI 0) s) fun r11 =>
        some (r11, s)
    else
      some ((-1), s)

set_option maxRecDepth 20000 in
theorem tX11_letter {ρ : mRo} {d : Nat} {P : mPo} {V : mS → List mE} (hV : mView LX V)  {x1 : Int32} {x2 : Int32} {s : mS} {res : (Int32 × mS)} (hf : fX11_letter x1 x2 s = some res) (hP : P (some (.int res.1)) (V res.2)) : mC ρ (d + 67) 180 [.ref qX, .int x1, .int x2] (V s) P := by
  refine ⟨_, rfl, Nat.le_of_ble_eq_true rfl, by decide, ?_⟩
  show mG ρ (mC ρ (d + 66)) 11 4 cX11_letter (some .int) P 0 [(0, .ref qX), (1, .int x1), (2, .int x2)] [] (V s)
  unfold fX11_letter at hf
  refine e_aload_n 0 dX11_letter_0 rfl rfl ?_
  refine e_iload_n 1 dX11_letter_1 rfl rfl ?_
  refine e_iconst (w := (nI 0)) dX11_letter_2 (by decide) ?_
  obtain ⟨r1, hg, hf⟩ := bO_some hf
  refine e_callV (as := [.int x1, .int (nI 0)]) (v := (some (.int r1))) (s' := s) hV dX11_letter_3 (Or.inl rfl) rfl rfl rfl rfl (Nat.le_of_ble_eq_true rfl) lx_X rfl rfl (fun Q hQ => tX11_rowIs (d := (d + 63)) hV  hg hQ) ?_
  refine e_iconst (w := (-1)) dX11_letter_6 (by decide) ?_
  refine e_icmp_eq 15 dX11_letter_7 (by decide) hf (fun hf => ?_) (fun hf => ?_)
  · refine e_iconst (w := (-1)) dX11_letter_15 (by decide) ?_
    obtain rfl := Option.some.inj hf
    exact e_iret dX11_letter_16 trivial hP
  · refine e_iload_n 2 dX11_letter_10 rfl rfl ?_
    refine e_iconst (w := (-1)) dX11_letter_11 (by decide) ?_
    refine e_icmp_ge 17 dX11_letter_12 (by decide) hf (fun hf => ?_) (fun hf => ?_)
    · refine e_aload_n 0 dX11_letter_17 rfl rfl ?_
      refine e_iload_n 1 dX11_letter_18 rfl rfl ?_
      refine e_iconst (w := (nI 0)) dX11_letter_19 (by decide) ?_
      obtain ⟨r2, hg, hf⟩ := bO_some hf
      refine e_callV (as := [.int x1, .int (nI 0)]) (v := (some (.int r2))) (s' := s) hV dX11_letter_20 (Or.inl rfl) rfl rfl rfl rfl (Nat.le_of_ble_eq_true rfl) lx_X rfl rfl (fun Q hQ => tX11_rowIs (d := (d + 63)) hV  hg hQ) ?_
      refine e_if_ge 33 dX11_letter_23 (by decide) hf (fun hf => ?_) (fun hf => ?_)
      · refine e_aload_n 0 dX11_letter_33 rfl rfl ?_
        refine e_iload_n 1 dX11_letter_34 rfl rfl ?_
        obtain ⟨r3, hg, hf⟩ := bO_some hf
        refine e_callV (as := [.int x1]) (v := (some (.int r3))) (s' := s) hV dX11_letter_35 (Or.inl rfl) rfl rfl rfl rfl (Nat.le_of_ble_eq_true rfl) lx_X rfl rfl (fun Q hQ => tX11_lettersIn (d := (d + 63)) hV  hg hQ) ?_
        refine e_istore_n dX11_letter_38 rfl (by decide) hf (fun v4 hf => ?_)
        refine e_iload_n 3 dX11_letter_39 rfl rfl ?_
        refine e_iconst (w := (-1)) dX11_letter_40 (by decide) ?_
        refine e_icmp_ne 46 dX11_letter_41 (by decide) hf (fun hf => ?_) (fun hf => ?_)
        · refine e_iload_n 3 dX11_letter_46 rfl rfl ?_
          refine e_iload_n 0 dX11_letter_47 rfl rfl ?_
          refine e_icmp_lt 54 dX11_letter_48 (by decide) hf (fun hf => ?_) (fun hf => ?_)
          · refine e_aload_n 1 dX11_letter_54 rfl rfl ?_
            obtain ⟨s5, hg, hf⟩ := bO_some hf
            refine e_callV (as := []) (v := none) (s' := s5) hV dX11_letter_55 (Or.inl rfl) rfl rfl rfl rfl (Nat.le_of_ble_eq_true rfl) lx_X rfl rfl (fun Q hQ => tX11_begins (d := (d + 65)) hV  hg hQ) ?_
            refine e_aload_n 1 dX11_letter_58 rfl rfl ?_
            refine e_iload_n 2 dX11_letter_59 rfl rfl ?_
            refine e_iload_n 3 dX11_letter_60 rfl rfl ?_
            obtain ⟨s6, hg, hf⟩ := bO_some hf
            refine e_callV (as := [.int x1, .int x2]) (v := none) (s' := s6) hV dX11_letter_61 (Or.inl rfl) rfl rfl rfl rfl (Nat.le_of_ble_eq_true rfl) lx_X rfl rfl (fun Q hQ => tX11_typesDay (d := (d + 62)) hV  hg hQ) ?_
            refine e_aload_n 1 dX11_letter_64 rfl rfl ?_
            refine e_aload_n 1 dX11_letter_65 rfl rfl ?_
            refine e_getr hV dX11_letter_66 rfl lx_X rfl ?_
            refine e_bipush (w := (nI 60)) dX11_letter_69 (by decide) ?_
            refine e_iload_n 2 dX11_letter_71 rfl rfl ?_
            refine e_imul dX11_letter_72 ?_
            refine e_iconst (w := (nI 2)) dX11_letter_73 (by decide) ?_
            refine e_iload_n 3 dX11_letter_74 rfl rfl ?_
            refine e_imul dX11_letter_75 ?_
            refine e_iadd dX11_letter_76 ?_
            refine e_lald hV dX11_letter_77 lx_X_items hf (fun v7 hf => ?_)
            refine e_l2i dX11_letter_78 ?_
            refine e_aload_n 1 dX11_letter_79 rfl rfl ?_
            refine e_getr hV dX11_letter_80 rfl lx_X rfl ?_
            refine e_bipush (w := (nI 60)) dX11_letter_83 (by decide) ?_
            refine e_iload_n 2 dX11_letter_85 rfl rfl ?_
            refine e_imul dX11_letter_86 ?_
            refine e_iconst (w := (nI 2)) dX11_letter_87 (by decide) ?_
            refine e_iload_n 3 dX11_letter_88 rfl rfl ?_
            refine e_imul dX11_letter_89 ?_
            refine e_iadd dX11_letter_90 ?_
            refine e_iconst (w := (nI 1)) dX11_letter_91 (by decide) ?_
            refine e_iadd dX11_letter_92 ?_
            refine e_lald hV dX11_letter_93 lx_X_items hf (fun v8 hf => ?_)
            refine e_l2i dX11_letter_94 ?_
            obtain ⟨r9, s10, hg, hf⟩ := bP_some hf
            refine e_callV (as := [.int (Int64.toInt32 v7), .int (Int64.toInt32 v8)]) (v := (some (.int r9))) (s' := s10) hV dX11_letter_95 (Or.inl rfl) rfl rfl rfl rfl (Nat.le_of_ble_eq_true rfl) lx_X rfl rfl (fun Q hQ => tX11_codeOf (d := d) hV  hg hQ) ?_
            obtain rfl := Option.some.inj hf
            exact e_iret dX11_letter_98 trivial hP
          · refine e_bipush (w := (-2)) dX11_letter_51 (by decide) ?_
            obtain rfl := Option.some.inj hf
            exact e_iret dX11_letter_53 trivial hP
        · refine e_iload_n 0 dX11_letter_44 rfl rfl ?_
          obtain rfl := Option.some.inj hf
          exact e_iret dX11_letter_45 trivial hP
      · refine e_aload_n 0 dX11_letter_26 rfl rfl ?_
        refine e_iload_n 1 dX11_letter_27 rfl rfl ?_
        refine e_iconst (w := (nI 0)) dX11_letter_28 (by decide) ?_
        obtain ⟨r11, hg, hf⟩ := bO_some hf
        refine e_callV (as := [.int x1, .int (nI 0)]) (v := (some (.int r11))) (s' := s) hV dX11_letter_29 (Or.inl rfl) rfl rfl rfl rfl (Nat.le_of_ble_eq_true rfl) lx_X rfl rfl (fun Q hQ => tX11_rowIs (d := (d + 63)) hV  hg hQ) ?_
        obtain rfl := Option.some.inj hf
        exact e_iret dX11_letter_32 trivial hP
    · refine e_iconst (w := (-1)) dX11_letter_15 (by decide) ?_
      obtain rfl := Option.some.inj hf
      exact e_iret dX11_letter_16 trivial hP

theorem dX11_still_0 : decode cX11_still 0 = .ok (.aload_n 0, 1) := by decide +kernel
theorem dX11_still_1 : decode cX11_still 1 = .ok (.iload_n 1, 1) := by decide +kernel
theorem dX11_still_2 : decode cX11_still 2 = .ok (.iconst 0, 1) := by decide +kernel
theorem dX11_still_3 : decode cX11_still 3 = .ok (.invokevirtual 227, 3) := by decide +kernel
theorem dX11_still_6 : decode cX11_still 6 = .ok (.ifCond .ge 10, 3) := by decide +kernel
theorem dX11_still_9 : decode cX11_still 9 = .ok (.aload_n 0, 1) := by decide +kernel
theorem dX11_still_10 : decode cX11_still 10 = .ok (.iload_n 1, 1) := by decide +kernel
theorem dX11_still_11 : decode cX11_still 11 = .ok (.iconst 0, 1) := by decide +kernel
theorem dX11_still_12 : decode cX11_still 12 = .ok (.invokevirtual 227, 3) := by decide +kernel
theorem dX11_still_15 : decode cX11_still 15 = .ok (.ireturn, 1) := by decide +kernel
theorem dX11_still_16 : decode cX11_still 16 = .ok (.aload_n 0, 1) := by decide +kernel
theorem dX11_still_17 : decode cX11_still 17 = .ok (.invokevirtual 217, 3) := by decide +kernel
theorem dX11_still_20 : decode cX11_still 20 = .ok (.iconst 0, 1) := by decide +kernel
theorem dX11_still_21 : decode cX11_still 21 = .ok (.istore_n 2, 1) := by decide +kernel
theorem dX11_still_22 : decode cX11_still 22 = .ok (.iload_n 2, 1) := by decide +kernel
theorem dX11_still_23 : decode cX11_still 23 = .ok (.bipush 99, 2) := by decide +kernel
theorem dX11_still_25 : decode cX11_still 25 = .ok (.if_icmp .gt 93, 3) := by decide +kernel
theorem dX11_still_28 : decode cX11_still 28 = .ok (.iconst 0, 1) := by decide +kernel
theorem dX11_still_29 : decode cX11_still 29 = .ok (.istore_n 3, 1) := by decide +kernel
theorem dX11_still_30 : decode cX11_still 30 = .ok (.iload_n 3, 1) := by decide +kernel
theorem dX11_still_31 : decode cX11_still 31 = .ok (.bipush 24, 2) := by decide +kernel
theorem dX11_still_33 : decode cX11_still 33 = .ok (.if_icmp .ge 21, 3) := by decide +kernel
theorem dX11_still_36 : decode cX11_still 36 = .ok (.aload_n 0, 1) := by decide +kernel
theorem dX11_still_37 : decode cX11_still 37 = .ok (.getfield 37, 3) := by decide +kernel
theorem dX11_still_40 : decode cX11_still 40 = .ok (.iload_n 3, 1) := by decide +kernel
theorem dX11_still_41 : decode cX11_still 41 = .ok (.aload_n 0, 1) := by decide +kernel
theorem dX11_still_42 : decode cX11_still 42 = .ok (.getfield 31, 3) := by decide +kernel
theorem dX11_still_45 : decode cX11_still 45 = .ok (.iload_n 3, 1) := by decide +kernel
theorem dX11_still_46 : decode cX11_still 46 = .ok (.iaload, 1) := by decide +kernel
theorem dX11_still_47 : decode cX11_still 47 = .ok (.iastore, 1) := by decide +kernel
theorem dX11_still_48 : decode cX11_still 48 = .ok (.iinc 3 1, 3) := by decide +kernel
theorem dX11_still_51 : decode cX11_still 51 = .ok (.goto (-21), 3) := by decide +kernel
theorem dX11_still_54 : decode cX11_still 54 = .ok (.aload_n 0, 1) := by decide +kernel
theorem dX11_still_55 : decode cX11_still 55 = .ok (.iload_n 1, 1) := by decide +kernel
theorem dX11_still_56 : decode cX11_still 56 = .ok (.bipush 30, 2) := by decide +kernel
theorem dX11_still_58 : decode cX11_still 58 = .ok (.invokevirtual 234, 3) := by decide +kernel
theorem dX11_still_61 : decode cX11_still 61 = .ok (.iconst 1, 1) := by decide +kernel
theorem dX11_still_62 : decode cX11_still 62 = .ok (.istore_n 3, 1) := by decide +kernel
theorem dX11_still_63 : decode cX11_still 63 = .ok (.iconst 0, 1) := by decide +kernel
theorem dX11_still_64 : decode cX11_still 64 = .ok (.istore 4, 2) := by decide +kernel
theorem dX11_still_66 : decode cX11_still 66 = .ok (.iload 4, 2) := by decide +kernel
theorem dX11_still_68 : decode cX11_still 68 = .ok (.bipush 24, 2) := by decide +kernel
theorem dX11_still_70 : decode cX11_still 70 = .ok (.if_icmp .ge 36, 3) := by decide +kernel
theorem dX11_still_73 : decode cX11_still 73 = .ok (.iload_n 3, 1) := by decide +kernel
theorem dX11_still_74 : decode cX11_still 74 = .ok (.ifCond .eq 24, 3) := by decide +kernel
theorem dX11_still_77 : decode cX11_still 77 = .ok (.aload_n 0, 1) := by decide +kernel
theorem dX11_still_78 : decode cX11_still 78 = .ok (.getfield 37, 3) := by decide +kernel
theorem dX11_still_81 : decode cX11_still 81 = .ok (.iload 4, 2) := by decide +kernel
theorem dX11_still_83 : decode cX11_still 83 = .ok (.iaload, 1) := by decide +kernel
theorem dX11_still_84 : decode cX11_still 84 = .ok (.aload_n 0, 1) := by decide +kernel
theorem dX11_still_85 : decode cX11_still 85 = .ok (.getfield 31, 3) := by decide +kernel
theorem dX11_still_88 : decode cX11_still 88 = .ok (.iload 4, 2) := by decide +kernel
theorem dX11_still_90 : decode cX11_still 90 = .ok (.iaload, 1) := by decide +kernel
theorem dX11_still_91 : decode cX11_still 91 = .ok (.if_icmp .ne 7, 3) := by decide +kernel
theorem dX11_still_94 : decode cX11_still 94 = .ok (.iconst 1, 1) := by decide +kernel
theorem dX11_still_95 : decode cX11_still 95 = .ok (.goto 4, 3) := by decide +kernel
theorem dX11_still_98 : decode cX11_still 98 = .ok (.iconst 0, 1) := by decide +kernel
theorem dX11_still_99 : decode cX11_still 99 = .ok (.istore_n 3, 1) := by decide +kernel
theorem dX11_still_100 : decode cX11_still 100 = .ok (.iinc 4 1, 3) := by decide +kernel
theorem dX11_still_103 : decode cX11_still 103 = .ok (.goto (-37), 3) := by decide +kernel
theorem dX11_still_106 : decode cX11_still 106 = .ok (.iload_n 3, 1) := by decide +kernel
theorem dX11_still_107 : decode cX11_still 107 = .ok (.ifCond .eq 5, 3) := by decide +kernel
theorem dX11_still_110 : decode cX11_still 110 = .ok (.iload_n 2, 1) := by decide +kernel
theorem dX11_still_111 : decode cX11_still 111 = .ok (.ireturn, 1) := by decide +kernel
theorem dX11_still_112 : decode cX11_still 112 = .ok (.iinc 2 1, 3) := by decide +kernel
theorem dX11_still_115 : decode cX11_still 115 = .ok (.goto (-93), 3) := by decide +kernel
theorem dX11_still_118 : decode cX11_still 118 = .ok (.bipush (-2), 2) := by decide +kernel
theorem dX11_still_120 : decode cX11_still 120 = .ok (.ireturn, 1) := by decide +kernel
def fX11_still_b99 (K22 : Int32 → Int32 → mS → Option (Int32 × mS)) (K66 : Int32 → Int32 → Int32 → Int32 → mS → Option (Int32 × mS)) (y1 : Int32) (y2 : Int32) (y4 : Int32) (z0 : Int32) (s : mS) : Option (Int32 × mS) :=
  bnd z0 fun v9 =>
  bnd (y4 + (nI 1)) fun v10 =>
  K66 y1 y2 v9 v10 s

def fX11_still_b98 (K22 : Int32 → Int32 → mS → Option (Int32 × mS)) (K66 : Int32 → Int32 → Int32 → Int32 → mS → Option (Int32 × mS)) (y1 : Int32) (y2 : Int32) (y4 : Int32) (s : mS) : Option (Int32 × mS) :=
  fX11_still_b99 K22 K66 y1 y2 y4 (nI 0) s

def fX11_still_b66 (K22 : Int32 → Int32 → mS → Option (Int32 × mS)) : Nat → Int32 → Int32 → Int32 → Int32 → mS → Option (Int32 × mS)
  | 0, _, _, _, _, _ => none
  | k + 1, y1, y2, y3, y4, s =>
    if (nI 24) ≤ y4 then
      if y3 = 0 then
        bnd (y2 + (nI 1)) fun v8 =>
        K22 y1 v8 s
      else
        some (y2, s)
    else
      if y3 = 0 then
        fX11_still_b98 K22 (fun u0 u1 u2 u3 u4 => fX11_still_b66 K22 k u0 u1 u2 u3 u4) y1 y2 y4 s
      else
        ldA s aX_hadPull 24 y4 fun v11 =>
        ldA s aX_pull 24 y4 fun v12 =>
        if v11 = v12 then
          fX11_still_b99 K22 (fun u0 u1 u2 u3 u4 => fX11_still_b66 K22 k u0 u1 u2 u3 u4) y1 y2 y4 (nI 1) s
        else
          fX11_still_b98 K22 (fun u0 u1 u2 u3 u4 => fX11_still_b66 K22 k u0 u1 u2 u3 u4) y1 y2 y4 s

def fX11_still_b30 (K22 : Int32 → Int32 → mS → Option (Int32 × mS)) : Nat → Int32 → Int32 → Int32 → mS → Option (Int32 × mS)
  | 0, _, _, _, _ => none
  | k + 1, y1, y2, y3, s =>
    if (nI 24) ≤ y3 then
      bO (fX11_typesDay y1 (nI 30) s) fun s5 =>
      bnd (nI 1) fun v6 =>
      bnd (nI 0) fun v7 =>
      fX11_still_b66 K22 mFu y1 y2 v6 v7 s5
    else
      ldA s aX_pull 24 y3 fun v13 =>
      stA s aX_hadPull 24 y3 v13 fun s14 =>
      bnd (y3 + (nI 1)) fun v15 =>
      fX11_still_b30 K22 k y1 y2 v15 s14

def fX11_still_b22 : Nat → Int32 → Int32 → mS → Option (Int32 × mS)
  | 0, _, _, _ => none
  | k + 1, y1, y2, s =>
    if (nI 99) < y2 then
      some ((-2), s)
    else
      bnd (nI 0) fun v4 =>
      fX11_still_b30 (fun u0 u1 u2 => fX11_still_b22 k u0 u1 u2) mFu y1 y2 v4 s

def fX11_still (x1 : Int32) (s : mS) : Option (Int32 × mS) :=
  bO (fX11_rowIs x1 (nI 0) s) fun r1 =>
  if 0 ≤ r1 then
    bO (fX11_begins s) fun s2 =>
    bnd (nI 0) fun v3 =>
    fX11_still_b22 mFu x1 v3 s2
  else
    bO (fX11_rowIs x1 (nI 0) s) fun r16 =>
    some (r16, s)

set_option maxRecDepth 20000 in
theorem wX11_still_b99 {ρ : mRo} {d : Nat} {P : mPo} {V : mS → List mE} (hV : mView LX V)  {res : (Int32 × mS)} {K22 : Int32 → Int32 → mS → Option (Int32 × mS)} (hK22 : ∀ (y1 : Int32) (y2 : Int32) (s : mS), K22 y1 y2 s = some res → mG ρ (mC ρ (d + 4)) 11 5 cX11_still (some .int) P 22 [(0, .ref qX), (1, .int y1), (2, .int y2)] [] (V s)) {K66 : Int32 → Int32 → Int32 → Int32 → mS → Option (Int32 × mS)} (hK66 : ∀ (y1 : Int32) (y2 : Int32) (y3 : Int32) (y4 : Int32) (s : mS), K66 y1 y2 y3 y4 s = some res → mG ρ (mC ρ (d + 4)) 11 5 cX11_still (some .int) P 66 [(0, .ref qX), (1, .int y1), (2, .int y2), (3, .int y3), (4, .int y4)] [] (V s)) (hP : P (some (.int res.1)) (V res.2)) (y1 : Int32) (y2 : Int32) (y4 : Int32) (z0 : Int32) (s : mS) (hf : fX11_still_b99 K22 K66 y1 y2 y4 z0 s = some res) : mG ρ (mC ρ (d + 4)) 11 5 cX11_still (some .int) P 99 [(0, .ref qX), (1, .int y1), (2, .int y2), (4, .int y4)] [.int z0] (V s) := by
  unfold fX11_still_b99 at hf
  refine e_istore_n dX11_still_99 rfl (by decide) hf (fun v9 hf => ?_)
  refine e_iinc 4 dX11_still_100 (by decide) rfl hf (fun v10 hf => ?_)
  refine e_goto 66 dX11_still_103 (by decide) ?_
  refine e_pick [2, 3, 4, 1, 0] rfl ?_
  exact hK66 y1 y2 v9 v10 s hf
set_option maxRecDepth 20000 in
theorem wX11_still_b98 {ρ : mRo} {d : Nat} {P : mPo} {V : mS → List mE} (hV : mView LX V)  {res : (Int32 × mS)} {K22 : Int32 → Int32 → mS → Option (Int32 × mS)} (hK22 : ∀ (y1 : Int32) (y2 : Int32) (s : mS), K22 y1 y2 s = some res → mG ρ (mC ρ (d + 4)) 11 5 cX11_still (some .int) P 22 [(0, .ref qX), (1, .int y1), (2, .int y2)] [] (V s)) {K66 : Int32 → Int32 → Int32 → Int32 → mS → Option (Int32 × mS)} (hK66 : ∀ (y1 : Int32) (y2 : Int32) (y3 : Int32) (y4 : Int32) (s : mS), K66 y1 y2 y3 y4 s = some res → mG ρ (mC ρ (d + 4)) 11 5 cX11_still (some .int) P 66 [(0, .ref qX), (1, .int y1), (2, .int y2), (3, .int y3), (4, .int y4)] [] (V s)) (hP : P (some (.int res.1)) (V res.2)) (y1 : Int32) (y2 : Int32) (y4 : Int32) (s : mS) (hf : fX11_still_b98 K22 K66 y1 y2 y4 s = some res) : mG ρ (mC ρ (d + 4)) 11 5 cX11_still (some .int) P 98 [(0, .ref qX), (1, .int y1), (2, .int y2), (4, .int y4)] [] (V s) := by
  unfold fX11_still_b98 at hf
  refine e_iconst (w := (nI 0)) dX11_still_98 (by decide) ?_
  refine e_pick [0, 1, 2, 3] rfl ?_
  exact wX11_still_b99 hV hK22 hK66 hP y1 y2 y4 (nI 0) s hf
set_option maxRecDepth 20000 in
theorem wX11_still_b66 {ρ : mRo} {d : Nat} {P : mPo} {V : mS → List mE} (hV : mView LX V)  {res : (Int32 × mS)} {K22 : Int32 → Int32 → mS → Option (Int32 × mS)} (hK22 : ∀ (y1 : Int32) (y2 : Int32) (s : mS), K22 y1 y2 s = some res → mG ρ (mC ρ (d + 4)) 11 5 cX11_still (some .int) P 22 [(0, .ref qX), (1, .int y1), (2, .int y2)] [] (V s)) (hP : P (some (.int res.1)) (V res.2)) : ∀ (k : Nat) (y1 : Int32) (y2 : Int32) (y3 : Int32) (y4 : Int32) (s : mS), fX11_still_b66 K22 k y1 y2 y3 y4 s = some res → mG ρ (mC ρ (d + 4)) 11 5 cX11_still (some .int) P 66 [(0, .ref qX), (1, .int y1), (2, .int y2), (3, .int y3), (4, .int y4)] [] (V s) := by
  intro k
  induction k with
  | zero => intro y1 y2 y3 y4 s hf; rw [fX11_still_b66] at hf; cases hf
  | succ k ih =>
    intro y1 y2 y3 y4 s hf
    rw [fX11_still_b66] at hf
    refine e_iload 4 dX11_still_66 rfl ?_
    refine e_bipush (w := (nI 24)) dX11_still_68 (by decide) ?_
    refine e_icmp_ge 106 dX11_still_70 (by decide) hf (fun hf => ?_) (fun hf => ?_)
    · refine e_iload_n 3 dX11_still_106 rfl rfl ?_
      refine e_if_eq 112 dX11_still_107 (by decide) hf (fun hf => ?_) (fun hf => ?_)
      · refine e_iinc 2 dX11_still_112 (by decide) rfl hf (fun v8 hf => ?_)
        refine e_goto 22 dX11_still_115 (by decide) ?_
        refine e_pick [1, 2, 0] rfl ?_
        exact hK22 y1 v8 s hf
      · refine e_iload_n 2 dX11_still_110 rfl rfl ?_
        obtain rfl := Option.some.inj hf
        exact e_iret dX11_still_111 trivial hP
    · refine e_iload_n 3 dX11_still_73 rfl rfl ?_
      refine e_if_eq 98 dX11_still_74 (by decide) hf (fun hf => ?_) (fun hf => ?_)
      · refine e_pick [0, 1, 2, 4] rfl ?_
        exact wX11_still_b98 hV hK22 ih hP y1 y2 y4 s hf
      · refine e_aload_n 0 dX11_still_77 rfl rfl ?_
        refine e_getr hV dX11_still_78 rfl lx_X rfl ?_
        refine e_iload 4 dX11_still_81 rfl ?_
        refine e_iald hV dX11_still_83 lx_X_hadPull hf (fun v11 hf => ?_)
        refine e_aload_n 0 dX11_still_84 rfl rfl ?_
        refine e_getr hV dX11_still_85 rfl lx_X rfl ?_
        refine e_iload 4 dX11_still_88 rfl ?_
        refine e_iald hV dX11_still_90 lx_X_pull hf (fun v12 hf => ?_)
        refine e_icmp_ne 98 dX11_still_91 (by decide) hf (fun hf => ?_) (fun hf => ?_)
        · refine e_pick [0, 1, 2, 4] rfl ?_
          exact wX11_still_b98 hV hK22 ih hP y1 y2 y4 s hf
        · refine e_iconst (w := (nI 1)) dX11_still_94 (by decide) ?_
          refine e_goto 99 dX11_still_95 (by decide) ?_
          refine e_pick [0, 1, 2, 4] rfl ?_
          exact wX11_still_b99 hV hK22 ih hP y1 y2 y4 (nI 1) s hf
set_option maxRecDepth 20000 in
theorem wX11_still_b30 {ρ : mRo} {d : Nat} {P : mPo} {V : mS → List mE} (hV : mView LX V)  {res : (Int32 × mS)} {K22 : Int32 → Int32 → mS → Option (Int32 × mS)} (hK22 : ∀ (y1 : Int32) (y2 : Int32) (s : mS), K22 y1 y2 s = some res → mG ρ (mC ρ (d + 4)) 11 5 cX11_still (some .int) P 22 [(0, .ref qX), (1, .int y1), (2, .int y2)] [] (V s)) (hP : P (some (.int res.1)) (V res.2)) : ∀ (k : Nat) (y1 : Int32) (y2 : Int32) (y3 : Int32) (s : mS), fX11_still_b30 K22 k y1 y2 y3 s = some res → mG ρ (mC ρ (d + 4)) 11 5 cX11_still (some .int) P 30 [(0, .ref qX), (1, .int y1), (2, .int y2), (3, .int y3)] [] (V s) := by
  intro k
  induction k with
  | zero => intro y1 y2 y3 s hf; rw [fX11_still_b30] at hf; cases hf
  | succ k ih =>
    intro y1 y2 y3 s hf
    rw [fX11_still_b30] at hf
    refine e_iload_n 3 dX11_still_30 rfl rfl ?_
    refine e_bipush (w := (nI 24)) dX11_still_31 (by decide) ?_
    refine e_icmp_ge 54 dX11_still_33 (by decide) hf (fun hf => ?_) (fun hf => ?_)
    · refine e_aload_n 0 dX11_still_54 rfl rfl ?_
      refine e_iload_n 1 dX11_still_55 rfl rfl ?_
      refine e_bipush (w := (nI 30)) dX11_still_56 (by decide) ?_
      obtain ⟨s5, hg, hf⟩ := bO_some hf
      refine e_callV (as := [.int y1, .int (nI 30)]) (v := none) (s' := s5) hV dX11_still_58 (Or.inl rfl) rfl rfl rfl rfl (Nat.le_of_ble_eq_true rfl) lx_X rfl rfl (fun Q hQ => tX11_typesDay (d := d) hV  hg hQ) ?_
      refine e_iconst (w := (nI 1)) dX11_still_61 (by decide) ?_
      refine e_istore_n dX11_still_62 rfl (by decide) hf (fun v6 hf => ?_)
      refine e_iconst (w := (nI 0)) dX11_still_63 (by decide) ?_
      refine e_istore dX11_still_64 (by decide) hf (fun v7 hf => ?_)
      refine e_pick [2, 3, 4, 1, 0] rfl ?_
      exact wX11_still_b66 hV hK22 hP mFu y1 y2 v6 v7 s5 hf
    · refine e_aload_n 0 dX11_still_36 rfl rfl ?_
      refine e_getr hV dX11_still_37 rfl lx_X rfl ?_
      refine e_iload_n 3 dX11_still_40 rfl rfl ?_
      refine e_aload_n 0 dX11_still_41 rfl rfl ?_
      refine e_getr hV dX11_still_42 rfl lx_X rfl ?_
      refine e_iload_n 3 dX11_still_45 rfl rfl ?_
      refine e_iald hV dX11_still_46 lx_X_pull hf (fun v13 hf => ?_)
      refine e_iast hV dX11_still_47 lx_X_hadPull hf (fun s14 hf => ?_)
      refine e_iinc 3 dX11_still_48 (by decide) rfl hf (fun v15 hf => ?_)
      refine e_goto 30 dX11_still_51 (by decide) ?_
      refine e_pick [1, 2, 3, 0] rfl ?_
      exact ih y1 y2 v15 s14 hf
set_option maxRecDepth 20000 in
theorem wX11_still_b22 {ρ : mRo} {d : Nat} {P : mPo} {V : mS → List mE} (hV : mView LX V)  {res : (Int32 × mS)} (hP : P (some (.int res.1)) (V res.2)) : ∀ (k : Nat) (y1 : Int32) (y2 : Int32) (s : mS), fX11_still_b22 k y1 y2 s = some res → mG ρ (mC ρ (d + 4)) 11 5 cX11_still (some .int) P 22 [(0, .ref qX), (1, .int y1), (2, .int y2)] [] (V s) := by
  intro k
  induction k with
  | zero => intro y1 y2 s hf; rw [fX11_still_b22] at hf; cases hf
  | succ k ih =>
    intro y1 y2 s hf
    rw [fX11_still_b22] at hf
    refine e_iload_n 2 dX11_still_22 rfl rfl ?_
    refine e_bipush (w := (nI 99)) dX11_still_23 (by decide) ?_
    refine e_icmp_gt 118 dX11_still_25 (by decide) hf (fun hf => ?_) (fun hf => ?_)
    · refine e_bipush (w := (-2)) dX11_still_118 (by decide) ?_
      obtain rfl := Option.some.inj hf
      exact e_iret dX11_still_120 trivial hP
    · refine e_iconst (w := (nI 0)) dX11_still_28 (by decide) ?_
      refine e_istore_n dX11_still_29 rfl (by decide) hf (fun v4 hf => ?_)
      refine e_pick [1, 2, 3, 0] rfl ?_
      exact wX11_still_b30 hV ih hP mFu y1 y2 v4 s hf
set_option maxRecDepth 20000 in
theorem tX11_still {ρ : mRo} {d : Nat} {P : mPo} {V : mS → List mE} (hV : mView LX V)  {x1 : Int32} {s : mS} {res : (Int32 × mS)} (hf : fX11_still x1 s = some res) (hP : P (some (.int res.1)) (V res.2)) : mC ρ (d + 5) 181 [.ref qX, .int x1] (V s) P := by
  refine ⟨_, rfl, Nat.le_of_ble_eq_true rfl, by decide, ?_⟩
  show mG ρ (mC ρ (d + 4)) 11 5 cX11_still (some .int) P 0 [(0, .ref qX), (1, .int x1)] [] (V s)
  unfold fX11_still at hf
  refine e_aload_n 0 dX11_still_0 rfl rfl ?_
  refine e_iload_n 1 dX11_still_1 rfl rfl ?_
  refine e_iconst (w := (nI 0)) dX11_still_2 (by decide) ?_
  obtain ⟨r1, hg, hf⟩ := bO_some hf
  refine e_callV (as := [.int x1, .int (nI 0)]) (v := (some (.int r1))) (s' := s) hV dX11_still_3 (Or.inl rfl) rfl rfl rfl rfl (Nat.le_of_ble_eq_true rfl) lx_X rfl rfl (fun Q hQ => tX11_rowIs (d := (d + 1)) hV  hg hQ) ?_
  refine e_if_ge 16 dX11_still_6 (by decide) hf (fun hf => ?_) (fun hf => ?_)
  · refine e_aload_n 0 dX11_still_16 rfl rfl ?_
    obtain ⟨s2, hg, hf⟩ := bO_some hf
    refine e_callV (as := []) (v := none) (s' := s2) hV dX11_still_17 (Or.inl rfl) rfl rfl rfl rfl (Nat.le_of_ble_eq_true rfl) lx_X rfl rfl (fun Q hQ => tX11_begins (d := (d + 3)) hV  hg hQ) ?_
    refine e_iconst (w := (nI 0)) dX11_still_20 (by decide) ?_
    refine e_istore_n dX11_still_21 rfl (by decide) hf (fun v3 hf => ?_)
    refine e_pick [1, 2, 0] rfl ?_
    exact wX11_still_b22 hV hP mFu x1 v3 s2 hf
  · refine e_aload_n 0 dX11_still_9 rfl rfl ?_
    refine e_iload_n 1 dX11_still_10 rfl rfl ?_
    refine e_iconst (w := (nI 0)) dX11_still_11 (by decide) ?_
    obtain ⟨r16, hg, hf⟩ := bO_some hf
    refine e_callV (as := [.int x1, .int (nI 0)]) (v := (some (.int r16))) (s' := s) hV dX11_still_12 (Or.inl rfl) rfl rfl rfl rfl (Nat.le_of_ble_eq_true rfl) lx_X rfl rfl (fun Q hQ => tX11_rowIs (d := (d + 1)) hV  hg hQ) ?_
    obtain rfl := Option.some.inj hf
    exact e_iret dX11_still_15 trivial hP

theorem dX11_farOf_0 : decode cX11_farOf 0 = .ok (.iconst 0, 1) := by decide +kernel
theorem dX11_farOf_1 : decode cX11_farOf 1 = .ok (.istore_n 3, 1) := by decide +kernel
theorem dX11_farOf_2 : decode cX11_farOf 2 = .ok (.iconst 0, 1) := by decide +kernel
theorem dX11_farOf_3 : decode cX11_farOf 3 = .ok (.istore 4, 2) := by decide +kernel
theorem dX11_farOf_5 : decode cX11_farOf 5 = .ok (.iload 4, 2) := by decide +kernel
theorem dX11_farOf_7 : decode cX11_farOf 7 = .ok (.iconst 3, 1) := by decide +kernel
theorem dX11_farOf_8 : decode cX11_farOf 8 = .ok (.if_icmp .ge 33, 3) := by decide +kernel
theorem dX11_farOf_11 : decode cX11_farOf 11 = .ok (.iload_n 3, 1) := by decide +kernel
theorem dX11_farOf_12 : decode cX11_farOf 12 = .ok (.aload_n 0, 1) := by decide +kernel
theorem dX11_farOf_13 : decode cX11_farOf 13 = .ok (.iload_n 1, 1) := by decide +kernel
theorem dX11_farOf_14 : decode cX11_farOf 14 = .ok (.iload 4, 2) := by decide +kernel
theorem dX11_farOf_16 : decode cX11_farOf 16 = .ok (.invokevirtual 198, 3) := by decide +kernel
theorem dX11_farOf_19 : decode cX11_farOf 19 = .ok (.aload_n 0, 1) := by decide +kernel
theorem dX11_farOf_20 : decode cX11_farOf 20 = .ok (.getfield 31, 3) := by decide +kernel
theorem dX11_farOf_23 : decode cX11_farOf 23 = .ok (.iconst 3, 1) := by decide +kernel
theorem dX11_farOf_24 : decode cX11_farOf 24 = .ok (.iload_n 2, 1) := by decide +kernel
theorem dX11_farOf_25 : decode cX11_farOf 25 = .ok (.imul, 1) := by decide +kernel
theorem dX11_farOf_26 : decode cX11_farOf 26 = .ok (.iload 4, 2) := by decide +kernel
theorem dX11_farOf_28 : decode cX11_farOf 28 = .ok (.iadd, 1) := by decide +kernel
theorem dX11_farOf_29 : decode cX11_farOf 29 = .ok (.iaload, 1) := by decide +kernel
theorem dX11_farOf_30 : decode cX11_farOf 30 = .ok (.invokestatic 201, 3) := by decide +kernel
theorem dX11_farOf_33 : decode cX11_farOf 33 = .ok (.iadd, 1) := by decide +kernel
theorem dX11_farOf_34 : decode cX11_farOf 34 = .ok (.istore_n 3, 1) := by decide +kernel
theorem dX11_farOf_35 : decode cX11_farOf 35 = .ok (.iinc 4 1, 3) := by decide +kernel
theorem dX11_farOf_38 : decode cX11_farOf 38 = .ok (.goto (-33), 3) := by decide +kernel
theorem dX11_farOf_41 : decode cX11_farOf 41 = .ok (.iload_n 3, 1) := by decide +kernel
theorem dX11_farOf_42 : decode cX11_farOf 42 = .ok (.ireturn, 1) := by decide +kernel
def fX11_farOf_b5 : Nat → Int32 → Int32 → Int32 → Int32 → mS → Option Int32
  | 0, _, _, _, _, _ => none
  | k + 1, y1, y2, y3, y4, s =>
    if (nI 3) ≤ y4 then
      some y3
    else
      bO (fX11_handOf y1 y4 s) fun r3 =>
      ldA s aX_pull 24 (((nI 3) * y2) + y4) fun v4 =>
      bO (fX11_apart r3 v4 s) fun r5 =>
      bnd (y3 + r5) fun v6 =>
      bnd (y4 + (nI 1)) fun v7 =>
      fX11_farOf_b5 k y1 y2 v6 v7 s

def fX11_farOf (x1 : Int32) (x2 : Int32) (s : mS) : Option Int32 :=
  bnd (nI 0) fun v1 =>
  bnd (nI 0) fun v2 =>
  fX11_farOf_b5 mFu x1 x2 v1 v2 s

set_option maxRecDepth 20000 in
theorem wX11_farOf_b5 {ρ : mRo} {d : Nat} {P : mPo} {V : mS → List mE} (hV : mView LX V)  {res : Int32} {s : mS} (hP : P (some (.int res)) (V s)) : ∀ (k : Nat) (y1 : Int32) (y2 : Int32) (y3 : Int32) (y4 : Int32), fX11_farOf_b5 k y1 y2 y3 y4 s = some res → mG ρ (mC ρ (d + 1)) 11 5 cX11_farOf (some .int) P 5 [(0, .ref qX), (1, .int y1), (2, .int y2), (3, .int y3), (4, .int y4)] [] (V s) := by
  intro k
  induction k with
  | zero => intro y1 y2 y3 y4 hf; rw [fX11_farOf_b5] at hf; cases hf
  | succ k ih =>
    intro y1 y2 y3 y4 hf
    rw [fX11_farOf_b5] at hf
    refine e_iload 4 dX11_farOf_5 rfl ?_
    refine e_iconst (w := (nI 3)) dX11_farOf_7 (by decide) ?_
    refine e_icmp_ge 41 dX11_farOf_8 (by decide) hf (fun hf => ?_) (fun hf => ?_)
    · refine e_iload_n 3 dX11_farOf_41 rfl rfl ?_
      obtain rfl := Option.some.inj hf
      exact e_iret dX11_farOf_42 trivial hP
    · refine e_iload_n 3 dX11_farOf_11 rfl rfl ?_
      refine e_aload_n 0 dX11_farOf_12 rfl rfl ?_
      refine e_iload_n 1 dX11_farOf_13 rfl rfl ?_
      refine e_iload 4 dX11_farOf_14 rfl ?_
      obtain ⟨r3, hg, hf⟩ := bO_some hf
      refine e_callV (as := [.int y1, .int y4]) (v := (some (.int r3))) (s' := s) hV dX11_farOf_16 (Or.inl rfl) rfl rfl rfl rfl (Nat.le_of_ble_eq_true rfl) lx_X rfl rfl (fun Q hQ => tX11_handOf (d := d) hV  hg hQ) ?_
      refine e_aload_n 0 dX11_farOf_19 rfl rfl ?_
      refine e_getr hV dX11_farOf_20 rfl lx_X rfl ?_
      refine e_iconst (w := (nI 3)) dX11_farOf_23 (by decide) ?_
      refine e_iload_n 2 dX11_farOf_24 rfl rfl ?_
      refine e_imul dX11_farOf_25 ?_
      refine e_iload 4 dX11_farOf_26 rfl ?_
      refine e_iadd dX11_farOf_28 ?_
      refine e_iald hV dX11_farOf_29 lx_X_pull hf (fun v4 hf => ?_)
      obtain ⟨r5, hg, hf⟩ := bO_some hf
      refine e_callS (as := [.int r3, .int v4]) (v := (some (.int r5))) (s' := s) dX11_farOf_30 rfl rfl rfl rfl rfl (Nat.le_of_ble_eq_true rfl) (fun Q hQ => tX11_apart (d := d) hV  hg hQ) ?_
      refine e_iadd dX11_farOf_33 ?_
      refine e_istore_n dX11_farOf_34 rfl (by decide) hf (fun v6 hf => ?_)
      refine e_iinc 4 dX11_farOf_35 (by decide) rfl hf (fun v7 hf => ?_)
      refine e_goto 5 dX11_farOf_38 (by decide) ?_
      refine e_pick [2, 3, 4, 1, 0] rfl ?_
      exact ih y1 y2 v6 v7 hf
set_option maxRecDepth 20000 in
theorem tX11_farOf {ρ : mRo} {d : Nat} {P : mPo} {V : mS → List mE} (hV : mView LX V)  {x1 : Int32} {x2 : Int32} {s : mS} {res : Int32} (hf : fX11_farOf x1 x2 s = some res) (hP : P (some (.int res)) (V s)) : mC ρ (d + 2) 182 [.ref qX, .int x1, .int x2] (V s) P := by
  refine ⟨_, rfl, Nat.le_of_ble_eq_true rfl, by decide, ?_⟩
  show mG ρ (mC ρ (d + 1)) 11 5 cX11_farOf (some .int) P 0 [(0, .ref qX), (1, .int x1), (2, .int x2)] [] (V s)
  unfold fX11_farOf at hf
  refine e_iconst (w := (nI 0)) dX11_farOf_0 (by decide) ?_
  refine e_istore_n dX11_farOf_1 rfl (by decide) hf (fun v1 hf => ?_)
  refine e_iconst (w := (nI 0)) dX11_farOf_2 (by decide) ?_
  refine e_istore dX11_farOf_3 (by decide) hf (fun v2 hf => ?_)
  refine e_pick [2, 3, 4, 1, 0] rfl ?_
  exact wX11_farOf_b5 hV hP mFu x1 x2 v1 v2 hf

theorem dX11_far_0 : decode cX11_far 0 = .ok (.aload_n 0, 1) := by decide +kernel
theorem dX11_far_1 : decode cX11_far 1 = .ok (.iload_n 1, 1) := by decide +kernel
theorem dX11_far_2 : decode cX11_far 2 = .ok (.invokevirtual 214, 3) := by decide +kernel
theorem dX11_far_5 : decode cX11_far 5 = .ok (.ifCond .ne 5, 3) := by decide +kernel
theorem dX11_far_8 : decode cX11_far 8 = .ok (.iconst (-1), 1) := by decide +kernel
theorem dX11_far_9 : decode cX11_far 9 = .ok (.ireturn, 1) := by decide +kernel
theorem dX11_far_10 : decode cX11_far 10 = .ok (.aload_n 0, 1) := by decide +kernel
theorem dX11_far_11 : decode cX11_far 11 = .ok (.invokevirtual 217, 3) := by decide +kernel
theorem dX11_far_14 : decode cX11_far 14 = .ok (.aload_n 0, 1) := by decide +kernel
theorem dX11_far_15 : decode cX11_far 15 = .ok (.iload_n 1, 1) := by decide +kernel
theorem dX11_far_16 : decode cX11_far 16 = .ok (.bipush 10, 2) := by decide +kernel
theorem dX11_far_18 : decode cX11_far 18 = .ok (.idiv, 1) := by decide +kernel
theorem dX11_far_19 : decode cX11_far 19 = .ok (.iload_n 1, 1) := by decide +kernel
theorem dX11_far_20 : decode cX11_far 20 = .ok (.bipush 10, 2) := by decide +kernel
theorem dX11_far_22 : decode cX11_far 22 = .ok (.irem, 1) := by decide +kernel
theorem dX11_far_23 : decode cX11_far 23 = .ok (.invokevirtual 240, 3) := by decide +kernel
theorem dX11_far_26 : decode cX11_far 26 = .ok (.ireturn, 1) := by decide +kernel
def fX11_far (x1 : Int32) (s : mS) : Option (Int32 × mS) :=
  bO (fX11_isWm x1 s) fun r1 =>
  if r1 = 0 then
    some ((-1), s)
  else
    bO (fX11_begins s) fun s2 =>
    bO (fX11_farOf (x1 / (nI 10)) (x1 - x1 / (nI 10) * (nI 10)) s2) fun r3 =>
    some (r3, s2)

set_option maxRecDepth 20000 in
theorem tX11_far {ρ : mRo} {d : Nat} {P : mPo} {V : mS → List mE} (hV : mView LX V)  {x1 : Int32} {s : mS} {res : (Int32 × mS)} (hf : fX11_far x1 s = some res) (hP : P (some (.int res.1)) (V res.2)) : mC ρ (d + 4) 183 [.ref qX, .int x1] (V s) P := by
  refine ⟨_, rfl, Nat.le_of_ble_eq_true rfl, by decide, ?_⟩
  show mG ρ (mC ρ (d + 3)) 11 2 cX11_far (some .int) P 0 [(0, .ref qX), (1, .int x1)] [] (V s)
  unfold fX11_far at hf
  refine e_aload_n 0 dX11_far_0 rfl rfl ?_
  refine e_iload_n 1 dX11_far_1 rfl rfl ?_
  obtain ⟨r1, hg, hf⟩ := bO_some hf
  refine e_callV (as := [.int x1]) (v := (some (.int r1))) (s' := s) hV dX11_far_2 (Or.inl rfl) rfl rfl rfl rfl (Nat.le_of_ble_eq_true rfl) lx_X rfl rfl (fun Q hQ => tX11_isWm (d := d) hV  hg hQ) ?_
  refine e_if_ne 10 dX11_far_5 (by decide) hf (fun hf => ?_) (fun hf => ?_)
  · refine e_aload_n 0 dX11_far_10 rfl rfl ?_
    obtain ⟨s2, hg, hf⟩ := bO_some hf
    refine e_callV (as := []) (v := none) (s' := s2) hV dX11_far_11 (Or.inl rfl) rfl rfl rfl rfl (Nat.le_of_ble_eq_true rfl) lx_X rfl rfl (fun Q hQ => tX11_begins (d := (d + 2)) hV  hg hQ) ?_
    refine e_aload_n 0 dX11_far_14 rfl rfl ?_
    refine e_iload_n 1 dX11_far_15 rfl rfl ?_
    refine e_bipush (w := (nI 10)) dX11_far_16 (by decide) ?_
    refine e_idiv dX11_far_18 (by decide) ?_
    refine e_iload_n 1 dX11_far_19 rfl rfl ?_
    refine e_bipush (w := (nI 10)) dX11_far_20 (by decide) ?_
    refine e_irem dX11_far_22 (by decide) ?_
    obtain ⟨r3, hg, hf⟩ := bO_some hf
    refine e_callV (as := [.int (x1 / (nI 10)), .int (x1 - x1 / (nI 10) * (nI 10))]) (v := (some (.int r3))) (s' := s2) hV dX11_far_23 (Or.inl rfl) rfl rfl rfl rfl (Nat.le_of_ble_eq_true rfl) lx_X rfl rfl (fun Q hQ => tX11_farOf (d := (d + 1)) hV  hg hQ) ?_
    obtain rfl := Option.some.inj hf
    exact e_iret dX11_far_26 trivial hP
  · refine e_iconst (w := (-1)) dX11_far_8 (by decide) ?_
    obtain rfl := Option.some.inj hf
    exact e_iret dX11_far_9 trivial hP

theorem dX11_nearest_0 : decode cX11_nearest 0 = .ok (.iload_n 2, 1) := by decide +kernel
theorem dX11_nearest_1 : decode cX11_nearest 1 = .ok (.ifCond .ne 15, 3) := by decide +kernel
theorem dX11_nearest_4 : decode cX11_nearest 4 = .ok (.aload_n 0, 1) := by decide +kernel
theorem dX11_nearest_5 : decode cX11_nearest 5 = .ok (.iload_n 1, 1) := by decide +kernel
theorem dX11_nearest_6 : decode cX11_nearest 6 = .ok (.i2l, 1) := by decide +kernel
theorem dX11_nearest_7 : decode cX11_nearest 7 = .ok (.invokevirtual 100, 3) := by decide +kernel
theorem dX11_nearest_10 : decode cX11_nearest 10 = .ok (.ifCond .ne 22, 3) := by decide +kernel
theorem dX11_nearest_13 : decode cX11_nearest 13 = .ok (.goto 17, 3) := by decide +kernel
theorem dX11_nearest_16 : decode cX11_nearest 16 = .ok (.iload_n 2, 1) := by decide +kernel
theorem dX11_nearest_17 : decode cX11_nearest 17 = .ok (.iconst 1, 1) := by decide +kernel
theorem dX11_nearest_18 : decode cX11_nearest 18 = .ok (.if_icmp .ne 12, 3) := by decide +kernel
theorem dX11_nearest_21 : decode cX11_nearest 21 = .ok (.aload_n 0, 1) := by decide +kernel
theorem dX11_nearest_22 : decode cX11_nearest 22 = .ok (.iload_n 1, 1) := by decide +kernel
theorem dX11_nearest_23 : decode cX11_nearest 23 = .ok (.i2l, 1) := by decide +kernel
theorem dX11_nearest_24 : decode cX11_nearest 24 = .ok (.invokevirtual 104, 3) := by decide +kernel
theorem dX11_nearest_27 : decode cX11_nearest 27 = .ok (.ifCond .ne 5, 3) := by decide +kernel
theorem dX11_nearest_30 : decode cX11_nearest 30 = .ok (.iconst (-1), 1) := by decide +kernel
theorem dX11_nearest_31 : decode cX11_nearest 31 = .ok (.ireturn, 1) := by decide +kernel
theorem dX11_nearest_32 : decode cX11_nearest 32 = .ok (.aload_n 0, 1) := by decide +kernel
theorem dX11_nearest_33 : decode cX11_nearest 33 = .ok (.invokevirtual 217, 3) := by decide +kernel
theorem dX11_nearest_36 : decode cX11_nearest 36 = .ok (.bipush (-2), 2) := by decide +kernel
theorem dX11_nearest_38 : decode cX11_nearest 38 = .ok (.istore_n 3, 1) := by decide +kernel
theorem dX11_nearest_39 : decode cX11_nearest 39 = .ok (.iconst 0, 1) := by decide +kernel
theorem dX11_nearest_40 : decode cX11_nearest 40 = .ok (.istore 4, 2) := by decide +kernel
theorem dX11_nearest_42 : decode cX11_nearest 42 = .ok (.iconst 0, 1) := by decide +kernel
theorem dX11_nearest_43 : decode cX11_nearest 43 = .ok (.istore 5, 2) := by decide +kernel
theorem dX11_nearest_45 : decode cX11_nearest 45 = .ok (.iload 5, 2) := by decide +kernel
theorem dX11_nearest_47 : decode cX11_nearest 47 = .ok (.iload_n 2, 1) := by decide +kernel
theorem dX11_nearest_48 : decode cX11_nearest 48 = .ok (.ifCond .ne 10, 3) := by decide +kernel
theorem dX11_nearest_51 : decode cX11_nearest 51 = .ok (.aload_n 0, 1) := by decide +kernel
theorem dX11_nearest_52 : decode cX11_nearest 52 = .ok (.getfield 90, 3) := by decide +kernel
theorem dX11_nearest_55 : decode cX11_nearest 55 = .ok (.goto 7, 3) := by decide +kernel
theorem dX11_nearest_58 : decode cX11_nearest 58 = .ok (.aload_n 0, 1) := by decide +kernel
theorem dX11_nearest_59 : decode cX11_nearest 59 = .ok (.getfield 97, 3) := by decide +kernel
theorem dX11_nearest_62 : decode cX11_nearest 62 = .ok (.if_icmp .ge 50, 3) := by decide +kernel
theorem dX11_nearest_65 : decode cX11_nearest 65 = .ok (.iload_n 2, 1) := by decide +kernel
theorem dX11_nearest_66 : decode cX11_nearest 66 = .ok (.ifCond .ne 13, 3) := by decide +kernel
theorem dX11_nearest_69 : decode cX11_nearest 69 = .ok (.aload_n 0, 1) := by decide +kernel
theorem dX11_nearest_70 : decode cX11_nearest 70 = .ok (.iload_n 1, 1) := by decide +kernel
theorem dX11_nearest_71 : decode cX11_nearest 71 = .ok (.iload 5, 2) := by decide +kernel
theorem dX11_nearest_73 : decode cX11_nearest 73 = .ok (.invokevirtual 240, 3) := by decide +kernel
theorem dX11_nearest_76 : decode cX11_nearest 76 = .ok (.goto 10, 3) := by decide +kernel
theorem dX11_nearest_79 : decode cX11_nearest 79 = .ok (.aload_n 0, 1) := by decide +kernel
theorem dX11_nearest_80 : decode cX11_nearest 80 = .ok (.iload 5, 2) := by decide +kernel
theorem dX11_nearest_82 : decode cX11_nearest 82 = .ok (.iload_n 1, 1) := by decide +kernel
theorem dX11_nearest_83 : decode cX11_nearest 83 = .ok (.invokevirtual 240, 3) := by decide +kernel
theorem dX11_nearest_86 : decode cX11_nearest 86 = .ok (.istore 6, 2) := by decide +kernel
theorem dX11_nearest_88 : decode cX11_nearest 88 = .ok (.iload_n 3, 1) := by decide +kernel
theorem dX11_nearest_89 : decode cX11_nearest 89 = .ok (.ifCond .lt 10, 3) := by decide +kernel
theorem dX11_nearest_92 : decode cX11_nearest 92 = .ok (.iload 6, 2) := by decide +kernel
theorem dX11_nearest_94 : decode cX11_nearest 94 = .ok (.iload 4, 2) := by decide +kernel
theorem dX11_nearest_96 : decode cX11_nearest 96 = .ok (.if_icmp .ge 10, 3) := by decide +kernel
theorem dX11_nearest_99 : decode cX11_nearest 99 = .ok (.iload 5, 2) := by decide +kernel
theorem dX11_nearest_101 : decode cX11_nearest 101 = .ok (.istore_n 3, 1) := by decide +kernel
theorem dX11_nearest_102 : decode cX11_nearest 102 = .ok (.iload 6, 2) := by decide +kernel
theorem dX11_nearest_104 : decode cX11_nearest 104 = .ok (.istore 4, 2) := by decide +kernel
theorem dX11_nearest_106 : decode cX11_nearest 106 = .ok (.iinc 5 1, 3) := by decide +kernel
theorem dX11_nearest_109 : decode cX11_nearest 109 = .ok (.goto (-64), 3) := by decide +kernel
theorem dX11_nearest_112 : decode cX11_nearest 112 = .ok (.iload_n 3, 1) := by decide +kernel
theorem dX11_nearest_113 : decode cX11_nearest 113 = .ok (.ireturn, 1) := by decide +kernel
def fX11_nearest_b106 (K45 : Int32 → Int32 → Int32 → Int32 → Int32 → mS → Option (Int32 × mS)) (y1 : Int32) (y2 : Int32) (y3 : Int32) (y4 : Int32) (y5 : Int32) (s : mS) : Option (Int32 × mS) :=
  bnd (y5 + (nI 1)) fun v10 =>
  K45 y1 y2 y3 y4 v10 s

def fX11_nearest_b99 (K45 : Int32 → Int32 → Int32 → Int32 → Int32 → mS → Option (Int32 × mS)) (y1 : Int32) (y2 : Int32) (y5 : Int32) (y6 : Int32) (s : mS) : Option (Int32 × mS) :=
  bnd y5 fun v8 =>
  bnd y6 fun v9 =>
  fX11_nearest_b106 K45 y1 y2 v8 v9 y5 s

def fX11_nearest_b86 (K45 : Int32 → Int32 → Int32 → Int32 → Int32 → mS → Option (Int32 × mS)) (y1 : Int32) (y2 : Int32) (y3 : Int32) (y4 : Int32) (y5 : Int32) (z0 : Int32) (s : mS) : Option (Int32 × mS) :=
  bnd z0 fun v7 =>
  if y3 < 0 then
    fX11_nearest_b99 K45 y1 y2 y5 v7 s
  else
    if y4 ≤ v7 then
      fX11_nearest_b106 K45 y1 y2 y3 y4 y5 s
    else
      fX11_nearest_b99 K45 y1 y2 y5 v7 s

def fX11_nearest_b62 (K45 : Int32 → Int32 → Int32 → Int32 → Int32 → mS → Option (Int32 × mS)) (y1 : Int32) (y2 : Int32) (y3 : Int32) (y4 : Int32) (y5 : Int32) (z0 : Int32) (z1 : Int32) (s : mS) : Option (Int32 × mS) :=
  if z0 ≤ z1 then
    some (y3, s)
  else
    if y2 = 0 then
      bO (fX11_farOf y1 y5 s) fun r11 =>
      fX11_nearest_b86 K45 y1 y2 y3 y4 y5 r11 s
    else
      bO (fX11_farOf y5 y1 s) fun r6 =>
      fX11_nearest_b86 K45 y1 y2 y3 y4 y5 r6 s

def fX11_nearest_b45 : Nat → Int32 → Int32 → Int32 → Int32 → Int32 → mS → Option (Int32 × mS)
  | 0, _, _, _, _, _, _ => none
  | k + 1, y1, y2, y3, y4, y5, s =>
    if y2 = 0 then
      fX11_nearest_b62 (fun u0 u1 u2 u3 u4 u5 => fX11_nearest_b45 k u0 u1 u2 u3 u4 u5) y1 y2 y3 y4 y5 (gI s iX_machines) y5 s
    else
      fX11_nearest_b62 (fun u0 u1 u2 u3 u4 u5 => fX11_nearest_b45 k u0 u1 u2 u3 u4 u5) y1 y2 y3 y4 y5 (gI s iX_writers) y5 s

def fX11_nearest_b32 (y1 : Int32) (y2 : Int32) (s : mS) : Option (Int32 × mS) :=
  bO (fX11_begins s) fun s2 =>
  bnd (-2) fun v3 =>
  bnd (nI 0) fun v4 =>
  bnd (nI 0) fun v5 =>
  fX11_nearest_b45 mFu y1 y2 v3 v4 v5 s2

def fX11_nearest (x1 : Int32) (x2 : Int32) (s : mS) : Option (Int32 × mS) :=
  if x2 = 0 then
    bO (fX11_isWriter (Int32.toInt64 x1) s) fun r12 =>
    if r12 = 0 then
      some ((-1), s)
    else
      fX11_nearest_b32 x1 x2 s
  else
    if x2 = (nI 1) then
      bO (fX11_isMachine (Int32.toInt64 x1) s) fun r1 =>
      if r1 = 0 then
        some ((-1), s)
      else
        fX11_nearest_b32 x1 x2 s
    else
      some ((-1), s)

set_option maxRecDepth 20000 in
theorem wX11_nearest_b106 {ρ : mRo} {d : Nat} {P : mPo} {V : mS → List mE} (hV : mView LX V)  {res : (Int32 × mS)} {K45 : Int32 → Int32 → Int32 → Int32 → Int32 → mS → Option (Int32 × mS)} (hK45 : ∀ (y1 : Int32) (y2 : Int32) (y3 : Int32) (y4 : Int32) (y5 : Int32) (s : mS), K45 y1 y2 y3 y4 y5 s = some res → mG ρ (mC ρ (d + 2)) 11 7 cX11_nearest (some .int) P 45 [(0, .ref qX), (1, .int y1), (2, .int y2), (3, .int y3), (4, .int y4), (5, .int y5)] [] (V s)) (hP : P (some (.int res.1)) (V res.2)) (y1 : Int32) (y2 : Int32) (y3 : Int32) (y4 : Int32) (y5 : Int32) (s : mS) (hf : fX11_nearest_b106 K45 y1 y2 y3 y4 y5 s = some res) : mG ρ (mC ρ (d + 2)) 11 7 cX11_nearest (some .int) P 106 [(0, .ref qX), (1, .int y1), (2, .int y2), (3, .int y3), (4, .int y4), (5, .int y5)] [] (V s) := by
  unfold fX11_nearest_b106 at hf
  refine e_iinc 5 dX11_nearest_106 (by decide) rfl hf (fun v10 hf => ?_)
  refine e_goto 45 dX11_nearest_109 (by decide) ?_
  refine e_pick [1, 2, 3, 4, 5, 0] rfl ?_
  exact hK45 y1 y2 y3 y4 v10 s hf
set_option maxRecDepth 20000 in
theorem wX11_nearest_b99 {ρ : mRo} {d : Nat} {P : mPo} {V : mS → List mE} (hV : mView LX V)  {res : (Int32 × mS)} {K45 : Int32 → Int32 → Int32 → Int32 → Int32 → mS → Option (Int32 × mS)} (hK45 : ∀ (y1 : Int32) (y2 : Int32) (y3 : Int32) (y4 : Int32) (y5 : Int32) (s : mS), K45 y1 y2 y3 y4 y5 s = some res → mG ρ (mC ρ (d + 2)) 11 7 cX11_nearest (some .int) P 45 [(0, .ref qX), (1, .int y1), (2, .int y2), (3, .int y3), (4, .int y4), (5, .int y5)] [] (V s)) (hP : P (some (.int res.1)) (V res.2)) (y1 : Int32) (y2 : Int32) (y5 : Int32) (y6 : Int32) (s : mS) (hf : fX11_nearest_b99 K45 y1 y2 y5 y6 s = some res) : mG ρ (mC ρ (d + 2)) 11 7 cX11_nearest (some .int) P 99 [(0, .ref qX), (1, .int y1), (2, .int y2), (5, .int y5), (6, .int y6)] [] (V s) := by
  unfold fX11_nearest_b99 at hf
  refine e_iload 3 dX11_nearest_99 rfl ?_
  refine e_istore_n dX11_nearest_101 rfl (by decide) hf (fun v8 hf => ?_)
  refine e_iload 5 dX11_nearest_102 rfl ?_
  refine e_istore dX11_nearest_104 (by decide) hf (fun v9 hf => ?_)
  refine e_pick [2, 3, 4, 1, 0, 5] rfl ?_
  exact wX11_nearest_b106 hV hK45 hP y1 y2 v8 v9 y5 s hf
set_option maxRecDepth 20000 in
theorem wX11_nearest_b86 {ρ : mRo} {d : Nat} {P : mPo} {V : mS → List mE} (hV : mView LX V)  {res : (Int32 × mS)} {K45 : Int32 → Int32 → Int32 → Int32 → Int32 → mS → Option (Int32 × mS)} (hK45 : ∀ (y1 : Int32) (y2 : Int32) (y3 : Int32) (y4 : Int32) (y5 : Int32) (s : mS), K45 y1 y2 y3 y4 y5 s = some res → mG ρ (mC ρ (d + 2)) 11 7 cX11_nearest (some .int) P 45 [(0, .ref qX), (1, .int y1), (2, .int y2), (3, .int y3), (4, .int y4), (5, .int y5)] [] (V s)) (hP : P (some (.int res.1)) (V res.2)) (y1 : Int32) (y2 : Int32) (y3 : Int32) (y4 : Int32) (y5 : Int32) (z0 : Int32) (s : mS) (hf : fX11_nearest_b86 K45 y1 y2 y3 y4 y5 z0 s = some res) : mG ρ (mC ρ (d + 2)) 11 7 cX11_nearest (some .int) P 86 [(0, .ref qX), (1, .int y1), (2, .int y2), (3, .int y3), (4, .int y4), (5, .int y5)] [.int z0] (V s) := by
  unfold fX11_nearest_b86 at hf
  refine e_istore dX11_nearest_86 (by decide) hf (fun v7 hf => ?_)
  refine e_iload_n 4 dX11_nearest_88 rfl rfl ?_
  refine e_if_lt 99 dX11_nearest_89 (by decide) hf (fun hf => ?_) (fun hf => ?_)
  · refine e_pick [1, 2, 3, 6, 0] rfl ?_
    exact wX11_nearest_b99 hV hK45 hP y1 y2 y5 v7 s hf
  · refine e_iload 0 dX11_nearest_92 rfl ?_
    refine e_iload 5 dX11_nearest_94 rfl ?_
    refine e_icmp_ge 106 dX11_nearest_96 (by decide) hf (fun hf => ?_) (fun hf => ?_)
    · refine e_pick [1, 2, 3, 4, 5, 6] rfl ?_
      exact wX11_nearest_b106 hV hK45 hP y1 y2 y3 y4 y5 s hf
    · refine e_pick [1, 2, 3, 6, 0] rfl ?_
      exact wX11_nearest_b99 hV hK45 hP y1 y2 y5 v7 s hf
set_option maxRecDepth 20000 in
theorem wX11_nearest_b62 {ρ : mRo} {d : Nat} {P : mPo} {V : mS → List mE} (hV : mView LX V)  {res : (Int32 × mS)} {K45 : Int32 → Int32 → Int32 → Int32 → Int32 → mS → Option (Int32 × mS)} (hK45 : ∀ (y1 : Int32) (y2 : Int32) (y3 : Int32) (y4 : Int32) (y5 : Int32) (s : mS), K45 y1 y2 y3 y4 y5 s = some res → mG ρ (mC ρ (d + 2)) 11 7 cX11_nearest (some .int) P 45 [(0, .ref qX), (1, .int y1), (2, .int y2), (3, .int y3), (4, .int y4), (5, .int y5)] [] (V s)) (hP : P (some (.int res.1)) (V res.2)) (y1 : Int32) (y2 : Int32) (y3 : Int32) (y4 : Int32) (y5 : Int32) (z0 : Int32) (z1 : Int32) (s : mS) (hf : fX11_nearest_b62 K45 y1 y2 y3 y4 y5 z0 z1 s = some res) : mG ρ (mC ρ (d + 2)) 11 7 cX11_nearest (some .int) P 62 [(0, .ref qX), (1, .int y1), (2, .int y2), (3, .int y3), (4, .int y4), (5, .int y5)] [.int z0, .int z1] (V s) := by
  unfold fX11_nearest_b62 at hf
  refine e_icmp_ge 112 dX11_nearest_62 (by decide) hf (fun hf => ?_) (fun hf => ?_)
  · refine e_iload_n 3 dX11_nearest_112 rfl rfl ?_
    obtain rfl := Option.some.inj hf
    exact e_iret dX11_nearest_113 trivial hP
  · refine e_iload_n 2 dX11_nearest_65 rfl rfl ?_
    refine e_if_ne 79 dX11_nearest_66 (by decide) hf (fun hf => ?_) (fun hf => ?_)
    · refine e_aload_n 0 dX11_nearest_79 rfl rfl ?_
      refine e_iload 5 dX11_nearest_80 rfl ?_
      refine e_iload_n 1 dX11_nearest_82 rfl rfl ?_
      obtain ⟨r6, hg, hf⟩ := bO_some hf
      refine e_callV (as := [.int y5, .int y1]) (v := (some (.int r6))) (s' := s) hV dX11_nearest_83 (Or.inl rfl) rfl rfl rfl rfl (Nat.le_of_ble_eq_true rfl) lx_X rfl rfl (fun Q hQ => tX11_farOf (d := d) hV  hg hQ) ?_
      refine e_pick [0, 1, 2, 3, 4, 5] rfl ?_
      exact wX11_nearest_b86 hV hK45 hP y1 y2 y3 y4 y5 r6 s hf
    · refine e_aload_n 0 dX11_nearest_69 rfl rfl ?_
      refine e_iload_n 1 dX11_nearest_70 rfl rfl ?_
      refine e_iload 5 dX11_nearest_71 rfl ?_
      obtain ⟨r11, hg, hf⟩ := bO_some hf
      refine e_callV (as := [.int y1, .int y5]) (v := (some (.int r11))) (s' := s) hV dX11_nearest_73 (Or.inl rfl) rfl rfl rfl rfl (Nat.le_of_ble_eq_true rfl) lx_X rfl rfl (fun Q hQ => tX11_farOf (d := d) hV  hg hQ) ?_
      refine e_goto 86 dX11_nearest_76 (by decide) ?_
      refine e_pick [0, 1, 2, 3, 4, 5] rfl ?_
      exact wX11_nearest_b86 hV hK45 hP y1 y2 y3 y4 y5 r11 s hf
set_option maxRecDepth 20000 in
theorem wX11_nearest_b45 {ρ : mRo} {d : Nat} {P : mPo} {V : mS → List mE} (hV : mView LX V)  {res : (Int32 × mS)} (hP : P (some (.int res.1)) (V res.2)) : ∀ (k : Nat) (y1 : Int32) (y2 : Int32) (y3 : Int32) (y4 : Int32) (y5 : Int32) (s : mS), fX11_nearest_b45 k y1 y2 y3 y4 y5 s = some res → mG ρ (mC ρ (d + 2)) 11 7 cX11_nearest (some .int) P 45 [(0, .ref qX), (1, .int y1), (2, .int y2), (3, .int y3), (4, .int y4), (5, .int y5)] [] (V s) := by
  intro k
  induction k with
  | zero => intro y1 y2 y3 y4 y5 s hf; rw [fX11_nearest_b45] at hf; cases hf
  | succ k ih =>
    intro y1 y2 y3 y4 y5 s hf
    rw [fX11_nearest_b45] at hf
    refine e_iload 5 dX11_nearest_45 rfl ?_
    refine e_iload_n 2 dX11_nearest_47 rfl rfl ?_
    refine e_if_ne 58 dX11_nearest_48 (by decide) hf (fun hf => ?_) (fun hf => ?_)
    · refine e_aload_n 0 dX11_nearest_58 rfl rfl ?_
      refine e_geti hV dX11_nearest_59 rfl lx_X rfl ?_
      refine e_pick [0, 1, 2, 3, 4, 5] rfl ?_
      exact wX11_nearest_b62 hV ih hP y1 y2 y3 y4 y5 (gI s iX_writers) y5 s hf
    · refine e_aload_n 0 dX11_nearest_51 rfl rfl ?_
      refine e_geti hV dX11_nearest_52 rfl lx_X rfl ?_
      refine e_goto 62 dX11_nearest_55 (by decide) ?_
      refine e_pick [0, 1, 2, 3, 4, 5] rfl ?_
      exact wX11_nearest_b62 hV ih hP y1 y2 y3 y4 y5 (gI s iX_machines) y5 s hf
set_option maxRecDepth 20000 in
theorem wX11_nearest_b32 {ρ : mRo} {d : Nat} {P : mPo} {V : mS → List mE} (hV : mView LX V)  {res : (Int32 × mS)} (hP : P (some (.int res.1)) (V res.2)) (y1 : Int32) (y2 : Int32) (s : mS) (hf : fX11_nearest_b32 y1 y2 s = some res) : mG ρ (mC ρ (d + 2)) 11 7 cX11_nearest (some .int) P 32 [(0, .ref qX), (1, .int y1), (2, .int y2)] [] (V s) := by
  unfold fX11_nearest_b32 at hf
  refine e_aload_n 0 dX11_nearest_32 rfl rfl ?_
  obtain ⟨s2, hg, hf⟩ := bO_some hf
  refine e_callV (as := []) (v := none) (s' := s2) hV dX11_nearest_33 (Or.inl rfl) rfl rfl rfl rfl (Nat.le_of_ble_eq_true rfl) lx_X rfl rfl (fun Q hQ => tX11_begins (d := (d + 1)) hV  hg hQ) ?_
  refine e_bipush (w := (-2)) dX11_nearest_36 (by decide) ?_
  refine e_istore_n dX11_nearest_38 rfl (by decide) hf (fun v3 hf => ?_)
  refine e_iconst (w := (nI 0)) dX11_nearest_39 (by decide) ?_
  refine e_istore dX11_nearest_40 (by decide) hf (fun v4 hf => ?_)
  refine e_iconst (w := (nI 0)) dX11_nearest_42 (by decide) ?_
  refine e_istore dX11_nearest_43 (by decide) hf (fun v5 hf => ?_)
  refine e_pick [3, 4, 5, 2, 1, 0] rfl ?_
  exact wX11_nearest_b45 hV hP mFu y1 y2 v3 v4 v5 s2 hf
set_option maxRecDepth 20000 in
theorem tX11_nearest {ρ : mRo} {d : Nat} {P : mPo} {V : mS → List mE} (hV : mView LX V)  {x1 : Int32} {x2 : Int32} {s : mS} {res : (Int32 × mS)} (hf : fX11_nearest x1 x2 s = some res) (hP : P (some (.int res.1)) (V res.2)) : mC ρ (d + 3) 184 [.ref qX, .int x1, .int x2] (V s) P := by
  refine ⟨_, rfl, Nat.le_of_ble_eq_true rfl, by decide, ?_⟩
  show mG ρ (mC ρ (d + 2)) 11 7 cX11_nearest (some .int) P 0 [(0, .ref qX), (1, .int x1), (2, .int x2)] [] (V s)
  unfold fX11_nearest at hf
  refine e_iload_n 2 dX11_nearest_0 rfl rfl ?_
  refine e_if_ne 16 dX11_nearest_1 (by decide) hf (fun hf => ?_) (fun hf => ?_)
  · refine e_iload_n 2 dX11_nearest_16 rfl rfl ?_
    refine e_iconst (w := (nI 1)) dX11_nearest_17 (by decide) ?_
    refine e_icmp_ne 30 dX11_nearest_18 (by decide) hf (fun hf => ?_) (fun hf => ?_)
    · refine e_iconst (w := (-1)) dX11_nearest_30 (by decide) ?_
      obtain rfl := Option.some.inj hf
      exact e_iret dX11_nearest_31 trivial hP
    · refine e_aload_n 0 dX11_nearest_21 rfl rfl ?_
      refine e_iload_n 1 dX11_nearest_22 rfl rfl ?_
      refine e_i2l dX11_nearest_23 ?_
      obtain ⟨r1, hg, hf⟩ := bO_some hf
      refine e_callV (as := [.long (Int32.toInt64 x1)]) (v := (some (.int r1))) (s' := s) hV dX11_nearest_24 (Or.inl rfl) rfl rfl rfl rfl (Nat.le_of_ble_eq_true rfl) lx_X rfl rfl (fun Q hQ => tX11_isMachine (d := d) hV  hg hQ) ?_
      refine e_if_ne 32 dX11_nearest_27 (by decide) hf (fun hf => ?_) (fun hf => ?_)
      · refine e_pick [0, 1, 2] rfl ?_
        exact wX11_nearest_b32 hV hP x1 x2 s hf
      · refine e_iconst (w := (-1)) dX11_nearest_30 (by decide) ?_
        obtain rfl := Option.some.inj hf
        exact e_iret dX11_nearest_31 trivial hP
  · refine e_aload_n 0 dX11_nearest_4 rfl rfl ?_
    refine e_iload_n 1 dX11_nearest_5 rfl rfl ?_
    refine e_i2l dX11_nearest_6 ?_
    obtain ⟨r12, hg, hf⟩ := bO_some hf
    refine e_callV (as := [.long (Int32.toInt64 x1)]) (v := (some (.int r12))) (s' := s) hV dX11_nearest_7 (Or.inl rfl) rfl rfl rfl rfl (Nat.le_of_ble_eq_true rfl) lx_X rfl rfl (fun Q hQ => tX11_isWriter (d := d) hV  hg hQ) ?_
    refine e_if_ne 32 dX11_nearest_10 (by decide) hf (fun hf => ?_) (fun hf => ?_)
    · refine e_pick [0, 1, 2] rfl ?_
      exact wX11_nearest_b32 hV hP x1 x2 s hf
    · refine e_goto 30 dX11_nearest_13 (by decide) ?_
      refine e_iconst (w := (-1)) dX11_nearest_30 (by decide) ?_
      obtain rfl := Option.some.inj hf
      exact e_iret dX11_nearest_31 trivial hP

theorem dX11_given_0 : decode cX11_given 0 = .ok (.iload_n 1, 1) := by decide +kernel
theorem dX11_given_1 : decode cX11_given 1 = .ok (.i2l, 1) := by decide +kernel
theorem dX11_given_2 : decode cX11_given 2 = .ok (.ldc2_w 243, 3) := by decide +kernel
theorem dX11_given_5 : decode cX11_given 5 = .ok (.aload_n 0, 1) := by decide +kernel
theorem dX11_given_6 : decode cX11_given 6 = .ok (.getfield 97, 3) := by decide +kernel
theorem dX11_given_9 : decode cX11_given 9 = .ok (.iconst 1, 1) := by decide +kernel
theorem dX11_given_10 : decode cX11_given 10 = .ok (.isub, 1) := by decide +kernel
theorem dX11_given_11 : decode cX11_given 11 = .ok (.i2l, 1) := by decide +kernel
theorem dX11_given_12 : decode cX11_given 12 = .ok (.invokestatic 93, 3) := by decide +kernel
theorem dX11_given_15 : decode cX11_given 15 = .ok (.ifCond .ne 5, 3) := by decide +kernel
theorem dX11_given_18 : decode cX11_given 18 = .ok (.iconst (-1), 1) := by decide +kernel
theorem dX11_given_19 : decode cX11_given 19 = .ok (.ireturn, 1) := by decide +kernel
theorem dX11_given_20 : decode cX11_given 20 = .ok (.aload_n 0, 1) := by decide +kernel
theorem dX11_given_21 : decode cX11_given 21 = .ok (.getfield 97, 3) := by decide +kernel
theorem dX11_given_24 : decode cX11_given 24 = .ok (.aload_n 0, 1) := by decide +kernel
theorem dX11_given_25 : decode cX11_given 25 = .ok (.getfield 90, 3) := by decide +kernel
theorem dX11_given_28 : decode cX11_given 28 = .ok (.if_icmp .le 6, 3) := by decide +kernel
theorem dX11_given_31 : decode cX11_given 31 = .ok (.bipush (-5), 2) := by decide +kernel
theorem dX11_given_33 : decode cX11_given 33 = .ok (.ireturn, 1) := by decide +kernel
theorem dX11_given_34 : decode cX11_given 34 = .ok (.aload_n 0, 1) := by decide +kernel
theorem dX11_given_35 : decode cX11_given 35 = .ok (.invokevirtual 217, 3) := by decide +kernel
theorem dX11_given_38 : decode cX11_given 38 = .ok (.aload_n 0, 1) := by decide +kernel
theorem dX11_given_39 : decode cX11_given 39 = .ok (.getfield 97, 3) := by decide +kernel
theorem dX11_given_42 : decode cX11_given 42 = .ok (.istore_n 2, 1) := by decide +kernel
theorem dX11_given_43 : decode cX11_given 43 = .ok (.iload_n 2, 1) := by decide +kernel
theorem dX11_given_44 : decode cX11_given 44 = .ok (.ifCond .lt 173, 3) := by decide +kernel
theorem dX11_given_47 : decode cX11_given 47 = .ok (.iconst 0, 1) := by decide +kernel
theorem dX11_given_48 : decode cX11_given 48 = .ok (.istore_n 3, 1) := by decide +kernel
theorem dX11_given_49 : decode cX11_given 49 = .ok (.iload_n 3, 1) := by decide +kernel
theorem dX11_given_50 : decode cX11_given 50 = .ok (.iconst 1, 1) := by decide +kernel
theorem dX11_given_51 : decode cX11_given 51 = .ok (.aload_n 0, 1) := by decide +kernel
theorem dX11_given_52 : decode cX11_given 52 = .ok (.getfield 90, 3) := by decide +kernel
theorem dX11_given_55 : decode cX11_given 55 = .ok (.ishl, 1) := by decide +kernel
theorem dX11_given_56 : decode cX11_given 56 = .ok (.if_icmp .ge 155, 3) := by decide +kernel
theorem dX11_given_59 : decode cX11_given 59 = .ok (.iload_n 2, 1) := by decide +kernel
theorem dX11_given_60 : decode cX11_given 60 = .ok (.aload_n 0, 1) := by decide +kernel
theorem dX11_given_61 : decode cX11_given 61 = .ok (.getfield 97, 3) := by decide +kernel
theorem dX11_given_64 : decode cX11_given 64 = .ok (.if_icmp .ne 7, 3) := by decide +kernel
theorem dX11_given_67 : decode cX11_given 67 = .ok (.iconst 0, 1) := by decide +kernel
theorem dX11_given_68 : decode cX11_given 68 = .ok (.goto 4, 3) := by decide +kernel
theorem dX11_given_71 : decode cX11_given 71 = .ok (.iconst (-1), 1) := by decide +kernel
theorem dX11_given_72 : decode cX11_given 72 = .ok (.istore 4, 2) := by decide +kernel
theorem dX11_given_74 : decode cX11_given 74 = .ok (.iconst 0, 1) := by decide +kernel
theorem dX11_given_75 : decode cX11_given 75 = .ok (.istore 5, 2) := by decide +kernel
theorem dX11_given_77 : decode cX11_given 77 = .ok (.iload 5, 2) := by decide +kernel
theorem dX11_given_79 : decode cX11_given 79 = .ok (.aload_n 0, 1) := by decide +kernel
theorem dX11_given_80 : decode cX11_given 80 = .ok (.getfield 90, 3) := by decide +kernel
theorem dX11_given_83 : decode cX11_given 83 = .ok (.if_icmp .ge 108, 3) := by decide +kernel
theorem dX11_given_86 : decode cX11_given 86 = .ok (.iload_n 2, 1) := by decide +kernel
theorem dX11_given_87 : decode cX11_given 87 = .ok (.aload_n 0, 1) := by decide +kernel
theorem dX11_given_88 : decode cX11_given 88 = .ok (.getfield 97, 3) := by decide +kernel
theorem dX11_given_91 : decode cX11_given 91 = .ok (.if_icmp .ge 100, 3) := by decide +kernel
theorem dX11_given_94 : decode cX11_given 94 = .ok (.iload_n 3, 1) := by decide +kernel
theorem dX11_given_95 : decode cX11_given 95 = .ok (.iload 5, 2) := by decide +kernel
theorem dX11_given_97 : decode cX11_given 97 = .ok (.ishr, 1) := by decide +kernel
theorem dX11_given_98 : decode cX11_given 98 = .ok (.iconst 1, 1) := by decide +kernel
theorem dX11_given_99 : decode cX11_given 99 = .ok (.iand, 1) := by decide +kernel
theorem dX11_given_100 : decode cX11_given 100 = .ok (.iconst 1, 1) := by decide +kernel
theorem dX11_given_101 : decode cX11_given 101 = .ok (.if_icmp .ne 7, 3) := by decide +kernel
theorem dX11_given_104 : decode cX11_given 104 = .ok (.iconst (-1), 1) := by decide +kernel
theorem dX11_given_105 : decode cX11_given 105 = .ok (.goto 22, 3) := by decide +kernel
theorem dX11_given_108 : decode cX11_given 108 = .ok (.aload_n 0, 1) := by decide +kernel
theorem dX11_given_109 : decode cX11_given 109 = .ok (.getfield 40, 3) := by decide +kernel
theorem dX11_given_112 : decode cX11_given 112 = .ok (.sipush 256, 3) := by decide +kernel
theorem dX11_given_115 : decode cX11_given 115 = .ok (.iload_n 2, 1) := by decide +kernel
theorem dX11_given_116 : decode cX11_given 116 = .ok (.iconst 1, 1) := by decide +kernel
theorem dX11_given_117 : decode cX11_given 117 = .ok (.iadd, 1) := by decide +kernel
theorem dX11_given_118 : decode cX11_given 118 = .ok (.imul, 1) := by decide +kernel
theorem dX11_given_119 : decode cX11_given 119 = .ok (.iload_n 3, 1) := by decide +kernel
theorem dX11_given_120 : decode cX11_given 120 = .ok (.iconst 1, 1) := by decide +kernel
theorem dX11_given_121 : decode cX11_given 121 = .ok (.iload 5, 2) := by decide +kernel
theorem dX11_given_123 : decode cX11_given 123 = .ok (.ishl, 1) := by decide +kernel
theorem dX11_given_124 : decode cX11_given 124 = .ok (.ior, 1) := by decide +kernel
theorem dX11_given_125 : decode cX11_given 125 = .ok (.iadd, 1) := by decide +kernel
theorem dX11_given_126 : decode cX11_given 126 = .ok (.iaload, 1) := by decide +kernel
theorem dX11_given_127 : decode cX11_given 127 = .ok (.istore 6, 2) := by decide +kernel
theorem dX11_given_129 : decode cX11_given 129 = .ok (.iload 6, 2) := by decide +kernel
theorem dX11_given_131 : decode cX11_given 131 = .ok (.ifCond .ge 7, 3) := by decide +kernel
theorem dX11_given_134 : decode cX11_given 134 = .ok (.iconst (-1), 1) := by decide +kernel
theorem dX11_given_135 : decode cX11_given 135 = .ok (.goto 13, 3) := by decide +kernel
theorem dX11_given_138 : decode cX11_given 138 = .ok (.iload 6, 2) := by decide +kernel
theorem dX11_given_140 : decode cX11_given 140 = .ok (.aload_n 0, 1) := by decide +kernel
theorem dX11_given_141 : decode cX11_given 141 = .ok (.iload_n 2, 1) := by decide +kernel
theorem dX11_given_142 : decode cX11_given 142 = .ok (.iload 5, 2) := by decide +kernel
theorem dX11_given_144 : decode cX11_given 144 = .ok (.invokevirtual 240, 3) := by decide +kernel
theorem dX11_given_147 : decode cX11_given 147 = .ok (.iadd, 1) := by decide +kernel
theorem dX11_given_148 : decode cX11_given 148 = .ok (.istore 7, 2) := by decide +kernel
theorem dX11_given_150 : decode cX11_given 150 = .ok (.iload 7, 2) := by decide +kernel
theorem dX11_given_152 : decode cX11_given 152 = .ok (.ifCond .lt 33, 3) := by decide +kernel
theorem dX11_given_155 : decode cX11_given 155 = .ok (.iload 4, 2) := by decide +kernel
theorem dX11_given_157 : decode cX11_given 157 = .ok (.ifCond .lt 10, 3) := by decide +kernel
theorem dX11_given_160 : decode cX11_given 160 = .ok (.iload 7, 2) := by decide +kernel
theorem dX11_given_162 : decode cX11_given 162 = .ok (.iload 4, 2) := by decide +kernel
theorem dX11_given_164 : decode cX11_given 164 = .ok (.if_icmp .ge 21, 3) := by decide +kernel
theorem dX11_given_167 : decode cX11_given 167 = .ok (.iload 7, 2) := by decide +kernel
theorem dX11_given_169 : decode cX11_given 169 = .ok (.istore 4, 2) := by decide +kernel
theorem dX11_given_171 : decode cX11_given 171 = .ok (.aload_n 0, 1) := by decide +kernel
theorem dX11_given_172 : decode cX11_given 172 = .ok (.getfield 43, 3) := by decide +kernel
theorem dX11_given_175 : decode cX11_given 175 = .ok (.sipush 256, 3) := by decide +kernel
theorem dX11_given_178 : decode cX11_given 178 = .ok (.iload_n 2, 1) := by decide +kernel
theorem dX11_given_179 : decode cX11_given 179 = .ok (.imul, 1) := by decide +kernel
theorem dX11_given_180 : decode cX11_given 180 = .ok (.iload_n 3, 1) := by decide +kernel
theorem dX11_given_181 : decode cX11_given 181 = .ok (.iadd, 1) := by decide +kernel
theorem dX11_given_182 : decode cX11_given 182 = .ok (.iload 5, 2) := by decide +kernel
theorem dX11_given_184 : decode cX11_given 184 = .ok (.iastore, 1) := by decide +kernel
theorem dX11_given_185 : decode cX11_given 185 = .ok (.iinc 5 1, 3) := by decide +kernel
theorem dX11_given_188 : decode cX11_given 188 = .ok (.goto (-111), 3) := by decide +kernel
theorem dX11_given_191 : decode cX11_given 191 = .ok (.aload_n 0, 1) := by decide +kernel
theorem dX11_given_192 : decode cX11_given 192 = .ok (.getfield 40, 3) := by decide +kernel
theorem dX11_given_195 : decode cX11_given 195 = .ok (.sipush 256, 3) := by decide +kernel
theorem dX11_given_198 : decode cX11_given 198 = .ok (.iload_n 2, 1) := by decide +kernel
theorem dX11_given_199 : decode cX11_given 199 = .ok (.imul, 1) := by decide +kernel
theorem dX11_given_200 : decode cX11_given 200 = .ok (.iload_n 3, 1) := by decide +kernel
theorem dX11_given_201 : decode cX11_given 201 = .ok (.iadd, 1) := by decide +kernel
theorem dX11_given_202 : decode cX11_given 202 = .ok (.iload 4, 2) := by decide +kernel
theorem dX11_given_204 : decode cX11_given 204 = .ok (.iastore, 1) := by decide +kernel
theorem dX11_given_205 : decode cX11_given 205 = .ok (.iinc 3 1, 3) := by decide +kernel
theorem dX11_given_208 : decode cX11_given 208 = .ok (.goto (-159), 3) := by decide +kernel
theorem dX11_given_211 : decode cX11_given 211 = .ok (.iinc 2 (-1), 3) := by decide +kernel
theorem dX11_given_214 : decode cX11_given 214 = .ok (.goto (-171), 3) := by decide +kernel
theorem dX11_given_217 : decode cX11_given 217 = .ok (.iload_n 1, 1) := by decide +kernel
theorem dX11_given_218 : decode cX11_given 218 = .ok (.iconst (-1), 1) := by decide +kernel
theorem dX11_given_219 : decode cX11_given 219 = .ok (.if_icmp .ne 10, 3) := by decide +kernel
theorem dX11_given_222 : decode cX11_given 222 = .ok (.aload_n 0, 1) := by decide +kernel
theorem dX11_given_223 : decode cX11_given 223 = .ok (.getfield 40, 3) := by decide +kernel
theorem dX11_given_226 : decode cX11_given 226 = .ok (.iconst 0, 1) := by decide +kernel
theorem dX11_given_227 : decode cX11_given 227 = .ok (.iaload, 1) := by decide +kernel
theorem dX11_given_228 : decode cX11_given 228 = .ok (.ireturn, 1) := by decide +kernel
theorem dX11_given_229 : decode cX11_given 229 = .ok (.iconst 0, 1) := by decide +kernel
theorem dX11_given_230 : decode cX11_given 230 = .ok (.istore_n 2, 1) := by decide +kernel
theorem dX11_given_231 : decode cX11_given 231 = .ok (.iconst 0, 1) := by decide +kernel
theorem dX11_given_232 : decode cX11_given 232 = .ok (.istore_n 3, 1) := by decide +kernel
theorem dX11_given_233 : decode cX11_given 233 = .ok (.iload_n 3, 1) := by decide +kernel
theorem dX11_given_234 : decode cX11_given 234 = .ok (.iload_n 1, 1) := by decide +kernel
theorem dX11_given_235 : decode cX11_given 235 = .ok (.if_icmp .ge 26, 3) := by decide +kernel
theorem dX11_given_238 : decode cX11_given 238 = .ok (.iload_n 2, 1) := by decide +kernel
theorem dX11_given_239 : decode cX11_given 239 = .ok (.iconst 1, 1) := by decide +kernel
theorem dX11_given_240 : decode cX11_given 240 = .ok (.aload_n 0, 1) := by decide +kernel
theorem dX11_given_241 : decode cX11_given 241 = .ok (.getfield 43, 3) := by decide +kernel
theorem dX11_given_244 : decode cX11_given 244 = .ok (.sipush 256, 3) := by decide +kernel
theorem dX11_given_247 : decode cX11_given 247 = .ok (.iload_n 3, 1) := by decide +kernel
theorem dX11_given_248 : decode cX11_given 248 = .ok (.imul, 1) := by decide +kernel
theorem dX11_given_249 : decode cX11_given 249 = .ok (.iload_n 2, 1) := by decide +kernel
theorem dX11_given_250 : decode cX11_given 250 = .ok (.iadd, 1) := by decide +kernel
theorem dX11_given_251 : decode cX11_given 251 = .ok (.iaload, 1) := by decide +kernel
theorem dX11_given_252 : decode cX11_given 252 = .ok (.ishl, 1) := by decide +kernel
theorem dX11_given_253 : decode cX11_given 253 = .ok (.ior, 1) := by decide +kernel
theorem dX11_given_254 : decode cX11_given 254 = .ok (.istore_n 2, 1) := by decide +kernel
theorem dX11_given_255 : decode cX11_given 255 = .ok (.iinc 3 1, 3) := by decide +kernel
theorem dX11_given_258 : decode cX11_given 258 = .ok (.goto (-25), 3) := by decide +kernel
theorem dX11_given_261 : decode cX11_given 261 = .ok (.aload_n 0, 1) := by decide +kernel
theorem dX11_given_262 : decode cX11_given 262 = .ok (.getfield 43, 3) := by decide +kernel
theorem dX11_given_265 : decode cX11_given 265 = .ok (.sipush 256, 3) := by decide +kernel
theorem dX11_given_268 : decode cX11_given 268 = .ok (.iload_n 1, 1) := by decide +kernel
theorem dX11_given_269 : decode cX11_given 269 = .ok (.imul, 1) := by decide +kernel
theorem dX11_given_270 : decode cX11_given 270 = .ok (.iload_n 2, 1) := by decide +kernel
theorem dX11_given_271 : decode cX11_given 271 = .ok (.iadd, 1) := by decide +kernel
theorem dX11_given_272 : decode cX11_given 272 = .ok (.iaload, 1) := by decide +kernel
theorem dX11_given_273 : decode cX11_given 273 = .ok (.ireturn, 1) := by decide +kernel
def fX11_given_b233 : Nat → Int32 → Int32 → Int32 → mS → Option (Int32 × mS)
  | 0, _, _, _, _ => none
  | k + 1, y1, y2, y3, s =>
    if y1 ≤ y3 then
      ldA s aX_restGets 2304 (((nI 256) * y1) + y2) fun v6 =>
      some (v6, s)
    else
      ldA s aX_restGets 2304 (((nI 256) * y3) + y2) fun v7 =>
      bnd (y2 ||| ((nI 1) <<< (v7 &&& 31))) fun v8 =>
      bnd (y3 + (nI 1)) fun v9 =>
      fX11_given_b233 k y1 v8 v9 s

def fX11_given_b191 (K43 : Int32 → Int32 → mS → Option (Int32 × mS)) (K49 : Int32 → Int32 → Int32 → mS → Option (Int32 × mS)) (y1 : Int32) (y2 : Int32) (y3 : Int32) (y4 : Int32) (s : mS) : Option (Int32 × mS) :=
  stA s aX_restFar 2304 (((nI 256) * y2) + y3) y4 fun s15 =>
  bnd (y3 + (nI 1)) fun v16 =>
  K49 y1 y2 v16 s15

def fX11_given_b185 (K43 : Int32 → Int32 → mS → Option (Int32 × mS)) (K49 : Int32 → Int32 → Int32 → mS → Option (Int32 × mS)) (K77 : Int32 → Int32 → Int32 → Int32 → Int32 → mS → Option (Int32 × mS)) (y1 : Int32) (y2 : Int32) (y3 : Int32) (y4 : Int32) (y5 : Int32) (s : mS) : Option (Int32 × mS) :=
  bnd (y5 + (nI 1)) fun v21 =>
  K77 y1 y2 y3 y4 v21 s

def fX11_given_b167 (K43 : Int32 → Int32 → mS → Option (Int32 × mS)) (K49 : Int32 → Int32 → Int32 → mS → Option (Int32 × mS)) (K77 : Int32 → Int32 → Int32 → Int32 → Int32 → mS → Option (Int32 × mS)) (y1 : Int32) (y2 : Int32) (y3 : Int32) (y5 : Int32) (y7 : Int32) (s : mS) : Option (Int32 × mS) :=
  bnd y7 fun v22 =>
  stA s aX_restGets 2304 (((nI 256) * y2) + y3) y5 fun s23 =>
  fX11_given_b185 K43 K49 K77 y1 y2 y3 v22 y5 s23

def fX11_given_b148 (K43 : Int32 → Int32 → mS → Option (Int32 × mS)) (K49 : Int32 → Int32 → Int32 → mS → Option (Int32 × mS)) (K77 : Int32 → Int32 → Int32 → Int32 → Int32 → mS → Option (Int32 × mS)) (y1 : Int32) (y2 : Int32) (y3 : Int32) (y4 : Int32) (y5 : Int32) (z0 : Int32) (s : mS) : Option (Int32 × mS) :=
  bnd z0 fun v20 =>
  if v20 < 0 then
    fX11_given_b185 K43 K49 K77 y1 y2 y3 y4 y5 s
  else
    if y4 < 0 then
      fX11_given_b167 K43 K49 K77 y1 y2 y3 y5 v20 s
    else
      if y4 ≤ v20 then
        fX11_given_b185 K43 K49 K77 y1 y2 y3 y4 y5 s
      else
        fX11_given_b167 K43 K49 K77 y1 y2 y3 y5 v20 s

def fX11_given_b127 (K43 : Int32 → Int32 → mS → Option (Int32 × mS)) (K49 : Int32 → Int32 → Int32 → mS → Option (Int32 × mS)) (K77 : Int32 → Int32 → Int32 → Int32 → Int32 → mS → Option (Int32 × mS)) (y1 : Int32) (y2 : Int32) (y3 : Int32) (y4 : Int32) (y5 : Int32) (z0 : Int32) (s : mS) : Option (Int32 × mS) :=
  bnd z0 fun v18 =>
  if 0 ≤ v18 then
    bO (fX11_farOf y2 y5 s) fun r19 =>
    fX11_given_b148 K43 K49 K77 y1 y2 y3 y4 y5 (v18 + r19) s
  else
    fX11_given_b148 K43 K49 K77 y1 y2 y3 y4 y5 (-1) s

def fX11_given_b77 (K43 : Int32 → Int32 → mS → Option (Int32 × mS)) (K49 : Int32 → Int32 → Int32 → mS → Option (Int32 × mS)) : Nat → Int32 → Int32 → Int32 → Int32 → Int32 → mS → Option (Int32 × mS)
  | 0, _, _, _, _, _, _ => none
  | k + 1, y1, y2, y3, y4, y5, s =>
    if (gI s iX_machines) ≤ y5 then
      fX11_given_b191 K43 K49 y1 y2 y3 y4 s
    else
      if (gI s iX_writers) ≤ y2 then
        fX11_given_b191 K43 K49 y1 y2 y3 y4 s
      else
        if ((y3 >>> (y5 &&& 31)) &&& (nI 1)) = (nI 1) then
          fX11_given_b127 K43 K49 (fun u0 u1 u2 u3 u4 u5 => fX11_given_b77 K43 K49 k u0 u1 u2 u3 u4 u5) y1 y2 y3 y4 y5 (-1) s
        else
          ldA s aX_restFar 2304 (((nI 256) * (y2 + (nI 1))) + (y3 ||| ((nI 1) <<< (y5 &&& 31)))) fun v17 =>
          fX11_given_b127 K43 K49 (fun u0 u1 u2 u3 u4 u5 => fX11_given_b77 K43 K49 k u0 u1 u2 u3 u4 u5) y1 y2 y3 y4 y5 v17 s

def fX11_given_b72 (K43 : Int32 → Int32 → mS → Option (Int32 × mS)) (K49 : Int32 → Int32 → Int32 → mS → Option (Int32 × mS)) (y1 : Int32) (y2 : Int32) (y3 : Int32) (z0 : Int32) (s : mS) : Option (Int32 × mS) :=
  bnd z0 fun v13 =>
  bnd (nI 0) fun v14 =>
  fX11_given_b77 K43 K49 mFu y1 y2 y3 v13 v14 s

def fX11_given_b49 (K43 : Int32 → Int32 → mS → Option (Int32 × mS)) : Nat → Int32 → Int32 → Int32 → mS → Option (Int32 × mS)
  | 0, _, _, _, _ => none
  | k + 1, y1, y2, y3, s =>
    if ((nI 1) <<< ((gI s iX_machines) &&& 31)) ≤ y3 then
      bnd (y2 + (-1)) fun v12 =>
      K43 y1 v12 s
    else
      if y2 = (gI s iX_writers) then
        fX11_given_b72 K43 (fun u0 u1 u2 u3 => fX11_given_b49 K43 k u0 u1 u2 u3) y1 y2 y3 (nI 0) s
      else
        fX11_given_b72 K43 (fun u0 u1 u2 u3 => fX11_given_b49 K43 k u0 u1 u2 u3) y1 y2 y3 (-1) s

def fX11_given_b43 : Nat → Int32 → Int32 → mS → Option (Int32 × mS)
  | 0, _, _, _ => none
  | k + 1, y1, y2, s =>
    if y2 < 0 then
      if y1 = (-1) then
        ldA s aX_restFar 2304 (nI 0) fun v10 =>
        some (v10, s)
      else
        bnd (nI 0) fun v4 =>
        bnd (nI 0) fun v5 =>
        fX11_given_b233 mFu y1 v4 v5 s
    else
      bnd (nI 0) fun v11 =>
      fX11_given_b49 (fun u0 u1 u2 => fX11_given_b43 k u0 u1 u2) mFu y1 y2 v11 s

def fX11_given (x1 : Int32) (s : mS) : Option (Int32 × mS) :=
  bO (fX11_within (Int32.toInt64 x1) (-1) (Int32.toInt64 ((gI s iX_writers) - (nI 1))) s) fun r1 =>
  if r1 = 0 then
    some ((-1), s)
  else
    if (gI s iX_writers) ≤ (gI s iX_machines) then
      bO (fX11_begins s) fun s2 =>
      bnd (gI s2 iX_writers) fun v3 =>
      fX11_given_b43 mFu x1 v3 s2
    else
      some ((-5), s)

set_option maxRecDepth 20000 in
theorem wX11_given_b233 {ρ : mRo} {d : Nat} {P : mPo} {V : mS → List mE} (hV : mView LX V)  {res : (Int32 × mS)} (hP : P (some (.int res.1)) (V res.2)) : ∀ (k : Nat) (y1 : Int32) (y2 : Int32) (y3 : Int32) (s : mS), fX11_given_b233 k y1 y2 y3 s = some res → mG ρ (mC ρ (d + 2)) 11 8 cX11_given (some .int) P 233 [(0, .ref qX), (1, .int y1), (2, .int y2), (3, .int y3)] [] (V s) := by
  intro k
  induction k with
  | zero => intro y1 y2 y3 s hf; rw [fX11_given_b233] at hf; cases hf
  | succ k ih =>
    intro y1 y2 y3 s hf
    rw [fX11_given_b233] at hf
    refine e_iload_n 3 dX11_given_233 rfl rfl ?_
    refine e_iload_n 1 dX11_given_234 rfl rfl ?_
    refine e_icmp_ge 261 dX11_given_235 (by decide) hf (fun hf => ?_) (fun hf => ?_)
    · refine e_aload_n 0 dX11_given_261 rfl rfl ?_
      refine e_getr hV dX11_given_262 rfl lx_X rfl ?_
      refine e_sipush (w := (nI 256)) dX11_given_265 (by decide) ?_
      refine e_iload_n 1 dX11_given_268 rfl rfl ?_
      refine e_imul dX11_given_269 ?_
      refine e_iload_n 2 dX11_given_270 rfl rfl ?_
      refine e_iadd dX11_given_271 ?_
      refine e_iald hV dX11_given_272 lx_X_restGets hf (fun v6 hf => ?_)
      obtain rfl := Option.some.inj hf
      exact e_iret dX11_given_273 trivial hP
    · refine e_iload_n 2 dX11_given_238 rfl rfl ?_
      refine e_iconst (w := (nI 1)) dX11_given_239 (by decide) ?_
      refine e_aload_n 0 dX11_given_240 rfl rfl ?_
      refine e_getr hV dX11_given_241 rfl lx_X rfl ?_
      refine e_sipush (w := (nI 256)) dX11_given_244 (by decide) ?_
      refine e_iload_n 3 dX11_given_247 rfl rfl ?_
      refine e_imul dX11_given_248 ?_
      refine e_iload_n 2 dX11_given_249 rfl rfl ?_
      refine e_iadd dX11_given_250 ?_
      refine e_iald hV dX11_given_251 lx_X_restGets hf (fun v7 hf => ?_)
      refine e_ishl dX11_given_252 ?_
      refine e_ior dX11_given_253 ?_
      refine e_istore_n dX11_given_254 rfl (by decide) hf (fun v8 hf => ?_)
      refine e_iinc 3 dX11_given_255 (by decide) rfl hf (fun v9 hf => ?_)
      refine e_goto 233 dX11_given_258 (by decide) ?_
      refine e_pick [2, 3, 1, 0] rfl ?_
      exact ih y1 v8 v9 s hf
set_option maxRecDepth 20000 in
theorem wX11_given_b191 {ρ : mRo} {d : Nat} {P : mPo} {V : mS → List mE} (hV : mView LX V)  {res : (Int32 × mS)} {K43 : Int32 → Int32 → mS → Option (Int32 × mS)} (hK43 : ∀ (y1 : Int32) (y2 : Int32) (s : mS), K43 y1 y2 s = some res → mG ρ (mC ρ (d + 2)) 11 8 cX11_given (some .int) P 43 [(0, .ref qX), (1, .int y1), (2, .int y2)] [] (V s)) {K49 : Int32 → Int32 → Int32 → mS → Option (Int32 × mS)} (hK49 : ∀ (y1 : Int32) (y2 : Int32) (y3 : Int32) (s : mS), K49 y1 y2 y3 s = some res → mG ρ (mC ρ (d + 2)) 11 8 cX11_given (some .int) P 49 [(0, .ref qX), (1, .int y1), (2, .int y2), (3, .int y3)] [] (V s)) (hP : P (some (.int res.1)) (V res.2)) (y1 : Int32) (y2 : Int32) (y3 : Int32) (y4 : Int32) (s : mS) (hf : fX11_given_b191 K43 K49 y1 y2 y3 y4 s = some res) : mG ρ (mC ρ (d + 2)) 11 8 cX11_given (some .int) P 191 [(0, .ref qX), (1, .int y1), (2, .int y2), (3, .int y3), (4, .int y4)] [] (V s) := by
  unfold fX11_given_b191 at hf
  refine e_aload_n 0 dX11_given_191 rfl rfl ?_
  refine e_getr hV dX11_given_192 rfl lx_X rfl ?_
  refine e_sipush (w := (nI 256)) dX11_given_195 (by decide) ?_
  refine e_iload_n 2 dX11_given_198 rfl rfl ?_
  refine e_imul dX11_given_199 ?_
  refine e_iload_n 3 dX11_given_200 rfl rfl ?_
  refine e_iadd dX11_given_201 ?_
  refine e_iload 4 dX11_given_202 rfl ?_
  refine e_iast hV dX11_given_204 lx_X_restFar hf (fun s15 hf => ?_)
  refine e_iinc 3 dX11_given_205 (by decide) rfl hf (fun v16 hf => ?_)
  refine e_goto 49 dX11_given_208 (by decide) ?_
  refine e_pick [1, 2, 3, 0] rfl ?_
  exact hK49 y1 y2 v16 s15 hf
set_option maxRecDepth 20000 in
theorem wX11_given_b185 {ρ : mRo} {d : Nat} {P : mPo} {V : mS → List mE} (hV : mView LX V)  {res : (Int32 × mS)} {K43 : Int32 → Int32 → mS → Option (Int32 × mS)} (hK43 : ∀ (y1 : Int32) (y2 : Int32) (s : mS), K43 y1 y2 s = some res → mG ρ (mC ρ (d + 2)) 11 8 cX11_given (some .int) P 43 [(0, .ref qX), (1, .int y1), (2, .int y2)] [] (V s)) {K49 : Int32 → Int32 → Int32 → mS → Option (Int32 × mS)} (hK49 : ∀ (y1 : Int32) (y2 : Int32) (y3 : Int32) (s : mS), K49 y1 y2 y3 s = some res → mG ρ (mC ρ (d + 2)) 11 8 cX11_given (some .int) P 49 [(0, .ref qX), (1, .int y1), (2, .int y2), (3, .int y3)] [] (V s)) {K77 : Int32 → Int32 → Int32 → Int32 → Int32 → mS → Option (Int32 × mS)} (hK77 : ∀ (y1 : Int32) (y2 : Int32) (y3 : Int32) (y4 : Int32) (y5 : Int32) (s : mS), K77 y1 y2 y3 y4 y5 s = some res → mG ρ (mC ρ (d + 2)) 11 8 cX11_given (some .int) P 77 [(0, .ref qX), (1, .int y1), (2, .int y2), (3, .int y3), (4, .int y4), (5, .int y5)] [] (V s)) (hP : P (some (.int res.1)) (V res.2)) (y1 : Int32) (y2 : Int32) (y3 : Int32) (y4 : Int32) (y5 : Int32) (s : mS) (hf : fX11_given_b185 K43 K49 K77 y1 y2 y3 y4 y5 s = some res) : mG ρ (mC ρ (d + 2)) 11 8 cX11_given (some .int) P 185 [(0, .ref qX), (1, .int y1), (2, .int y2), (3, .int y3), (4, .int y4), (5, .int y5)] [] (V s) := by
  unfold fX11_given_b185 at hf
  refine e_iinc 5 dX11_given_185 (by decide) rfl hf (fun v21 hf => ?_)
  refine e_goto 77 dX11_given_188 (by decide) ?_
  refine e_pick [1, 2, 3, 4, 5, 0] rfl ?_
  exact hK77 y1 y2 y3 y4 v21 s hf
set_option maxRecDepth 20000 in
theorem wX11_given_b167 {ρ : mRo} {d : Nat} {P : mPo} {V : mS → List mE} (hV : mView LX V)  {res : (Int32 × mS)} {K43 : Int32 → Int32 → mS → Option (Int32 × mS)} (hK43 : ∀ (y1 : Int32) (y2 : Int32) (s : mS), K43 y1 y2 s = some res → mG ρ (mC ρ (d + 2)) 11 8 cX11_given (some .int) P 43 [(0, .ref qX), (1, .int y1), (2, .int y2)] [] (V s)) {K49 : Int32 → Int32 → Int32 → mS → Option (Int32 × mS)} (hK49 : ∀ (y1 : Int32) (y2 : Int32) (y3 : Int32) (s : mS), K49 y1 y2 y3 s = some res → mG ρ (mC ρ (d + 2)) 11 8 cX11_given (some .int) P 49 [(0, .ref qX), (1, .int y1), (2, .int y2), (3, .int y3)] [] (V s)) {K77 : Int32 → Int32 → Int32 → Int32 → Int32 → mS → Option (Int32 × mS)} (hK77 : ∀ (y1 : Int32) (y2 : Int32) (y3 : Int32) (y4 : Int32) (y5 : Int32) (s : mS), K77 y1 y2 y3 y4 y5 s = some res → mG ρ (mC ρ (d + 2)) 11 8 cX11_given (some .int) P 77 [(0, .ref qX), (1, .int y1), (2, .int y2), (3, .int y3), (4, .int y4), (5, .int y5)] [] (V s)) (hP : P (some (.int res.1)) (V res.2)) (y1 : Int32) (y2 : Int32) (y3 : Int32) (y5 : Int32) (y7 : Int32) (s : mS) (hf : fX11_given_b167 K43 K49 K77 y1 y2 y3 y5 y7 s = some res) : mG ρ (mC ρ (d + 2)) 11 8 cX11_given (some .int) P 167 [(0, .ref qX), (1, .int y1), (2, .int y2), (3, .int y3), (5, .int y5), (7, .int y7)] [] (V s) := by
  unfold fX11_given_b167 at hf
  refine e_iload 5 dX11_given_167 rfl ?_
  refine e_istore dX11_given_169 (by decide) hf (fun v22 hf => ?_)
  refine e_aload_n 1 dX11_given_171 rfl rfl ?_
  refine e_getr hV dX11_given_172 rfl lx_X rfl ?_
  refine e_sipush (w := (nI 256)) dX11_given_175 (by decide) ?_
  refine e_iload_n 3 dX11_given_178 rfl rfl ?_
  refine e_imul dX11_given_179 ?_
  refine e_iload_n 4 dX11_given_180 rfl rfl ?_
  refine e_iadd dX11_given_181 ?_
  refine e_iload 5 dX11_given_182 rfl ?_
  refine e_iast hV dX11_given_184 lx_X_restGets hf (fun s23 hf => ?_)
  refine e_pick [1, 2, 3, 4, 0, 5] rfl ?_
  exact wX11_given_b185 hV hK43 hK49 hK77 hP y1 y2 y3 v22 y5 s23 hf
set_option maxRecDepth 20000 in
theorem wX11_given_b148 {ρ : mRo} {d : Nat} {P : mPo} {V : mS → List mE} (hV : mView LX V)  {res : (Int32 × mS)} {K43 : Int32 → Int32 → mS → Option (Int32 × mS)} (hK43 : ∀ (y1 : Int32) (y2 : Int32) (s : mS), K43 y1 y2 s = some res → mG ρ (mC ρ (d + 2)) 11 8 cX11_given (some .int) P 43 [(0, .ref qX), (1, .int y1), (2, .int y2)] [] (V s)) {K49 : Int32 → Int32 → Int32 → mS → Option (Int32 × mS)} (hK49 : ∀ (y1 : Int32) (y2 : Int32) (y3 : Int32) (s : mS), K49 y1 y2 y3 s = some res → mG ρ (mC ρ (d + 2)) 11 8 cX11_given (some .int) P 49 [(0, .ref qX), (1, .int y1), (2, .int y2), (3, .int y3)] [] (V s)) {K77 : Int32 → Int32 → Int32 → Int32 → Int32 → mS → Option (Int32 × mS)} (hK77 : ∀ (y1 : Int32) (y2 : Int32) (y3 : Int32) (y4 : Int32) (y5 : Int32) (s : mS), K77 y1 y2 y3 y4 y5 s = some res → mG ρ (mC ρ (d + 2)) 11 8 cX11_given (some .int) P 77 [(0, .ref qX), (1, .int y1), (2, .int y2), (3, .int y3), (4, .int y4), (5, .int y5)] [] (V s)) (hP : P (some (.int res.1)) (V res.2)) (y1 : Int32) (y2 : Int32) (y3 : Int32) (y4 : Int32) (y5 : Int32) (z0 : Int32) (s : mS) (hf : fX11_given_b148 K43 K49 K77 y1 y2 y3 y4 y5 z0 s = some res) : mG ρ (mC ρ (d + 2)) 11 8 cX11_given (some .int) P 148 [(0, .ref qX), (1, .int y1), (2, .int y2), (3, .int y3), (4, .int y4), (5, .int y5)] [.int z0] (V s) := by
  unfold fX11_given_b148 at hf
  refine e_istore dX11_given_148 (by decide) hf (fun v20 hf => ?_)
  refine e_iload 0 dX11_given_150 rfl ?_
  refine e_if_lt 185 dX11_given_152 (by decide) hf (fun hf => ?_) (fun hf => ?_)
  · refine e_pick [1, 2, 3, 4, 5, 6] rfl ?_
    exact wX11_given_b185 hV hK43 hK49 hK77 hP y1 y2 y3 y4 y5 s hf
  · refine e_iload 5 dX11_given_155 rfl ?_
    refine e_if_lt 167 dX11_given_157 (by decide) hf (fun hf => ?_) (fun hf => ?_)
    · refine e_pick [1, 2, 3, 4, 6, 0] rfl ?_
      exact wX11_given_b167 hV hK43 hK49 hK77 hP y1 y2 y3 y5 v20 s hf
    · refine e_iload 0 dX11_given_160 rfl ?_
      refine e_iload 5 dX11_given_162 rfl ?_
      refine e_icmp_ge 185 dX11_given_164 (by decide) hf (fun hf => ?_) (fun hf => ?_)
      · refine e_pick [1, 2, 3, 4, 5, 6] rfl ?_
        exact wX11_given_b185 hV hK43 hK49 hK77 hP y1 y2 y3 y4 y5 s hf
      · refine e_pick [1, 2, 3, 4, 6, 0] rfl ?_
        exact wX11_given_b167 hV hK43 hK49 hK77 hP y1 y2 y3 y5 v20 s hf
set_option maxRecDepth 20000 in
theorem wX11_given_b127 {ρ : mRo} {d : Nat} {P : mPo} {V : mS → List mE} (hV : mView LX V)  {res : (Int32 × mS)} {K43 : Int32 → Int32 → mS → Option (Int32 × mS)} (hK43 : ∀ (y1 : Int32) (y2 : Int32) (s : mS), K43 y1 y2 s = some res → mG ρ (mC ρ (d + 2)) 11 8 cX11_given (some .int) P 43 [(0, .ref qX), (1, .int y1), (2, .int y2)] [] (V s)) {K49 : Int32 → Int32 → Int32 → mS → Option (Int32 × mS)} (hK49 : ∀ (y1 : Int32) (y2 : Int32) (y3 : Int32) (s : mS), K49 y1 y2 y3 s = some res → mG ρ (mC ρ (d + 2)) 11 8 cX11_given (some .int) P 49 [(0, .ref qX), (1, .int y1), (2, .int y2), (3, .int y3)] [] (V s)) {K77 : Int32 → Int32 → Int32 → Int32 → Int32 → mS → Option (Int32 × mS)} (hK77 : ∀ (y1 : Int32) (y2 : Int32) (y3 : Int32) (y4 : Int32) (y5 : Int32) (s : mS), K77 y1 y2 y3 y4 y5 s = some res → mG ρ (mC ρ (d + 2)) 11 8 cX11_given (some .int) P 77 [(0, .ref qX), (1, .int y1), (2, .int y2), (3, .int y3), (4, .int y4), (5, .int y5)] [] (V s)) (hP : P (some (.int res.1)) (V res.2)) (y1 : Int32) (y2 : Int32) (y3 : Int32) (y4 : Int32) (y5 : Int32) (z0 : Int32) (s : mS) (hf : fX11_given_b127 K43 K49 K77 y1 y2 y3 y4 y5 z0 s = some res) : mG ρ (mC ρ (d + 2)) 11 8 cX11_given (some .int) P 127 [(0, .ref qX), (1, .int y1), (2, .int y2), (3, .int y3), (4, .int y4), (5, .int y5)] [.int z0] (V s) := by
  unfold fX11_given_b127 at hf
  refine e_istore dX11_given_127 (by decide) hf (fun v18 hf => ?_)
  refine e_iload 0 dX11_given_129 rfl ?_
  refine e_if_ge 138 dX11_given_131 (by decide) hf (fun hf => ?_) (fun hf => ?_)
  · refine e_iload 0 dX11_given_138 rfl ?_
    refine e_aload_n 1 dX11_given_140 rfl rfl ?_
    refine e_iload_n 3 dX11_given_141 rfl rfl ?_
    refine e_iload 6 dX11_given_142 rfl ?_
    obtain ⟨r19, hg, hf⟩ := bO_some hf
    refine e_callV (as := [.int y2, .int y5]) (v := (some (.int r19))) (s' := s) hV dX11_given_144 (Or.inl rfl) rfl rfl rfl rfl (Nat.le_of_ble_eq_true rfl) lx_X rfl rfl (fun Q hQ => tX11_farOf (d := d) hV  hg hQ) ?_
    refine e_iadd dX11_given_147 ?_
    refine e_pick [1, 2, 3, 4, 5, 6] rfl ?_
    exact wX11_given_b148 hV hK43 hK49 hK77 hP y1 y2 y3 y4 y5 (v18 + r19) s hf
  · refine e_iconst (w := (-1)) dX11_given_134 (by decide) ?_
    refine e_goto 148 dX11_given_135 (by decide) ?_
    refine e_pick [1, 2, 3, 4, 5, 6] rfl ?_
    exact wX11_given_b148 hV hK43 hK49 hK77 hP y1 y2 y3 y4 y5 (-1) s hf
set_option maxRecDepth 20000 in
theorem wX11_given_b77 {ρ : mRo} {d : Nat} {P : mPo} {V : mS → List mE} (hV : mView LX V)  {res : (Int32 × mS)} {K43 : Int32 → Int32 → mS → Option (Int32 × mS)} (hK43 : ∀ (y1 : Int32) (y2 : Int32) (s : mS), K43 y1 y2 s = some res → mG ρ (mC ρ (d + 2)) 11 8 cX11_given (some .int) P 43 [(0, .ref qX), (1, .int y1), (2, .int y2)] [] (V s)) {K49 : Int32 → Int32 → Int32 → mS → Option (Int32 × mS)} (hK49 : ∀ (y1 : Int32) (y2 : Int32) (y3 : Int32) (s : mS), K49 y1 y2 y3 s = some res → mG ρ (mC ρ (d + 2)) 11 8 cX11_given (some .int) P 49 [(0, .ref qX), (1, .int y1), (2, .int y2), (3, .int y3)] [] (V s)) (hP : P (some (.int res.1)) (V res.2)) : ∀ (k : Nat) (y1 : Int32) (y2 : Int32) (y3 : Int32) (y4 : Int32) (y5 : Int32) (s : mS), fX11_given_b77 K43 K49 k y1 y2 y3 y4 y5 s = some res → mG ρ (mC ρ (d + 2)) 11 8 cX11_given (some .int) P 77 [(0, .ref qX), (1, .int y1), (2, .int y2), (3, .int y3), (4, .int y4), (5, .int y5)] [] (V s) := by
  intro k
  induction k with
  | zero => intro y1 y2 y3 y4 y5 s hf; rw [fX11_given_b77] at hf; cases hf
  | succ k ih =>
    intro y1 y2 y3 y4 y5 s hf
    rw [fX11_given_b77] at hf
    refine e_iload 5 dX11_given_77 rfl ?_
    refine e_aload_n 0 dX11_given_79 rfl rfl ?_
    refine e_geti hV dX11_given_80 rfl lx_X rfl ?_
    refine e_icmp_ge 191 dX11_given_83 (by decide) hf (fun hf => ?_) (fun hf => ?_)
    · refine e_pick [0, 1, 2, 3, 4] rfl ?_
      exact wX11_given_b191 hV hK43 hK49 hP y1 y2 y3 y4 s hf
    · refine e_iload_n 2 dX11_given_86 rfl rfl ?_
      refine e_aload_n 0 dX11_given_87 rfl rfl ?_
      refine e_geti hV dX11_given_88 rfl lx_X rfl ?_
      refine e_icmp_ge 191 dX11_given_91 (by decide) hf (fun hf => ?_) (fun hf => ?_)
      · refine e_pick [0, 1, 2, 3, 4] rfl ?_
        exact wX11_given_b191 hV hK43 hK49 hP y1 y2 y3 y4 s hf
      · refine e_iload_n 3 dX11_given_94 rfl rfl ?_
        refine e_iload 5 dX11_given_95 rfl ?_
        refine e_ishr dX11_given_97 ?_
        refine e_iconst (w := (nI 1)) dX11_given_98 (by decide) ?_
        refine e_iand dX11_given_99 ?_
        refine e_iconst (w := (nI 1)) dX11_given_100 (by decide) ?_
        refine e_icmp_ne 108 dX11_given_101 (by decide) hf (fun hf => ?_) (fun hf => ?_)
        · refine e_aload_n 0 dX11_given_108 rfl rfl ?_
          refine e_getr hV dX11_given_109 rfl lx_X rfl ?_
          refine e_sipush (w := (nI 256)) dX11_given_112 (by decide) ?_
          refine e_iload_n 2 dX11_given_115 rfl rfl ?_
          refine e_iconst (w := (nI 1)) dX11_given_116 (by decide) ?_
          refine e_iadd dX11_given_117 ?_
          refine e_imul dX11_given_118 ?_
          refine e_iload_n 3 dX11_given_119 rfl rfl ?_
          refine e_iconst (w := (nI 1)) dX11_given_120 (by decide) ?_
          refine e_iload 5 dX11_given_121 rfl ?_
          refine e_ishl dX11_given_123 ?_
          refine e_ior dX11_given_124 ?_
          refine e_iadd dX11_given_125 ?_
          refine e_iald hV dX11_given_126 lx_X_restFar hf (fun v17 hf => ?_)
          refine e_pick [0, 1, 2, 3, 4, 5] rfl ?_
          exact wX11_given_b127 hV hK43 hK49 ih hP y1 y2 y3 y4 y5 v17 s hf
        · refine e_iconst (w := (-1)) dX11_given_104 (by decide) ?_
          refine e_goto 127 dX11_given_105 (by decide) ?_
          refine e_pick [0, 1, 2, 3, 4, 5] rfl ?_
          exact wX11_given_b127 hV hK43 hK49 ih hP y1 y2 y3 y4 y5 (-1) s hf
set_option maxRecDepth 20000 in
theorem wX11_given_b72 {ρ : mRo} {d : Nat} {P : mPo} {V : mS → List mE} (hV : mView LX V)  {res : (Int32 × mS)} {K43 : Int32 → Int32 → mS → Option (Int32 × mS)} (hK43 : ∀ (y1 : Int32) (y2 : Int32) (s : mS), K43 y1 y2 s = some res → mG ρ (mC ρ (d + 2)) 11 8 cX11_given (some .int) P 43 [(0, .ref qX), (1, .int y1), (2, .int y2)] [] (V s)) {K49 : Int32 → Int32 → Int32 → mS → Option (Int32 × mS)} (hK49 : ∀ (y1 : Int32) (y2 : Int32) (y3 : Int32) (s : mS), K49 y1 y2 y3 s = some res → mG ρ (mC ρ (d + 2)) 11 8 cX11_given (some .int) P 49 [(0, .ref qX), (1, .int y1), (2, .int y2), (3, .int y3)] [] (V s)) (hP : P (some (.int res.1)) (V res.2)) (y1 : Int32) (y2 : Int32) (y3 : Int32) (z0 : Int32) (s : mS) (hf : fX11_given_b72 K43 K49 y1 y2 y3 z0 s = some res) : mG ρ (mC ρ (d + 2)) 11 8 cX11_given (some .int) P 72 [(0, .ref qX), (1, .int y1), (2, .int y2), (3, .int y3)] [.int z0] (V s) := by
  unfold fX11_given_b72 at hf
  refine e_istore dX11_given_72 (by decide) hf (fun v13 hf => ?_)
  refine e_iconst (w := (nI 0)) dX11_given_74 (by decide) ?_
  refine e_istore dX11_given_75 (by decide) hf (fun v14 hf => ?_)
  refine e_pick [2, 3, 4, 5, 1, 0] rfl ?_
  exact wX11_given_b77 hV hK43 hK49 hP mFu y1 y2 y3 v13 v14 s hf
set_option maxRecDepth 20000 in
theorem wX11_given_b49 {ρ : mRo} {d : Nat} {P : mPo} {V : mS → List mE} (hV : mView LX V)  {res : (Int32 × mS)} {K43 : Int32 → Int32 → mS → Option (Int32 × mS)} (hK43 : ∀ (y1 : Int32) (y2 : Int32) (s : mS), K43 y1 y2 s = some res → mG ρ (mC ρ (d + 2)) 11 8 cX11_given (some .int) P 43 [(0, .ref qX), (1, .int y1), (2, .int y2)] [] (V s)) (hP : P (some (.int res.1)) (V res.2)) : ∀ (k : Nat) (y1 : Int32) (y2 : Int32) (y3 : Int32) (s : mS), fX11_given_b49 K43 k y1 y2 y3 s = some res → mG ρ (mC ρ (d + 2)) 11 8 cX11_given (some .int) P 49 [(0, .ref qX), (1, .int y1), (2, .int y2), (3, .int y3)] [] (V s) := by
  intro k
  induction k with
  | zero => intro y1 y2 y3 s hf; rw [fX11_given_b49] at hf; cases hf
  | succ k ih =>
    intro y1 y2 y3 s hf
    rw [fX11_given_b49] at hf
    refine e_iload_n 3 dX11_given_49 rfl rfl ?_
    refine e_iconst (w := (nI 1)) dX11_given_50 (by decide) ?_
    refine e_aload_n 0 dX11_given_51 rfl rfl ?_
    refine e_geti hV dX11_given_52 rfl lx_X rfl ?_
    refine e_ishl dX11_given_55 ?_
    refine e_icmp_ge 211 dX11_given_56 (by decide) hf (fun hf => ?_) (fun hf => ?_)
    · refine e_iinc 2 dX11_given_211 (by decide) rfl hf (fun v12 hf => ?_)
      refine e_goto 43 dX11_given_214 (by decide) ?_
      refine e_pick [1, 2, 0] rfl ?_
      exact hK43 y1 v12 s hf
    · refine e_iload_n 2 dX11_given_59 rfl rfl ?_
      refine e_aload_n 0 dX11_given_60 rfl rfl ?_
      refine e_geti hV dX11_given_61 rfl lx_X rfl ?_
      refine e_icmp_ne 71 dX11_given_64 (by decide) hf (fun hf => ?_) (fun hf => ?_)
      · refine e_iconst (w := (-1)) dX11_given_71 (by decide) ?_
        refine e_pick [0, 1, 2, 3] rfl ?_
        exact wX11_given_b72 hV hK43 ih hP y1 y2 y3 (-1) s hf
      · refine e_iconst (w := (nI 0)) dX11_given_67 (by decide) ?_
        refine e_goto 72 dX11_given_68 (by decide) ?_
        refine e_pick [0, 1, 2, 3] rfl ?_
        exact wX11_given_b72 hV hK43 ih hP y1 y2 y3 (nI 0) s hf
set_option maxRecDepth 20000 in
theorem wX11_given_b43 {ρ : mRo} {d : Nat} {P : mPo} {V : mS → List mE} (hV : mView LX V)  {res : (Int32 × mS)} (hP : P (some (.int res.1)) (V res.2)) : ∀ (k : Nat) (y1 : Int32) (y2 : Int32) (s : mS), fX11_given_b43 k y1 y2 s = some res → mG ρ (mC ρ (d + 2)) 11 8 cX11_given (some .int) P 43 [(0, .ref qX), (1, .int y1), (2, .int y2)] [] (V s) := by
  intro k
  induction k with
  | zero => intro y1 y2 s hf; rw [fX11_given_b43] at hf; cases hf
  | succ k ih =>
    intro y1 y2 s hf
    rw [fX11_given_b43] at hf
    refine e_iload_n 2 dX11_given_43 rfl rfl ?_
    refine e_if_lt 217 dX11_given_44 (by decide) hf (fun hf => ?_) (fun hf => ?_)
    · refine e_iload_n 1 dX11_given_217 rfl rfl ?_
      refine e_iconst (w := (-1)) dX11_given_218 (by decide) ?_
      refine e_icmp_ne 229 dX11_given_219 (by decide) hf (fun hf => ?_) (fun hf => ?_)
      · refine e_iconst (w := (nI 0)) dX11_given_229 (by decide) ?_
        refine e_istore_n dX11_given_230 rfl (by decide) hf (fun v4 hf => ?_)
        refine e_iconst (w := (nI 0)) dX11_given_231 (by decide) ?_
        refine e_istore_n dX11_given_232 rfl (by decide) hf (fun v5 hf => ?_)
        refine e_pick [2, 3, 1, 0] rfl ?_
        exact wX11_given_b233 hV hP mFu y1 v4 v5 s hf
      · refine e_aload_n 0 dX11_given_222 rfl rfl ?_
        refine e_getr hV dX11_given_223 rfl lx_X rfl ?_
        refine e_iconst (w := (nI 0)) dX11_given_226 (by decide) ?_
        refine e_iald hV dX11_given_227 lx_X_restFar hf (fun v10 hf => ?_)
        obtain rfl := Option.some.inj hf
        exact e_iret dX11_given_228 trivial hP
    · refine e_iconst (w := (nI 0)) dX11_given_47 (by decide) ?_
      refine e_istore_n dX11_given_48 rfl (by decide) hf (fun v11 hf => ?_)
      refine e_pick [1, 2, 3, 0] rfl ?_
      exact wX11_given_b49 hV ih hP mFu y1 y2 v11 s hf
set_option maxRecDepth 20000 in
theorem tX11_given {ρ : mRo} {d : Nat} {P : mPo} {V : mS → List mE} (hV : mView LX V)  {x1 : Int32} {s : mS} {res : (Int32 × mS)} (hf : fX11_given x1 s = some res) (hP : P (some (.int res.1)) (V res.2)) : mC ρ (d + 3) 185 [.ref qX, .int x1] (V s) P := by
  refine ⟨_, rfl, Nat.le_of_ble_eq_true rfl, by decide, ?_⟩
  show mG ρ (mC ρ (d + 2)) 11 8 cX11_given (some .int) P 0 [(0, .ref qX), (1, .int x1)] [] (V s)
  unfold fX11_given at hf
  refine e_iload_n 1 dX11_given_0 rfl rfl ?_
  refine e_i2l dX11_given_1 ?_
  refine e_ldc2_w (w := (-1)) dX11_given_2 rfl ?_
  refine e_aload_n 0 dX11_given_5 rfl rfl ?_
  refine e_geti hV dX11_given_6 rfl lx_X rfl ?_
  refine e_iconst (w := (nI 1)) dX11_given_9 (by decide) ?_
  refine e_isub dX11_given_10 ?_
  refine e_i2l dX11_given_11 ?_
  obtain ⟨r1, hg, hf⟩ := bO_some hf
  refine e_callS (as := [.long (Int32.toInt64 x1), .long (-1), .long (Int32.toInt64 ((gI s iX_writers) - (nI 1)))]) (v := (some (.int r1))) (s' := s) dX11_given_12 rfl rfl rfl rfl rfl (Nat.le_of_ble_eq_true rfl) (fun Q hQ => tX11_within (d := (d + 1)) hV  hg hQ) ?_
  refine e_if_ne 20 dX11_given_15 (by decide) hf (fun hf => ?_) (fun hf => ?_)
  · refine e_aload_n 0 dX11_given_20 rfl rfl ?_
    refine e_geti hV dX11_given_21 rfl lx_X rfl ?_
    refine e_aload_n 0 dX11_given_24 rfl rfl ?_
    refine e_geti hV dX11_given_25 rfl lx_X rfl ?_
    refine e_icmp_le 34 dX11_given_28 (by decide) hf (fun hf => ?_) (fun hf => ?_)
    · refine e_aload_n 0 dX11_given_34 rfl rfl ?_
      obtain ⟨s2, hg, hf⟩ := bO_some hf
      refine e_callV (as := []) (v := none) (s' := s2) hV dX11_given_35 (Or.inl rfl) rfl rfl rfl rfl (Nat.le_of_ble_eq_true rfl) lx_X rfl rfl (fun Q hQ => tX11_begins (d := (d + 1)) hV  hg hQ) ?_
      refine e_aload_n 0 dX11_given_38 rfl rfl ?_
      refine e_geti hV dX11_given_39 rfl lx_X rfl ?_
      refine e_istore_n dX11_given_42 rfl (by decide) hf (fun v3 hf => ?_)
      refine e_pick [1, 2, 0] rfl ?_
      exact wX11_given_b43 hV hP mFu x1 v3 s2 hf
    · refine e_bipush (w := (-5)) dX11_given_31 (by decide) ?_
      obtain rfl := Option.some.inj hf
      exact e_iret dX11_given_33 trivial hP
  · refine e_iconst (w := (-1)) dX11_given_18 (by decide) ?_
    obtain rfl := Option.some.inj hf
    exact e_iret dX11_given_19 trivial hP
