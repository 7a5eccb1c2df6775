-- bytecode to functions, by program (wip/gen/decomp.py)
theorem dX11_isSheet_0 : decode cX11_isSheet 0 = .ok (.iconst 0, 1) := by decide +kernel
theorem dX11_isSheet_1 : decode cX11_isSheet 1 = .ok (.istore 4, 2) := by decide +kernel
theorem dX11_isSheet_3 : decode cX11_isSheet 3 = .ok (.iload 4, 2) := by decide +kernel
theorem dX11_isSheet_5 : decode cX11_isSheet 5 = .ok (.iconst 3, 1) := by decide +kernel
theorem dX11_isSheet_6 : decode cX11_isSheet 6 = .ok (.if_icmp .ge 47, 3) := by decide +kernel
theorem dX11_isSheet_9 : decode cX11_isSheet 9 = .ok (.iload 4, 2) := by decide +kernel
theorem dX11_isSheet_11 : decode cX11_isSheet 11 = .ok (.aload_n 0, 1) := by decide +kernel
theorem dX11_isSheet_12 : decode cX11_isSheet 12 = .ok (.getfield 71, 3) := by decide +kernel
theorem dX11_isSheet_15 : decode cX11_isSheet 15 = .ok (.iload_n 1, 1) := by decide +kernel
theorem dX11_isSheet_16 : decode cX11_isSheet 16 = .ok (.iaload, 1) := by decide +kernel
theorem dX11_isSheet_17 : decode cX11_isSheet 17 = .ok (.if_icmp .ge 36, 3) := by decide +kernel
theorem dX11_isSheet_20 : decode cX11_isSheet 20 = .ok (.aload_n 0, 1) := by decide +kernel
theorem dX11_isSheet_21 : decode cX11_isSheet 21 = .ok (.getfield 74, 3) := by decide +kernel
theorem dX11_isSheet_24 : decode cX11_isSheet 24 = .ok (.bipush 60, 2) := by decide +kernel
theorem dX11_isSheet_26 : decode cX11_isSheet 26 = .ok (.iload_n 1, 1) := by decide +kernel
theorem dX11_isSheet_27 : decode cX11_isSheet 27 = .ok (.imul, 1) := by decide +kernel
theorem dX11_isSheet_28 : decode cX11_isSheet 28 = .ok (.iload 4, 2) := by decide +kernel
theorem dX11_isSheet_30 : decode cX11_isSheet 30 = .ok (.iadd, 1) := by decide +kernel
theorem dX11_isSheet_31 : decode cX11_isSheet 31 = .ok (.laload, 1) := by decide +kernel
theorem dX11_isSheet_32 : decode cX11_isSheet 32 = .ok (.aload_n 0, 1) := by decide +kernel
theorem dX11_isSheet_33 : decode cX11_isSheet 33 = .ok (.iload_n 2, 1) := by decide +kernel
theorem dX11_isSheet_34 : decode cX11_isSheet 34 = .ok (.iload_n 3, 1) := by decide +kernel
theorem dX11_isSheet_35 : decode cX11_isSheet 35 = .ok (.iload 4, 2) := by decide +kernel
theorem dX11_isSheet_37 : decode cX11_isSheet 37 = .ok (.invokevirtual 208, 3) := by decide +kernel
theorem dX11_isSheet_40 : decode cX11_isSheet 40 = .ok (.i2l, 1) := by decide +kernel
theorem dX11_isSheet_41 : decode cX11_isSheet 41 = .ok (.lcmp, 1) := by decide +kernel
theorem dX11_isSheet_42 : decode cX11_isSheet 42 = .ok (.ifCond .eq 5, 3) := by decide +kernel
theorem dX11_isSheet_45 : decode cX11_isSheet 45 = .ok (.iconst 0, 1) := by decide +kernel
theorem dX11_isSheet_46 : decode cX11_isSheet 46 = .ok (.ireturn, 1) := by decide +kernel
theorem dX11_isSheet_47 : decode cX11_isSheet 47 = .ok (.iinc 4 1, 3) := by decide +kernel
theorem dX11_isSheet_50 : decode cX11_isSheet 50 = .ok (.goto (-47), 3) := by decide +kernel
theorem dX11_isSheet_53 : decode cX11_isSheet 53 = .ok (.iconst 1, 1) := by decide +kernel
theorem dX11_isSheet_54 : decode cX11_isSheet 54 = .ok (.ireturn, 1) := by decide +kernel
def fX11_isSheet_b3 : Nat → Int32 → Int32 → Int32 → Int32 → mS → Option (Int32 × mS)
  | 0, _, _, _, _, _ => none
  | k + 1, y1, y2, y3, y4, s =>
    if 3 ≤ y4 then
      some (1, s)
    else
      ldA s aX_many 6 y1 fun v2 =>
      if v2 ≤ y4 then
        some (1, s)
      else
        ldL s lX_items 360 ((60 * y1) + y4) fun v3 =>
        bP (fX11_showsOf y2 y3 y4 s) fun r4 s5 =>
        if (lg_cmp v3 (Int32.toInt64 r4)) = 0 then
          bnd (y4 + 1) fun v6 =>
          fX11_isSheet_b3 k y1 y2 y3 v6 s5
        else
          some (0, s5)

def fX11_isSheet (x1 : Int32) (x2 : Int32) (x3 : Int32) (s : mS) : Option (Int32 × mS) :=
  bnd 0 fun v1 =>
  fX11_isSheet_b3 mFu x1 x2 x3 v1 s

set_option maxRecDepth 20000 in
theorem wX11_isSheet_b3 {ρ : mRo} {d : Nat} {P : mPo} {V : mS → List mE} (hV : mView LX V)  {res : (Int32 × mS)} (hP : P (some (.int res.1)) (V res.2)) : ∀ (k : Nat) (y1 : Int32) (y2 : Int32) (y3 : Int32) (y4 : Int32) (s : mS), fX11_isSheet_b3 k y1 y2 y3 y4 s = some res → mG ρ (mC ρ (d + 65)) 11 5 cX11_isSheet (some .boolean) P 3 [(0, .ref qX), (1, .int y1), (2, .int y2), (3, .int y3), (4, .int y4)] [] (V s) := by
  intro k
  induction k with
  | zero => intro y1 y2 y3 y4 s hf; rw [fX11_isSheet_b3] at hf; cases hf
  | succ k ih =>
    intro y1 y2 y3 y4 s hf
    rw [fX11_isSheet_b3] at hf
    refine e_iload 4 dX11_isSheet_3 rfl ?_
    refine e_iconst (w := 3) dX11_isSheet_5 (by decide) ?_
    refine e_icmp_ge 53 dX11_isSheet_6 (by decide) hf (fun hf => ?_) (fun hf => ?_)
    · refine e_iconst (w := 1) dX11_isSheet_53 (by decide) ?_
      obtain rfl := Option.some.inj hf
      exact e_iret dX11_isSheet_54 (Or.inr rfl) hP
    · refine e_iload 4 dX11_isSheet_9 rfl ?_
      refine e_aload_n 0 dX11_isSheet_11 rfl rfl ?_
      refine e_getr hV dX11_isSheet_12 rfl lx_X rfl ?_
      refine e_iload_n 1 dX11_isSheet_15 rfl rfl ?_
      refine e_iald hV dX11_isSheet_16 lx_X_many hf (fun v2 hf => ?_)
      refine e_icmp_ge 53 dX11_isSheet_17 (by decide) hf (fun hf => ?_) (fun hf => ?_)
      · refine e_iconst (w := 1) dX11_isSheet_53 (by decide) ?_
        obtain rfl := Option.some.inj hf
        exact e_iret dX11_isSheet_54 (Or.inr rfl) hP
      · refine e_aload_n 0 dX11_isSheet_20 rfl rfl ?_
        refine e_getr hV dX11_isSheet_21 rfl lx_X rfl ?_
        refine e_bipush (w := 60) dX11_isSheet_24 (by decide) ?_
        refine e_iload_n 1 dX11_isSheet_26 rfl rfl ?_
        refine e_imul dX11_isSheet_27 ?_
        refine e_iload 4 dX11_isSheet_28 rfl ?_
        refine e_iadd dX11_isSheet_30 ?_
        refine e_lald hV dX11_isSheet_31 lx_X_items hf (fun v3 hf => ?_)
        refine e_aload_n 0 dX11_isSheet_32 rfl rfl ?_
        refine e_iload_n 2 dX11_isSheet_33 rfl rfl ?_
        refine e_iload_n 3 dX11_isSheet_34 rfl rfl ?_
        refine e_iload 4 dX11_isSheet_35 rfl ?_
        obtain ⟨r4, s5, hg, hf⟩ := bP_some hf
        refine e_callV (as := [.int y2, .int y3, .int y4]) (v := (some (.int r4))) (s' := s5) hV dX11_isSheet_37 (Or.inl rfl) rfl rfl rfl rfl (Nat.le_of_ble_eq_true rfl) lx_X rfl rfl (fun Q hQ => tX11_showsOf (d := d) hV  hg hQ) ?_
        refine e_i2l dX11_isSheet_40 ?_
        refine e_lcmp dX11_isSheet_41 ?_
        refine e_if_eq 47 dX11_isSheet_42 (by decide) hf (fun hf => ?_) (fun hf => ?_)
        · refine e_iinc 4 dX11_isSheet_47 rfl rfl hf (fun v6 hf => ?_)
          refine e_goto 3 dX11_isSheet_50 (by decide) ?_
          refine e_pick [1, 2, 3, 4, 0] rfl ?_
          exact ih y1 y2 y3 v6 s5 hf
        · refine e_iconst (w := 0) dX11_isSheet_45 (by decide) ?_
          obtain rfl := Option.some.inj hf
          exact e_iret dX11_isSheet_46 (Or.inl rfl) hP
set_option maxRecDepth 20000 in
theorem tX11_isSheet {ρ : mRo} {d : Nat} {P : mPo} {V : mS → List mE} (hV : mView LX V)  {x1 : Int32} {x2 : Int32} {x3 : Int32} {s : mS} {res : (Int32 × mS)} (hf : fX11_isSheet x1 x2 x3 s = some res) (hP : P (some (.int res.1)) (V res.2)) : mC ρ (d + 66) 189 [.ref qX, .int x1, .int x2, .int x3] (V s) P := by
  refine ⟨_, rfl, Nat.le_of_ble_eq_true rfl, by decide, ?_⟩
  show mG ρ (mC ρ (d + 65)) 11 5 cX11_isSheet (some .boolean) P 0 [(0, .ref qX), (1, .int x1), (2, .int x2), (3, .int x3)] [] (V s)
  unfold fX11_isSheet at hf
  refine e_iconst (w := 0) dX11_isSheet_0 (by decide) ?_
  refine e_istore dX11_isSheet_1 (by decide) hf (fun v1 hf => ?_)
  refine e_pick [1, 2, 3, 4, 0] rfl ?_
  exact wX11_isSheet_b3 hV hP mFu x1 x2 x3 v1 s hf

theorem dX11_whose_0 : decode cX11_whose 0 = .ok (.aload_n 0, 1) := by decide +kernel
theorem dX11_whose_1 : decode cX11_whose 1 = .ok (.iload_n 1, 1) := by decide +kernel
theorem dX11_whose_2 : decode cX11_whose 2 = .ok (.iconst 0, 1) := by decide +kernel
theorem dX11_whose_3 : decode cX11_whose 3 = .ok (.invokevirtual 227, 3) := by decide +kernel
theorem dX11_whose_6 : decode cX11_whose 6 = .ok (.iconst (-1), 1) := by decide +kernel
theorem dX11_whose_7 : decode cX11_whose 7 = .ok (.if_icmp .eq 12, 3) := by decide +kernel
theorem dX11_whose_10 : decode cX11_whose 10 = .ok (.aload_n 0, 1) := by decide +kernel
theorem dX11_whose_11 : decode cX11_whose 11 = .ok (.iload_n 2, 1) := by decide +kernel
theorem dX11_whose_12 : decode cX11_whose 12 = .ok (.i2l, 1) := by decide +kernel
theorem dX11_whose_13 : decode cX11_whose 13 = .ok (.invokevirtual 104, 3) := by decide +kernel
theorem dX11_whose_16 : decode cX11_whose 16 = .ok (.ifCond .ne 5, 3) := by decide +kernel
theorem dX11_whose_19 : decode cX11_whose 19 = .ok (.iconst (-1), 1) := by decide +kernel
theorem dX11_whose_20 : decode cX11_whose 20 = .ok (.ireturn, 1) := by decide +kernel
theorem dX11_whose_21 : decode cX11_whose 21 = .ok (.aload_n 0, 1) := by decide +kernel
theorem dX11_whose_22 : decode cX11_whose 22 = .ok (.iload_n 1, 1) := by decide +kernel
theorem dX11_whose_23 : decode cX11_whose 23 = .ok (.iconst 0, 1) := by decide +kernel
theorem dX11_whose_24 : decode cX11_whose 24 = .ok (.invokevirtual 227, 3) := by decide +kernel
theorem dX11_whose_27 : decode cX11_whose 27 = .ok (.ifCond .ge 10, 3) := by decide +kernel
theorem dX11_whose_30 : decode cX11_whose 30 = .ok (.aload_n 0, 1) := by decide +kernel
theorem dX11_whose_31 : decode cX11_whose 31 = .ok (.iload_n 1, 1) := by decide +kernel
theorem dX11_whose_32 : decode cX11_whose 32 = .ok (.iconst 0, 1) := by decide +kernel
theorem dX11_whose_33 : decode cX11_whose 33 = .ok (.invokevirtual 227, 3) := by decide +kernel
theorem dX11_whose_36 : decode cX11_whose 36 = .ok (.ireturn, 1) := by decide +kernel
theorem dX11_whose_37 : decode cX11_whose 37 = .ok (.aload_n 0, 1) := by decide +kernel
theorem dX11_whose_38 : decode cX11_whose 38 = .ok (.invokevirtual 217, 3) := by decide +kernel
theorem dX11_whose_41 : decode cX11_whose 41 = .ok (.iconst 0, 1) := by decide +kernel
theorem dX11_whose_42 : decode cX11_whose 42 = .ok (.istore_n 3, 1) := by decide +kernel
theorem dX11_whose_43 : decode cX11_whose 43 = .ok (.iconst 0, 1) := by decide +kernel
theorem dX11_whose_44 : decode cX11_whose 44 = .ok (.istore 4, 2) := by decide +kernel
theorem dX11_whose_46 : decode cX11_whose 46 = .ok (.iload 4, 2) := by decide +kernel
theorem dX11_whose_48 : decode cX11_whose 48 = .ok (.aload_n 0, 1) := by decide +kernel
theorem dX11_whose_49 : decode cX11_whose 49 = .ok (.getfield 97, 3) := by decide +kernel
theorem dX11_whose_52 : decode cX11_whose 52 = .ok (.if_icmp .ge 31, 3) := by decide +kernel
theorem dX11_whose_55 : decode cX11_whose 55 = .ok (.iload_n 3, 1) := by decide +kernel
theorem dX11_whose_56 : decode cX11_whose 56 = .ok (.aload_n 0, 1) := by decide +kernel
theorem dX11_whose_57 : decode cX11_whose 57 = .ok (.iload_n 1, 1) := by decide +kernel
theorem dX11_whose_58 : decode cX11_whose 58 = .ok (.iload 4, 2) := by decide +kernel
theorem dX11_whose_60 : decode cX11_whose 60 = .ok (.iload_n 2, 1) := by decide +kernel
theorem dX11_whose_61 : decode cX11_whose 61 = .ok (.invokevirtual 248, 3) := by decide +kernel
theorem dX11_whose_64 : decode cX11_whose 64 = .ok (.ifCond .eq 10, 3) := by decide +kernel
theorem dX11_whose_67 : decode cX11_whose 67 = .ok (.iconst 1, 1) := by decide +kernel
theorem dX11_whose_68 : decode cX11_whose 68 = .ok (.iload 4, 2) := by decide +kernel
theorem dX11_whose_70 : decode cX11_whose 70 = .ok (.ishl, 1) := by decide +kernel
theorem dX11_whose_71 : decode cX11_whose 71 = .ok (.goto 4, 3) := by decide +kernel
theorem dX11_whose_74 : decode cX11_whose 74 = .ok (.iconst 0, 1) := by decide +kernel
theorem dX11_whose_75 : decode cX11_whose 75 = .ok (.ior, 1) := by decide +kernel
theorem dX11_whose_76 : decode cX11_whose 76 = .ok (.istore_n 3, 1) := by decide +kernel
theorem dX11_whose_77 : decode cX11_whose 77 = .ok (.iinc 4 1, 3) := by decide +kernel
theorem dX11_whose_80 : decode cX11_whose 80 = .ok (.goto (-34), 3) := by decide +kernel
theorem dX11_whose_83 : decode cX11_whose 83 = .ok (.iload_n 3, 1) := by decide +kernel
theorem dX11_whose_84 : decode cX11_whose 84 = .ok (.ireturn, 1) := by decide +kernel
def fX11_whose_b75 (K46 : Int32 → Int32 → Int32 → Int32 → mS → Option (Int32 × mS)) (y1 : Int32) (y2 : Int32) (y4 : Int32) (z0 : Int32) (z1 : Int32) (s : mS) : Option (Int32 × mS) :=
  bnd (z1 ||| z0) fun v9 =>
  bnd (y4 + 1) fun v10 =>
  K46 y1 y2 v9 v10 s

def fX11_whose_b46 : Nat → Int32 → Int32 → Int32 → Int32 → mS → Option (Int32 × mS)
  | 0, _, _, _, _, _ => none
  | k + 1, y1, y2, y3, y4, s =>
    if (gI s iX_writers) ≤ y4 then
      some (y3, s)
    else
      bP (fX11_isSheet y1 y4 y2 s) fun r7 s8 =>
      if r7 = 0 then
        fX11_whose_b75 (fun u0 u1 u2 u3 u4 => fX11_whose_b46 k u0 u1 u2 u3 u4) y1 y2 y4 0 y3 s8
      else
        fX11_whose_b75 (fun u0 u1 u2 u3 u4 => fX11_whose_b46 k u0 u1 u2 u3 u4) y1 y2 y4 ((1 : Int32) <<< (y4 &&& 31)) y3 s8

def fX11_whose (x1 : Int32) (x2 : Int32) (s : mS) : Option (Int32 × mS) :=
  bO (fX11_rowIs x1 0 s) fun r1 =>
  if r1 = (-1) then
    some ((-1), s)
  else
    bO (fX11_isMachine (Int32.toInt64 x2) s) fun r2 =>
    if r2 = 0 then
      some ((-1), s)
    else
      bO (fX11_rowIs x1 0 s) fun r3 =>
      if 0 ≤ r3 then
        bO (fX11_begins s) fun s4 =>
        bnd 0 fun v5 =>
        bnd 0 fun v6 =>
        fX11_whose_b46 mFu x1 x2 v5 v6 s4
      else
        bO (fX11_rowIs x1 0 s) fun r11 =>
        some (r11, s)

set_option maxRecDepth 20000 in
theorem wX11_whose_b75 {ρ : mRo} {d : Nat} {P : mPo} {V : mS → List mE} (hV : mView LX V)  {res : (Int32 × mS)} {K46 : Int32 → Int32 → Int32 → Int32 → mS → Option (Int32 × mS)} (hK46 : ∀ (y1 : Int32) (y2 : Int32) (y3 : Int32) (y4 : Int32) (s : mS), K46 y1 y2 y3 y4 s = some res → mG ρ (mC ρ (d + 66)) 11 5 cX11_whose (some .int) P 46 [(0, .ref qX), (1, .int y1), (2, .int y2), (3, .int y3), (4, .int y4)] [] (V s)) (hP : P (some (.int res.1)) (V res.2)) (y1 : Int32) (y2 : Int32) (y4 : Int32) (z0 : Int32) (z1 : Int32) (s : mS) (hf : fX11_whose_b75 K46 y1 y2 y4 z0 z1 s = some res) : mG ρ (mC ρ (d + 66)) 11 5 cX11_whose (some .int) P 75 [(0, .ref qX), (1, .int y1), (2, .int y2), (4, .int y4)] [.int z0, .int z1] (V s) := by
  unfold fX11_whose_b75 at hf
  refine e_ior dX11_whose_75 ?_
  refine e_istore_n dX11_whose_76 rfl (by decide) hf (fun v9 hf => ?_)
  refine e_iinc 4 dX11_whose_77 rfl rfl hf (fun v10 hf => ?_)
  refine e_goto 46 dX11_whose_80 (by decide) ?_
  refine e_pick [2, 3, 4, 1, 0] rfl ?_
  exact hK46 y1 y2 v9 v10 s hf
set_option maxRecDepth 20000 in
theorem wX11_whose_b46 {ρ : mRo} {d : Nat} {P : mPo} {V : mS → List mE} (hV : mView LX V)  {res : (Int32 × mS)} (hP : P (some (.int res.1)) (V res.2)) : ∀ (k : Nat) (y1 : Int32) (y2 : Int32) (y3 : Int32) (y4 : Int32) (s : mS), fX11_whose_b46 k y1 y2 y3 y4 s = some res → mG ρ (mC ρ (d + 66)) 11 5 cX11_whose (some .int) P 46 [(0, .ref qX), (1, .int y1), (2, .int y2), (3, .int y3), (4, .int y4)] [] (V s) := by
  intro k
  induction k with
  | zero => intro y1 y2 y3 y4 s hf; rw [fX11_whose_b46] at hf; cases hf
  | succ k ih =>
    intro y1 y2 y3 y4 s hf
    rw [fX11_whose_b46] at hf
    refine e_iload 4 dX11_whose_46 rfl ?_
    refine e_aload_n 0 dX11_whose_48 rfl rfl ?_
    refine e_geti hV dX11_whose_49 rfl lx_X rfl ?_
    refine e_icmp_ge 83 dX11_whose_52 (by decide) hf (fun hf => ?_) (fun hf => ?_)
    · refine e_iload_n 3 dX11_whose_83 rfl rfl ?_
      obtain rfl := Option.some.inj hf
      exact e_iret dX11_whose_84 trivial hP
    · refine e_iload_n 3 dX11_whose_55 rfl rfl ?_
      refine e_aload_n 0 dX11_whose_56 rfl rfl ?_
      refine e_iload_n 1 dX11_whose_57 rfl rfl ?_
      refine e_iload 4 dX11_whose_58 rfl ?_
      refine e_iload_n 2 dX11_whose_60 rfl rfl ?_
      obtain ⟨r7, s8, hg, hf⟩ := bP_some hf
      refine e_callV (as := [.int y1, .int y4, .int y2]) (v := (some (.int r7))) (s' := s8) hV dX11_whose_61 (Or.inl rfl) rfl rfl rfl rfl (Nat.le_of_ble_eq_true rfl) lx_X rfl rfl (fun Q hQ => tX11_isSheet (d := d) hV  hg hQ) ?_
      refine e_if_eq 74 dX11_whose_64 (by decide) hf (fun hf => ?_) (fun hf => ?_)
      · refine e_iconst (w := 0) dX11_whose_74 (by decide) ?_
        refine e_pick [0, 1, 2, 4] rfl ?_
        exact wX11_whose_b75 hV ih hP y1 y2 y4 0 y3 s8 hf
      · refine e_iconst (w := 1) dX11_whose_67 (by decide) ?_
        refine e_iload 4 dX11_whose_68 rfl ?_
        refine e_ishl dX11_whose_70 ?_
        refine e_goto 75 dX11_whose_71 (by decide) ?_
        refine e_pick [0, 1, 2, 4] rfl ?_
        exact wX11_whose_b75 hV ih hP y1 y2 y4 ((1 : Int32) <<< (y4 &&& 31)) y3 s8 hf
set_option maxRecDepth 20000 in
theorem tX11_whose {ρ : mRo} {d : Nat} {P : mPo} {V : mS → List mE} (hV : mView LX V)  {x1 : Int32} {x2 : Int32} {s : mS} {res : (Int32 × mS)} (hf : fX11_whose x1 x2 s = some res) (hP : P (some (.int res.1)) (V res.2)) : mC ρ (d + 67) 190 [.ref qX, .int x1, .int x2] (V s) P := by
  refine ⟨_, rfl, Nat.le_of_ble_eq_true rfl, by decide, ?_⟩
  show mG ρ (mC ρ (d + 66)) 11 5 cX11_whose (some .int) P 0 [(0, .ref qX), (1, .int x1), (2, .int x2)] [] (V s)
  unfold fX11_whose at hf
  refine e_aload_n 0 dX11_whose_0 rfl rfl ?_
  refine e_iload_n 1 dX11_whose_1 rfl rfl ?_
  refine e_iconst (w := 0) dX11_whose_2 (by decide) ?_
  obtain ⟨r1, hg, hf⟩ := bO_some hf
  refine e_callV (as := [.int x1, .int 0]) (v := (some (.int r1))) (s' := s) hV dX11_whose_3 (Or.inl rfl) rfl rfl rfl rfl (Nat.le_of_ble_eq_true rfl) lx_X rfl rfl (fun Q hQ => tX11_rowIs (d := (d + 63)) hV  hg hQ) ?_
  refine e_iconst (w := (-1)) dX11_whose_6 (by decide) ?_
  refine e_icmp_eq 19 dX11_whose_7 (by decide) hf (fun hf => ?_) (fun hf => ?_)
  · refine e_iconst (w := (-1)) dX11_whose_19 (by decide) ?_
    obtain rfl := Option.some.inj hf
    exact e_iret dX11_whose_20 trivial hP
  · refine e_aload_n 0 dX11_whose_10 rfl rfl ?_
    refine e_iload_n 2 dX11_whose_11 rfl rfl ?_
    refine e_i2l dX11_whose_12 ?_
    obtain ⟨r2, hg, hf⟩ := bO_some hf
    refine e_callV (as := [.long (Int32.toInt64 x2)]) (v := (some (.int r2))) (s' := s) hV dX11_whose_13 (Or.inl rfl) rfl rfl rfl rfl (Nat.le_of_ble_eq_true rfl) lx_X rfl rfl (fun Q hQ => tX11_isMachine (d := (d + 64)) hV  hg hQ) ?_
    refine e_if_ne 21 dX11_whose_16 (by decide) hf (fun hf => ?_) (fun hf => ?_)
    · refine e_aload_n 0 dX11_whose_21 rfl rfl ?_
      refine e_iload_n 1 dX11_whose_22 rfl rfl ?_
      refine e_iconst (w := 0) dX11_whose_23 (by decide) ?_
      obtain ⟨r3, hg, hf⟩ := bO_some hf
      refine e_callV (as := [.int x1, .int 0]) (v := (some (.int r3))) (s' := s) hV dX11_whose_24 (Or.inl rfl) rfl rfl rfl rfl (Nat.le_of_ble_eq_true rfl) lx_X rfl rfl (fun Q hQ => tX11_rowIs (d := (d + 63)) hV  hg hQ) ?_
      refine e_if_ge 37 dX11_whose_27 (by decide) hf (fun hf => ?_) (fun hf => ?_)
      · refine e_aload_n 0 dX11_whose_37 rfl rfl ?_
        obtain ⟨s4, hg, hf⟩ := bO_some hf
        refine e_callV (as := []) (v := none) (s' := s4) hV dX11_whose_38 (Or.inl rfl) rfl rfl rfl rfl (Nat.le_of_ble_eq_true rfl) lx_X rfl rfl (fun Q hQ => tX11_begins (d := (d + 65)) hV  hg hQ) ?_
        refine e_iconst (w := 0) dX11_whose_41 (by decide) ?_
        refine e_istore_n dX11_whose_42 rfl (by decide) hf (fun v5 hf => ?_)
        refine e_iconst (w := 0) dX11_whose_43 (by decide) ?_
        refine e_istore dX11_whose_44 (by decide) hf (fun v6 hf => ?_)
        refine e_pick [2, 3, 4, 1, 0] rfl ?_
        exact wX11_whose_b46 hV hP mFu x1 x2 v5 v6 s4 hf
      · refine e_aload_n 0 dX11_whose_30 rfl rfl ?_
        refine e_iload_n 1 dX11_whose_31 rfl rfl ?_
        refine e_iconst (w := 0) dX11_whose_32 (by decide) ?_
        obtain ⟨r11, hg, hf⟩ := bO_some hf
        refine e_callV (as := [.int x1, .int 0]) (v := (some (.int r11))) (s' := s) hV dX11_whose_33 (Or.inl rfl) rfl rfl rfl rfl (Nat.le_of_ble_eq_true rfl) lx_X rfl rfl (fun Q hQ => tX11_rowIs (d := (d + 63)) hV  hg hQ) ?_
        obtain rfl := Option.some.inj hf
        exact e_iret dX11_whose_36 trivial hP
    · refine e_iconst (w := (-1)) dX11_whose_19 (by decide) ?_
      obtain rfl := Option.some.inj hf
      exact e_iret dX11_whose_20 trivial hP

theorem dX11_where_0 : decode cX11_where 0 = .ok (.aload_n 0, 1) := by decide +kernel
theorem dX11_where_1 : decode cX11_where 1 = .ok (.iload_n 1, 1) := by decide +kernel
theorem dX11_where_2 : decode cX11_where 2 = .ok (.iconst 0, 1) := by decide +kernel
theorem dX11_where_3 : decode cX11_where 3 = .ok (.invokevirtual 227, 3) := by decide +kernel
theorem dX11_where_6 : decode cX11_where 6 = .ok (.iconst (-1), 1) := by decide +kernel
theorem dX11_where_7 : decode cX11_where 7 = .ok (.if_icmp .eq 12, 3) := by decide +kernel
theorem dX11_where_10 : decode cX11_where 10 = .ok (.aload_n 0, 1) := by decide +kernel
theorem dX11_where_11 : decode cX11_where 11 = .ok (.iload_n 2, 1) := by decide +kernel
theorem dX11_where_12 : decode cX11_where 12 = .ok (.i2l, 1) := by decide +kernel
theorem dX11_where_13 : decode cX11_where 13 = .ok (.invokevirtual 100, 3) := by decide +kernel
theorem dX11_where_16 : decode cX11_where 16 = .ok (.ifCond .ne 5, 3) := by decide +kernel
theorem dX11_where_19 : decode cX11_where 19 = .ok (.iconst (-1), 1) := by decide +kernel
theorem dX11_where_20 : decode cX11_where 20 = .ok (.ireturn, 1) := by decide +kernel
theorem dX11_where_21 : decode cX11_where 21 = .ok (.aload_n 0, 1) := by decide +kernel
theorem dX11_where_22 : decode cX11_where 22 = .ok (.iload_n 1, 1) := by decide +kernel
theorem dX11_where_23 : decode cX11_where 23 = .ok (.iconst 0, 1) := by decide +kernel
theorem dX11_where_24 : decode cX11_where 24 = .ok (.invokevirtual 227, 3) := by decide +kernel
theorem dX11_where_27 : decode cX11_where 27 = .ok (.ifCond .ge 10, 3) := by decide +kernel
theorem dX11_where_30 : decode cX11_where 30 = .ok (.aload_n 0, 1) := by decide +kernel
theorem dX11_where_31 : decode cX11_where 31 = .ok (.iload_n 1, 1) := by decide +kernel
theorem dX11_where_32 : decode cX11_where 32 = .ok (.iconst 0, 1) := by decide +kernel
theorem dX11_where_33 : decode cX11_where 33 = .ok (.invokevirtual 227, 3) := by decide +kernel
theorem dX11_where_36 : decode cX11_where 36 = .ok (.ireturn, 1) := by decide +kernel
theorem dX11_where_37 : decode cX11_where 37 = .ok (.aload_n 0, 1) := by decide +kernel
theorem dX11_where_38 : decode cX11_where 38 = .ok (.invokevirtual 217, 3) := by decide +kernel
theorem dX11_where_41 : decode cX11_where 41 = .ok (.iconst 0, 1) := by decide +kernel
theorem dX11_where_42 : decode cX11_where 42 = .ok (.istore_n 3, 1) := by decide +kernel
theorem dX11_where_43 : decode cX11_where 43 = .ok (.iconst 0, 1) := by decide +kernel
theorem dX11_where_44 : decode cX11_where 44 = .ok (.istore 4, 2) := by decide +kernel
theorem dX11_where_46 : decode cX11_where 46 = .ok (.iload 4, 2) := by decide +kernel
theorem dX11_where_48 : decode cX11_where 48 = .ok (.aload_n 0, 1) := by decide +kernel
theorem dX11_where_49 : decode cX11_where 49 = .ok (.getfield 90, 3) := by decide +kernel
theorem dX11_where_52 : decode cX11_where 52 = .ok (.if_icmp .ge 31, 3) := by decide +kernel
theorem dX11_where_55 : decode cX11_where 55 = .ok (.iload_n 3, 1) := by decide +kernel
theorem dX11_where_56 : decode cX11_where 56 = .ok (.aload_n 0, 1) := by decide +kernel
theorem dX11_where_57 : decode cX11_where 57 = .ok (.iload_n 1, 1) := by decide +kernel
theorem dX11_where_58 : decode cX11_where 58 = .ok (.iload_n 2, 1) := by decide +kernel
theorem dX11_where_59 : decode cX11_where 59 = .ok (.iload 4, 2) := by decide +kernel
theorem dX11_where_61 : decode cX11_where 61 = .ok (.invokevirtual 248, 3) := by decide +kernel
theorem dX11_where_64 : decode cX11_where 64 = .ok (.ifCond .eq 10, 3) := by decide +kernel
theorem dX11_where_67 : decode cX11_where 67 = .ok (.iconst 1, 1) := by decide +kernel
theorem dX11_where_68 : decode cX11_where 68 = .ok (.iload 4, 2) := by decide +kernel
theorem dX11_where_70 : decode cX11_where 70 = .ok (.ishl, 1) := by decide +kernel
theorem dX11_where_71 : decode cX11_where 71 = .ok (.goto 4, 3) := by decide +kernel
theorem dX11_where_74 : decode cX11_where 74 = .ok (.iconst 0, 1) := by decide +kernel
theorem dX11_where_75 : decode cX11_where 75 = .ok (.ior, 1) := by decide +kernel
theorem dX11_where_76 : decode cX11_where 76 = .ok (.istore_n 3, 1) := by decide +kernel
theorem dX11_where_77 : decode cX11_where 77 = .ok (.iinc 4 1, 3) := by decide +kernel
theorem dX11_where_80 : decode cX11_where 80 = .ok (.goto (-34), 3) := by decide +kernel
theorem dX11_where_83 : decode cX11_where 83 = .ok (.iload_n 3, 1) := by decide +kernel
theorem dX11_where_84 : decode cX11_where 84 = .ok (.ireturn, 1) := by decide +kernel
def fX11_where_b75 (K46 : Int32 → Int32 → Int32 → Int32 → mS → Option (Int32 × mS)) (y1 : Int32) (y2 : Int32) (y4 : Int32) (z0 : Int32) (z1 : Int32) (s : mS) : Option (Int32 × mS) :=
  bnd (z1 ||| z0) fun v9 =>
  bnd (y4 + 1) fun v10 =>
  K46 y1 y2 v9 v10 s

def fX11_where_b46 : Nat → Int32 → Int32 → Int32 → Int32 → mS → Option (Int32 × mS)
  | 0, _, _, _, _, _ => none
  | k + 1, y1, y2, y3, y4, s =>
    if (gI s iX_machines) ≤ y4 then
      some (y3, s)
    else
      bP (fX11_isSheet y1 y2 y4 s) fun r7 s8 =>
      if r7 = 0 then
        fX11_where_b75 (fun u0 u1 u2 u3 u4 => fX11_where_b46 k u0 u1 u2 u3 u4) y1 y2 y4 0 y3 s8
      else
        fX11_where_b75 (fun u0 u1 u2 u3 u4 => fX11_where_b46 k u0 u1 u2 u3 u4) y1 y2 y4 ((1 : Int32) <<< (y4 &&& 31)) y3 s8

def fX11_where (x1 : Int32) (x2 : Int32) (s : mS) : Option (Int32 × mS) :=
  bO (fX11_rowIs x1 0 s) fun r1 =>
  if r1 = (-1) then
    some ((-1), s)
  else
    bO (fX11_isWriter (Int32.toInt64 x2) s) fun r2 =>
    if r2 = 0 then
      some ((-1), s)
    else
      bO (fX11_rowIs x1 0 s) fun r3 =>
      if 0 ≤ r3 then
        bO (fX11_begins s) fun s4 =>
        bnd 0 fun v5 =>
        bnd 0 fun v6 =>
        fX11_where_b46 mFu x1 x2 v5 v6 s4
      else
        bO (fX11_rowIs x1 0 s) fun r11 =>
        some (r11, s)

set_option maxRecDepth 20000 in
theorem wX11_where_b75 {ρ : mRo} {d : Nat} {P : mPo} {V : mS → List mE} (hV : mView LX V)  {res : (Int32 × mS)} {K46 : Int32 → Int32 → Int32 → Int32 → mS → Option (Int32 × mS)} (hK46 : ∀ (y1 : Int32) (y2 : Int32) (y3 : Int32) (y4 : Int32) (s : mS), K46 y1 y2 y3 y4 s = some res → mG ρ (mC ρ (d + 66)) 11 5 cX11_where (some .int) P 46 [(0, .ref qX), (1, .int y1), (2, .int y2), (3, .int y3), (4, .int y4)] [] (V s)) (hP : P (some (.int res.1)) (V res.2)) (y1 : Int32) (y2 : Int32) (y4 : Int32) (z0 : Int32) (z1 : Int32) (s : mS) (hf : fX11_where_b75 K46 y1 y2 y4 z0 z1 s = some res) : mG ρ (mC ρ (d + 66)) 11 5 cX11_where (some .int) P 75 [(0, .ref qX), (1, .int y1), (2, .int y2), (4, .int y4)] [.int z0, .int z1] (V s) := by
  unfold fX11_where_b75 at hf
  refine e_ior dX11_where_75 ?_
  refine e_istore_n dX11_where_76 rfl (by decide) hf (fun v9 hf => ?_)
  refine e_iinc 4 dX11_where_77 rfl rfl hf (fun v10 hf => ?_)
  refine e_goto 46 dX11_where_80 (by decide) ?_
  refine e_pick [2, 3, 4, 1, 0] rfl ?_
  exact hK46 y1 y2 v9 v10 s hf
set_option maxRecDepth 20000 in
theorem wX11_where_b46 {ρ : mRo} {d : Nat} {P : mPo} {V : mS → List mE} (hV : mView LX V)  {res : (Int32 × mS)} (hP : P (some (.int res.1)) (V res.2)) : ∀ (k : Nat) (y1 : Int32) (y2 : Int32) (y3 : Int32) (y4 : Int32) (s : mS), fX11_where_b46 k y1 y2 y3 y4 s = some res → mG ρ (mC ρ (d + 66)) 11 5 cX11_where (some .int) P 46 [(0, .ref qX), (1, .int y1), (2, .int y2), (3, .int y3), (4, .int y4)] [] (V s) := by
  intro k
  induction k with
  | zero => intro y1 y2 y3 y4 s hf; rw [fX11_where_b46] at hf; cases hf
  | succ k ih =>
    intro y1 y2 y3 y4 s hf
    rw [fX11_where_b46] at hf
    refine e_iload 4 dX11_where_46 rfl ?_
    refine e_aload_n 0 dX11_where_48 rfl rfl ?_
    refine e_geti hV dX11_where_49 rfl lx_X rfl ?_
    refine e_icmp_ge 83 dX11_where_52 (by decide) hf (fun hf => ?_) (fun hf => ?_)
    · refine e_iload_n 3 dX11_where_83 rfl rfl ?_
      obtain rfl := Option.some.inj hf
      exact e_iret dX11_where_84 trivial hP
    · refine e_iload_n 3 dX11_where_55 rfl rfl ?_
      refine e_aload_n 0 dX11_where_56 rfl rfl ?_
      refine e_iload_n 1 dX11_where_57 rfl rfl ?_
      refine e_iload_n 2 dX11_where_58 rfl rfl ?_
      refine e_iload 4 dX11_where_59 rfl ?_
      obtain ⟨r7, s8, hg, hf⟩ := bP_some hf
      refine e_callV (as := [.int y1, .int y2, .int y4]) (v := (some (.int r7))) (s' := s8) hV dX11_where_61 (Or.inl rfl) rfl rfl rfl rfl (Nat.le_of_ble_eq_true rfl) lx_X rfl rfl (fun Q hQ => tX11_isSheet (d := d) hV  hg hQ) ?_
      refine e_if_eq 74 dX11_where_64 (by decide) hf (fun hf => ?_) (fun hf => ?_)
      · refine e_iconst (w := 0) dX11_where_74 (by decide) ?_
        refine e_pick [0, 1, 2, 4] rfl ?_
        exact wX11_where_b75 hV ih hP y1 y2 y4 0 y3 s8 hf
      · refine e_iconst (w := 1) dX11_where_67 (by decide) ?_
        refine e_iload 4 dX11_where_68 rfl ?_
        refine e_ishl dX11_where_70 ?_
        refine e_goto 75 dX11_where_71 (by decide) ?_
        refine e_pick [0, 1, 2, 4] rfl ?_
        exact wX11_where_b75 hV ih hP y1 y2 y4 ((1 : Int32) <<< (y4 &&& 31)) y3 s8 hf
set_option maxRecDepth 20000 in
theorem tX11_where {ρ : mRo} {d : Nat} {P : mPo} {V : mS → List mE} (hV : mView LX V)  {x1 : Int32} {x2 : Int32} {s : mS} {res : (Int32 × mS)} (hf : fX11_where x1 x2 s = some res) (hP : P (some (.int res.1)) (V res.2)) : mC ρ (d + 67) 191 [.ref qX, .int x1, .int x2] (V s) P := by
  refine ⟨_, rfl, Nat.le_of_ble_eq_true rfl, by decide, ?_⟩
  show mG ρ (mC ρ (d + 66)) 11 5 cX11_where (some .int) P 0 [(0, .ref qX), (1, .int x1), (2, .int x2)] [] (V s)
  unfold fX11_where at hf
  refine e_aload_n 0 dX11_where_0 rfl rfl ?_
  refine e_iload_n 1 dX11_where_1 rfl rfl ?_
  refine e_iconst (w := 0) dX11_where_2 (by decide) ?_
  obtain ⟨r1, hg, hf⟩ := bO_some hf
  refine e_callV (as := [.int x1, .int 0]) (v := (some (.int r1))) (s' := s) hV dX11_where_3 (Or.inl rfl) rfl rfl rfl rfl (Nat.le_of_ble_eq_true rfl) lx_X rfl rfl (fun Q hQ => tX11_rowIs (d := (d + 63)) hV  hg hQ) ?_
  refine e_iconst (w := (-1)) dX11_where_6 (by decide) ?_
  refine e_icmp_eq 19 dX11_where_7 (by decide) hf (fun hf => ?_) (fun hf => ?_)
  · refine e_iconst (w := (-1)) dX11_where_19 (by decide) ?_
    obtain rfl := Option.some.inj hf
    exact e_iret dX11_where_20 trivial hP
  · refine e_aload_n 0 dX11_where_10 rfl rfl ?_
    refine e_iload_n 2 dX11_where_11 rfl rfl ?_
    refine e_i2l dX11_where_12 ?_
    obtain ⟨r2, hg, hf⟩ := bO_some hf
    refine e_callV (as := [.long (Int32.toInt64 x2)]) (v := (some (.int r2))) (s' := s) hV dX11_where_13 (Or.inl rfl) rfl rfl rfl rfl (Nat.le_of_ble_eq_true rfl) lx_X rfl rfl (fun Q hQ => tX11_isWriter (d := (d + 64)) hV  hg hQ) ?_
    refine e_if_ne 21 dX11_where_16 (by decide) hf (fun hf => ?_) (fun hf => ?_)
    · refine e_aload_n 0 dX11_where_21 rfl rfl ?_
      refine e_iload_n 1 dX11_where_22 rfl rfl ?_
      refine e_iconst (w := 0) dX11_where_23 (by decide) ?_
      obtain ⟨r3, hg, hf⟩ := bO_some hf
      refine e_callV (as := [.int x1, .int 0]) (v := (some (.int r3))) (s' := s) hV dX11_where_24 (Or.inl rfl) rfl rfl rfl rfl (Nat.le_of_ble_eq_true rfl) lx_X rfl rfl (fun Q hQ => tX11_rowIs (d := (d + 63)) hV  hg hQ) ?_
      refine e_if_ge 37 dX11_where_27 (by decide) hf (fun hf => ?_) (fun hf => ?_)
      · refine e_aload_n 0 dX11_where_37 rfl rfl ?_
        obtain ⟨s4, hg, hf⟩ := bO_some hf
        refine e_callV (as := []) (v := none) (s' := s4) hV dX11_where_38 (Or.inl rfl) rfl rfl rfl rfl (Nat.le_of_ble_eq_true rfl) lx_X rfl rfl (fun Q hQ => tX11_begins (d := (d + 65)) hV  hg hQ) ?_
        refine e_iconst (w := 0) dX11_where_41 (by decide) ?_
        refine e_istore_n dX11_where_42 rfl (by decide) hf (fun v5 hf => ?_)
        refine e_iconst (w := 0) dX11_where_43 (by decide) ?_
        refine e_istore dX11_where_44 (by decide) hf (fun v6 hf => ?_)
        refine e_pick [2, 3, 4, 1, 0] rfl ?_
        exact wX11_where_b46 hV hP mFu x1 x2 v5 v6 s4 hf
      · refine e_aload_n 0 dX11_where_30 rfl rfl ?_
        refine e_iload_n 1 dX11_where_31 rfl rfl ?_
        refine e_iconst (w := 0) dX11_where_32 (by decide) ?_
        obtain ⟨r11, hg, hf⟩ := bO_some hf
        refine e_callV (as := [.int x1, .int 0]) (v := (some (.int r11))) (s' := s) hV dX11_where_33 (Or.inl rfl) rfl rfl rfl rfl (Nat.le_of_ble_eq_true rfl) lx_X rfl rfl (fun Q hQ => tX11_rowIs (d := (d + 63)) hV  hg hQ) ?_
        obtain rfl := Option.some.inj hf
        exact e_iret dX11_where_36 trivial hP
    · refine e_iconst (w := (-1)) dX11_where_19 (by decide) ?_
      obtain rfl := Option.some.inj hf
      exact e_iret dX11_where_20 trivial hP

theorem dX11_pairs_0 : decode cX11_pairs 0 = .ok (.aload_n 0, 1) := by decide +kernel
theorem dX11_pairs_1 : decode cX11_pairs 1 = .ok (.iload_n 1, 1) := by decide +kernel
theorem dX11_pairs_2 : decode cX11_pairs 2 = .ok (.iconst 0, 1) := by decide +kernel
theorem dX11_pairs_3 : decode cX11_pairs 3 = .ok (.invokevirtual 227, 3) := by decide +kernel
theorem dX11_pairs_6 : decode cX11_pairs 6 = .ok (.iconst (-1), 1) := by decide +kernel
theorem dX11_pairs_7 : decode cX11_pairs 7 = .ok (.if_icmp .eq 13, 3) := by decide +kernel
theorem dX11_pairs_10 : decode cX11_pairs 10 = .ok (.iload_n 2, 1) := by decide +kernel
theorem dX11_pairs_11 : decode cX11_pairs 11 = .ok (.i2l, 1) := by decide +kernel
theorem dX11_pairs_12 : decode cX11_pairs 12 = .ok (.lconst 0, 1) := by decide +kernel
theorem dX11_pairs_13 : decode cX11_pairs 13 = .ok (.lconst 1, 1) := by decide +kernel
theorem dX11_pairs_14 : decode cX11_pairs 14 = .ok (.invokestatic 93, 3) := by decide +kernel
theorem dX11_pairs_17 : decode cX11_pairs 17 = .ok (.ifCond .ne 5, 3) := by decide +kernel
theorem dX11_pairs_20 : decode cX11_pairs 20 = .ok (.iconst (-1), 1) := by decide +kernel
theorem dX11_pairs_21 : decode cX11_pairs 21 = .ok (.ireturn, 1) := by decide +kernel
theorem dX11_pairs_22 : decode cX11_pairs 22 = .ok (.aload_n 0, 1) := by decide +kernel
theorem dX11_pairs_23 : decode cX11_pairs 23 = .ok (.iload_n 1, 1) := by decide +kernel
theorem dX11_pairs_24 : decode cX11_pairs 24 = .ok (.iconst 0, 1) := by decide +kernel
theorem dX11_pairs_25 : decode cX11_pairs 25 = .ok (.invokevirtual 227, 3) := by decide +kernel
theorem dX11_pairs_28 : decode cX11_pairs 28 = .ok (.ifCond .ge 10, 3) := by decide +kernel
theorem dX11_pairs_31 : decode cX11_pairs 31 = .ok (.aload_n 0, 1) := by decide +kernel
theorem dX11_pairs_32 : decode cX11_pairs 32 = .ok (.iload_n 1, 1) := by decide +kernel
theorem dX11_pairs_33 : decode cX11_pairs 33 = .ok (.iconst 0, 1) := by decide +kernel
theorem dX11_pairs_34 : decode cX11_pairs 34 = .ok (.invokevirtual 227, 3) := by decide +kernel
theorem dX11_pairs_37 : decode cX11_pairs 37 = .ok (.ireturn, 1) := by decide +kernel
theorem dX11_pairs_38 : decode cX11_pairs 38 = .ok (.aload_n 0, 1) := by decide +kernel
theorem dX11_pairs_39 : decode cX11_pairs 39 = .ok (.invokevirtual 217, 3) := by decide +kernel
theorem dX11_pairs_42 : decode cX11_pairs 42 = .ok (.iconst 0, 1) := by decide +kernel
theorem dX11_pairs_43 : decode cX11_pairs 43 = .ok (.istore_n 3, 1) := by decide +kernel
theorem dX11_pairs_44 : decode cX11_pairs 44 = .ok (.iconst 0, 1) := by decide +kernel
theorem dX11_pairs_45 : decode cX11_pairs 45 = .ok (.istore 4, 2) := by decide +kernel
theorem dX11_pairs_47 : decode cX11_pairs 47 = .ok (.bipush (-2), 2) := by decide +kernel
theorem dX11_pairs_49 : decode cX11_pairs 49 = .ok (.istore 5, 2) := by decide +kernel
theorem dX11_pairs_51 : decode cX11_pairs 51 = .ok (.iconst 0, 1) := by decide +kernel
theorem dX11_pairs_52 : decode cX11_pairs 52 = .ok (.istore 6, 2) := by decide +kernel
theorem dX11_pairs_54 : decode cX11_pairs 54 = .ok (.iload 6, 2) := by decide +kernel
theorem dX11_pairs_56 : decode cX11_pairs 56 = .ok (.aload_n 0, 1) := by decide +kernel
theorem dX11_pairs_57 : decode cX11_pairs 57 = .ok (.getfield 97, 3) := by decide +kernel
theorem dX11_pairs_60 : decode cX11_pairs 60 = .ok (.if_icmp .ge 86, 3) := by decide +kernel
theorem dX11_pairs_63 : decode cX11_pairs 63 = .ok (.iconst 0, 1) := by decide +kernel
theorem dX11_pairs_64 : decode cX11_pairs 64 = .ok (.istore 7, 2) := by decide +kernel
theorem dX11_pairs_66 : decode cX11_pairs 66 = .ok (.iconst 0, 1) := by decide +kernel
theorem dX11_pairs_67 : decode cX11_pairs 67 = .ok (.istore 8, 2) := by decide +kernel
theorem dX11_pairs_69 : decode cX11_pairs 69 = .ok (.iload 8, 2) := by decide +kernel
theorem dX11_pairs_71 : decode cX11_pairs 71 = .ok (.aload_n 0, 1) := by decide +kernel
theorem dX11_pairs_72 : decode cX11_pairs 72 = .ok (.getfield 90, 3) := by decide +kernel
theorem dX11_pairs_75 : decode cX11_pairs 75 = .ok (.if_icmp .ge 31, 3) := by decide +kernel
theorem dX11_pairs_78 : decode cX11_pairs 78 = .ok (.iload 7, 2) := by decide +kernel
theorem dX11_pairs_80 : decode cX11_pairs 80 = .ok (.aload_n 0, 1) := by decide +kernel
theorem dX11_pairs_81 : decode cX11_pairs 81 = .ok (.iload_n 1, 1) := by decide +kernel
theorem dX11_pairs_82 : decode cX11_pairs 82 = .ok (.iload 6, 2) := by decide +kernel
theorem dX11_pairs_84 : decode cX11_pairs 84 = .ok (.iload 8, 2) := by decide +kernel
theorem dX11_pairs_86 : decode cX11_pairs 86 = .ok (.invokevirtual 248, 3) := by decide +kernel
theorem dX11_pairs_89 : decode cX11_pairs 89 = .ok (.ifCond .eq 7, 3) := by decide +kernel
theorem dX11_pairs_92 : decode cX11_pairs 92 = .ok (.iconst 1, 1) := by decide +kernel
theorem dX11_pairs_93 : decode cX11_pairs 93 = .ok (.goto 4, 3) := by decide +kernel
theorem dX11_pairs_96 : decode cX11_pairs 96 = .ok (.iconst 0, 1) := by decide +kernel
theorem dX11_pairs_97 : decode cX11_pairs 97 = .ok (.iadd, 1) := by decide +kernel
theorem dX11_pairs_98 : decode cX11_pairs 98 = .ok (.istore 7, 2) := by decide +kernel
theorem dX11_pairs_100 : decode cX11_pairs 100 = .ok (.iinc 8 1, 3) := by decide +kernel
theorem dX11_pairs_103 : decode cX11_pairs 103 = .ok (.goto (-34), 3) := by decide +kernel
theorem dX11_pairs_106 : decode cX11_pairs 106 = .ok (.iload_n 3, 1) := by decide +kernel
theorem dX11_pairs_107 : decode cX11_pairs 107 = .ok (.iload 7, 2) := by decide +kernel
theorem dX11_pairs_109 : decode cX11_pairs 109 = .ok (.iadd, 1) := by decide +kernel
theorem dX11_pairs_110 : decode cX11_pairs 110 = .ok (.istore_n 3, 1) := by decide +kernel
theorem dX11_pairs_111 : decode cX11_pairs 111 = .ok (.iload 4, 2) := by decide +kernel
theorem dX11_pairs_113 : decode cX11_pairs 113 = .ok (.iload 7, 2) := by decide +kernel
theorem dX11_pairs_115 : decode cX11_pairs 115 = .ok (.ifCond .le 7, 3) := by decide +kernel
theorem dX11_pairs_118 : decode cX11_pairs 118 = .ok (.iconst 1, 1) := by decide +kernel
theorem dX11_pairs_119 : decode cX11_pairs 119 = .ok (.goto 4, 3) := by decide +kernel
theorem dX11_pairs_122 : decode cX11_pairs 122 = .ok (.iconst 0, 1) := by decide +kernel
theorem dX11_pairs_123 : decode cX11_pairs 123 = .ok (.iadd, 1) := by decide +kernel
theorem dX11_pairs_124 : decode cX11_pairs 124 = .ok (.istore 4, 2) := by decide +kernel
theorem dX11_pairs_126 : decode cX11_pairs 126 = .ok (.iload 7, 2) := by decide +kernel
theorem dX11_pairs_128 : decode cX11_pairs 128 = .ok (.ifCond .le 8, 3) := by decide +kernel
theorem dX11_pairs_131 : decode cX11_pairs 131 = .ok (.iload 6, 2) := by decide +kernel
theorem dX11_pairs_133 : decode cX11_pairs 133 = .ok (.goto 5, 3) := by decide +kernel
theorem dX11_pairs_136 : decode cX11_pairs 136 = .ok (.iload 5, 2) := by decide +kernel
theorem dX11_pairs_138 : decode cX11_pairs 138 = .ok (.istore 5, 2) := by decide +kernel
theorem dX11_pairs_140 : decode cX11_pairs 140 = .ok (.iinc 6 1, 3) := by decide +kernel
theorem dX11_pairs_143 : decode cX11_pairs 143 = .ok (.goto (-89), 3) := by decide +kernel
theorem dX11_pairs_146 : decode cX11_pairs 146 = .ok (.iload_n 2, 1) := by decide +kernel
theorem dX11_pairs_147 : decode cX11_pairs 147 = .ok (.ifCond .ne 7, 3) := by decide +kernel
theorem dX11_pairs_150 : decode cX11_pairs 150 = .ok (.iload_n 3, 1) := by decide +kernel
theorem dX11_pairs_151 : decode cX11_pairs 151 = .ok (.goto 16, 3) := by decide +kernel
theorem dX11_pairs_154 : decode cX11_pairs 154 = .ok (.iload 4, 2) := by decide +kernel
theorem dX11_pairs_156 : decode cX11_pairs 156 = .ok (.iconst 1, 1) := by decide +kernel
theorem dX11_pairs_157 : decode cX11_pairs 157 = .ok (.if_icmp .ne 8, 3) := by decide +kernel
theorem dX11_pairs_160 : decode cX11_pairs 160 = .ok (.iload 5, 2) := by decide +kernel
theorem dX11_pairs_162 : decode cX11_pairs 162 = .ok (.goto 5, 3) := by decide +kernel
theorem dX11_pairs_165 : decode cX11_pairs 165 = .ok (.bipush (-2), 2) := by decide +kernel
theorem dX11_pairs_167 : decode cX11_pairs 167 = .ok (.ireturn, 1) := by decide +kernel
def fX11_pairs_b138 (K54 : Int32 → Int32 → Int32 → Int32 → Int32 → Int32 → mS → Option (Int32 × mS)) (y1 : Int32) (y2 : Int32) (y3 : Int32) (y4 : Int32) (y6 : Int32) (z0 : Int32) (s : mS) : Option (Int32 × mS) :=
  bnd z0 fun v13 =>
  bnd (y6 + 1) fun v14 =>
  K54 y1 y2 y3 y4 v13 v14 s

def fX11_pairs_b123 (K54 : Int32 → Int32 → Int32 → Int32 → Int32 → Int32 → mS → Option (Int32 × mS)) (y1 : Int32) (y2 : Int32) (y3 : Int32) (y5 : Int32) (y6 : Int32) (y7 : Int32) (z0 : Int32) (z1 : Int32) (s : mS) : Option (Int32 × mS) :=
  bnd (z1 + z0) fun v12 =>
  if y7 ≤ 0 then
    fX11_pairs_b138 K54 y1 y2 y3 v12 y6 y5 s
  else
    fX11_pairs_b138 K54 y1 y2 y3 v12 y6 y6 s

def fX11_pairs_b97 (K54 : Int32 → Int32 → Int32 → Int32 → Int32 → Int32 → mS → Option (Int32 × mS)) (K69 : Int32 → Int32 → Int32 → Int32 → Int32 → Int32 → Int32 → Int32 → mS → Option (Int32 × mS)) (y1 : Int32) (y2 : Int32) (y3 : Int32) (y4 : Int32) (y5 : Int32) (y6 : Int32) (y8 : Int32) (z0 : Int32) (z1 : Int32) (s : mS) : Option (Int32 × mS) :=
  bnd (z1 + z0) fun v17 =>
  bnd (y8 + 1) fun v18 =>
  K69 y1 y2 y3 y4 y5 y6 v17 v18 s

def fX11_pairs_b69 (K54 : Int32 → Int32 → Int32 → Int32 → Int32 → Int32 → mS → Option (Int32 × mS)) : Nat → Int32 → Int32 → Int32 → Int32 → Int32 → Int32 → Int32 → Int32 → mS → Option (Int32 × mS)
  | 0, _, _, _, _, _, _, _, _, _ => none
  | k + 1, y1, y2, y3, y4, y5, y6, y7, y8, s =>
    if (gI s iX_machines) ≤ y8 then
      bnd (y3 + y7) fun v11 =>
      if y7 ≤ 0 then
        fX11_pairs_b123 K54 y1 y2 v11 y5 y6 y7 0 y4 s
      else
        fX11_pairs_b123 K54 y1 y2 v11 y5 y6 y7 1 y4 s
    else
      bP (fX11_isSheet y1 y6 y8 s) fun r15 s16 =>
      if r15 = 0 then
        fX11_pairs_b97 K54 (fun u0 u1 u2 u3 u4 u5 u6 u7 u8 => fX11_pairs_b69 K54 k u0 u1 u2 u3 u4 u5 u6 u7 u8) y1 y2 y3 y4 y5 y6 y8 0 y7 s16
      else
        fX11_pairs_b97 K54 (fun u0 u1 u2 u3 u4 u5 u6 u7 u8 => fX11_pairs_b69 K54 k u0 u1 u2 u3 u4 u5 u6 u7 u8) y1 y2 y3 y4 y5 y6 y8 1 y7 s16

def fX11_pairs_b54 : Nat → Int32 → Int32 → Int32 → Int32 → Int32 → Int32 → mS → Option (Int32 × mS)
  | 0, _, _, _, _, _, _, _ => none
  | k + 1, y1, y2, y3, y4, y5, y6, s =>
    if (gI s iX_writers) ≤ y6 then
      if y2 = 0 then
        some (y3, s)
      else
        if y4 = 1 then
          some (y5, s)
        else
          some ((-2), s)
    else
      bnd 0 fun v9 =>
      bnd 0 fun v10 =>
      fX11_pairs_b69 (fun u0 u1 u2 u3 u4 u5 u6 => fX11_pairs_b54 k u0 u1 u2 u3 u4 u5 u6) mFu y1 y2 y3 y4 y5 y6 v9 v10 s

def fX11_pairs (x1 : Int32) (x2 : Int32) (s : mS) : Option (Int32 × mS) :=
  bO (fX11_rowIs x1 0 s) fun r1 =>
  if r1 = (-1) then
    some ((-1), s)
  else
    bO (fX11_within (Int32.toInt64 x2) 0 1 s) fun r2 =>
    if r2 = 0 then
      some ((-1), s)
    else
      bO (fX11_rowIs x1 0 s) fun r3 =>
      if 0 ≤ r3 then
        bO (fX11_begins s) fun s4 =>
        bnd 0 fun v5 =>
        bnd 0 fun v6 =>
        bnd (-2) fun v7 =>
        bnd 0 fun v8 =>
        fX11_pairs_b54 mFu x1 x2 v5 v6 v7 v8 s4
      else
        bO (fX11_rowIs x1 0 s) fun r19 =>
        some (r19, s)

set_option maxRecDepth 20000 in
theorem wX11_pairs_b138 {ρ : mRo} {d : Nat} {P : mPo} {V : mS → List mE} (hV : mView LX V)  {res : (Int32 × mS)} {K54 : Int32 → Int32 → Int32 → Int32 → Int32 → Int32 → mS → Option (Int32 × mS)} (hK54 : ∀ (y1 : Int32) (y2 : Int32) (y3 : Int32) (y4 : Int32) (y5 : Int32) (y6 : Int32) (s : mS), K54 y1 y2 y3 y4 y5 y6 s = some res → mG ρ (mC ρ (d + 66)) 11 9 cX11_pairs (some .int) P 54 [(0, .ref qX), (1, .int y1), (2, .int y2), (3, .int y3), (4, .int y4), (5, .int y5), (6, .int y6)] [] (V s)) (hP : P (some (.int res.1)) (V res.2)) (y1 : Int32) (y2 : Int32) (y3 : Int32) (y4 : Int32) (y6 : Int32) (z0 : Int32) (s : mS) (hf : fX11_pairs_b138 K54 y1 y2 y3 y4 y6 z0 s = some res) : mG ρ (mC ρ (d + 66)) 11 9 cX11_pairs (some .int) P 138 [(0, .ref qX), (1, .int y1), (2, .int y2), (3, .int y3), (4, .int y4), (6, .int y6)] [.int z0] (V s) := by
  unfold fX11_pairs_b138 at hf
  refine e_istore dX11_pairs_138 (by decide) hf (fun v13 hf => ?_)
  refine e_iinc 6 dX11_pairs_140 rfl rfl hf (fun v14 hf => ?_)
  refine e_goto 54 dX11_pairs_143 (by decide) ?_
  refine e_pick [2, 3, 4, 5, 6, 1, 0] rfl ?_
  exact hK54 y1 y2 y3 y4 v13 v14 s hf
set_option maxRecDepth 20000 in
theorem wX11_pairs_b123 {ρ : mRo} {d : Nat} {P : mPo} {V : mS → List mE} (hV : mView LX V)  {res : (Int32 × mS)} {K54 : Int32 → Int32 → Int32 → Int32 → Int32 → Int32 → mS → Option (Int32 × mS)} (hK54 : ∀ (y1 : Int32) (y2 : Int32) (y3 : Int32) (y4 : Int32) (y5 : Int32) (y6 : Int32) (s : mS), K54 y1 y2 y3 y4 y5 y6 s = some res → mG ρ (mC ρ (d + 66)) 11 9 cX11_pairs (some .int) P 54 [(0, .ref qX), (1, .int y1), (2, .int y2), (3, .int y3), (4, .int y4), (5, .int y5), (6, .int y6)] [] (V s)) (hP : P (some (.int res.1)) (V res.2)) (y1 : Int32) (y2 : Int32) (y3 : Int32) (y5 : Int32) (y6 : Int32) (y7 : Int32) (z0 : Int32) (z1 : Int32) (s : mS) (hf : fX11_pairs_b123 K54 y1 y2 y3 y5 y6 y7 z0 z1 s = some res) : mG ρ (mC ρ (d + 66)) 11 9 cX11_pairs (some .int) P 123 [(0, .ref qX), (1, .int y1), (2, .int y2), (3, .int y3), (5, .int y5), (6, .int y6), (7, .int y7)] [.int z0, .int z1] (V s) := by
  unfold fX11_pairs_b123 at hf
  refine e_iadd dX11_pairs_123 ?_
  refine e_istore dX11_pairs_124 (by decide) hf (fun v12 hf => ?_)
  refine e_iload 7 dX11_pairs_126 rfl ?_
  refine e_if_le 136 dX11_pairs_128 (by decide) hf (fun hf => ?_) (fun hf => ?_)
  · refine e_iload 5 dX11_pairs_136 rfl ?_
    refine e_pick [1, 2, 3, 4, 0, 6] rfl ?_
    exact wX11_pairs_b138 hV hK54 hP y1 y2 y3 v12 y6 y5 s hf
  · refine e_iload 6 dX11_pairs_131 rfl ?_
    refine e_goto 138 dX11_pairs_133 (by decide) ?_
    refine e_pick [1, 2, 3, 4, 0, 6] rfl ?_
    exact wX11_pairs_b138 hV hK54 hP y1 y2 y3 v12 y6 y6 s hf
set_option maxRecDepth 20000 in
theorem wX11_pairs_b97 {ρ : mRo} {d : Nat} {P : mPo} {V : mS → List mE} (hV : mView LX V)  {res : (Int32 × mS)} {K54 : Int32 → Int32 → Int32 → Int32 → Int32 → Int32 → mS → Option (Int32 × mS)} (hK54 : ∀ (y1 : Int32) (y2 : Int32) (y3 : Int32) (y4 : Int32) (y5 : Int32) (y6 : Int32) (s : mS), K54 y1 y2 y3 y4 y5 y6 s = some res → mG ρ (mC ρ (d + 66)) 11 9 cX11_pairs (some .int) P 54 [(0, .ref qX), (1, .int y1), (2, .int y2), (3, .int y3), (4, .int y4), (5, .int y5), (6, .int y6)] [] (V s)) {K69 : Int32 → Int32 → Int32 → Int32 → Int32 → Int32 → Int32 → Int32 → mS → Option (Int32 × mS)} (hK69 : ∀ (y1 : Int32) (y2 : Int32) (y3 : Int32) (y4 : Int32) (y5 : Int32) (y6 : Int32) (y7 : Int32) (y8 : Int32) (s : mS), K69 y1 y2 y3 y4 y5 y6 y7 y8 s = some res → mG ρ (mC ρ (d + 66)) 11 9 cX11_pairs (some .int) P 69 [(0, .ref qX), (1, .int y1), (2, .int y2), (3, .int y3), (4, .int y4), (5, .int y5), (6, .int y6), (7, .int y7), (8, .int y8)] [] (V s)) (hP : P (some (.int res.1)) (V res.2)) (y1 : Int32) (y2 : Int32) (y3 : Int32) (y4 : Int32) (y5 : Int32) (y6 : Int32) (y8 : Int32) (z0 : Int32) (z1 : Int32) (s : mS) (hf : fX11_pairs_b97 K54 K69 y1 y2 y3 y4 y5 y6 y8 z0 z1 s = some res) : mG ρ (mC ρ (d + 66)) 11 9 cX11_pairs (some .int) P 97 [(0, .ref qX), (1, .int y1), (2, .int y2), (3, .int y3), (4, .int y4), (5, .int y5), (6, .int y6), (8, .int y8)] [.int z0, .int z1] (V s) := by
  unfold fX11_pairs_b97 at hf
  refine e_iadd dX11_pairs_97 ?_
  refine e_istore dX11_pairs_98 (by decide) hf (fun v17 hf => ?_)
  refine e_iinc 8 dX11_pairs_100 rfl rfl hf (fun v18 hf => ?_)
  refine e_goto 69 dX11_pairs_103 (by decide) ?_
  refine e_pick [2, 3, 4, 5, 6, 7, 8, 1, 0] rfl ?_
  exact hK69 y1 y2 y3 y4 y5 y6 v17 v18 s hf
set_option maxRecDepth 20000 in
theorem wX11_pairs_b69 {ρ : mRo} {d : Nat} {P : mPo} {V : mS → List mE} (hV : mView LX V)  {res : (Int32 × mS)} {K54 : Int32 → Int32 → Int32 → Int32 → Int32 → Int32 → mS → Option (Int32 × mS)} (hK54 : ∀ (y1 : Int32) (y2 : Int32) (y3 : Int32) (y4 : Int32) (y5 : Int32) (y6 : Int32) (s : mS), K54 y1 y2 y3 y4 y5 y6 s = some res → mG ρ (mC ρ (d + 66)) 11 9 cX11_pairs (some .int) P 54 [(0, .ref qX), (1, .int y1), (2, .int y2), (3, .int y3), (4, .int y4), (5, .int y5), (6, .int y6)] [] (V s)) (hP : P (some (.int res.1)) (V res.2)) : ∀ (k : Nat) (y1 : Int32) (y2 : Int32) (y3 : Int32) (y4 : Int32) (y5 : Int32) (y6 : Int32) (y7 : Int32) (y8 : Int32) (s : mS), fX11_pairs_b69 K54 k y1 y2 y3 y4 y5 y6 y7 y8 s = some res → mG ρ (mC ρ (d + 66)) 11 9 cX11_pairs (some .int) P 69 [(0, .ref qX), (1, .int y1), (2, .int y2), (3, .int y3), (4, .int y4), (5, .int y5), (6, .int y6), (7, .int y7), (8, .int y8)] [] (V s) := by
  intro k
  induction k with
  | zero => intro y1 y2 y3 y4 y5 y6 y7 y8 s hf; rw [fX11_pairs_b69] at hf; cases hf
  | succ k ih =>
    intro y1 y2 y3 y4 y5 y6 y7 y8 s hf
    rw [fX11_pairs_b69] at hf
    refine e_iload 8 dX11_pairs_69 rfl ?_
    refine e_aload_n 0 dX11_pairs_71 rfl rfl ?_
    refine e_geti hV dX11_pairs_72 rfl lx_X rfl ?_
    refine e_icmp_ge 106 dX11_pairs_75 (by decide) hf (fun hf => ?_) (fun hf => ?_)
    · refine e_iload_n 3 dX11_pairs_106 rfl rfl ?_
      refine e_iload 7 dX11_pairs_107 rfl ?_
      refine e_iadd dX11_pairs_109 ?_
      refine e_istore_n dX11_pairs_110 rfl (by decide) hf (fun v11 hf => ?_)
      refine e_iload 4 dX11_pairs_111 rfl ?_
      refine e_iload 7 dX11_pairs_113 rfl ?_
      refine e_if_le 122 dX11_pairs_115 (by decide) hf (fun hf => ?_) (fun hf => ?_)
      · refine e_iconst (w := 0) dX11_pairs_122 (by decide) ?_
        refine e_pick [1, 2, 3, 0, 5, 6, 7] rfl ?_
        exact wX11_pairs_b123 hV hK54 hP y1 y2 v11 y5 y6 y7 0 y4 s hf
      · refine e_iconst (w := 1) dX11_pairs_118 (by decide) ?_
        refine e_goto 123 dX11_pairs_119 (by decide) ?_
        refine e_pick [1, 2, 3, 0, 5, 6, 7] rfl ?_
        exact wX11_pairs_b123 hV hK54 hP y1 y2 v11 y5 y6 y7 1 y4 s hf
    · refine e_iload 7 dX11_pairs_78 rfl ?_
      refine e_aload_n 0 dX11_pairs_80 rfl rfl ?_
      refine e_iload_n 1 dX11_pairs_81 rfl rfl ?_
      refine e_iload 6 dX11_pairs_82 rfl ?_
      refine e_iload 8 dX11_pairs_84 rfl ?_
      obtain ⟨r15, s16, hg, hf⟩ := bP_some hf
      refine e_callV (as := [.int y1, .int y6, .int y8]) (v := (some (.int r15))) (s' := s16) hV dX11_pairs_86 (Or.inl rfl) rfl rfl rfl rfl (Nat.le_of_ble_eq_true rfl) lx_X rfl rfl (fun Q hQ => tX11_isSheet (d := d) hV  hg hQ) ?_
      refine e_if_eq 96 dX11_pairs_89 (by decide) hf (fun hf => ?_) (fun hf => ?_)
      · refine e_iconst (w := 0) dX11_pairs_96 (by decide) ?_
        refine e_pick [0, 1, 2, 3, 4, 5, 6, 8] rfl ?_
        exact wX11_pairs_b97 hV hK54 ih hP y1 y2 y3 y4 y5 y6 y8 0 y7 s16 hf
      · refine e_iconst (w := 1) dX11_pairs_92 (by decide) ?_
        refine e_goto 97 dX11_pairs_93 (by decide) ?_
        refine e_pick [0, 1, 2, 3, 4, 5, 6, 8] rfl ?_
        exact wX11_pairs_b97 hV hK54 ih hP y1 y2 y3 y4 y5 y6 y8 1 y7 s16 hf
set_option maxRecDepth 20000 in
theorem wX11_pairs_b54 {ρ : mRo} {d : Nat} {P : mPo} {V : mS → List mE} (hV : mView LX V)  {res : (Int32 × mS)} (hP : P (some (.int res.1)) (V res.2)) : ∀ (k : Nat) (y1 : Int32) (y2 : Int32) (y3 : Int32) (y4 : Int32) (y5 : Int32) (y6 : Int32) (s : mS), fX11_pairs_b54 k y1 y2 y3 y4 y5 y6 s = some res → mG ρ (mC ρ (d + 66)) 11 9 cX11_pairs (some .int) P 54 [(0, .ref qX), (1, .int y1), (2, .int y2), (3, .int y3), (4, .int y4), (5, .int y5), (6, .int y6)] [] (V s) := by
  intro k
  induction k with
  | zero => intro y1 y2 y3 y4 y5 y6 s hf; rw [fX11_pairs_b54] at hf; cases hf
  | succ k ih =>
    intro y1 y2 y3 y4 y5 y6 s hf
    rw [fX11_pairs_b54] at hf
    refine e_iload 6 dX11_pairs_54 rfl ?_
    refine e_aload_n 0 dX11_pairs_56 rfl rfl ?_
    refine e_geti hV dX11_pairs_57 rfl lx_X rfl ?_
    refine e_icmp_ge 146 dX11_pairs_60 (by decide) hf (fun hf => ?_) (fun hf => ?_)
    · refine e_iload_n 2 dX11_pairs_146 rfl rfl ?_
      refine e_if_ne 154 dX11_pairs_147 (by decide) hf (fun hf => ?_) (fun hf => ?_)
      · refine e_iload 4 dX11_pairs_154 rfl ?_
        refine e_iconst (w := 1) dX11_pairs_156 (by decide) ?_
        refine e_icmp_ne 165 dX11_pairs_157 (by decide) hf (fun hf => ?_) (fun hf => ?_)
        · refine e_bipush (w := (-2)) dX11_pairs_165 (by decide) ?_
          obtain rfl := Option.some.inj hf
          exact e_iret dX11_pairs_167 trivial hP
        · refine e_iload 5 dX11_pairs_160 rfl ?_
          refine e_goto 167 dX11_pairs_162 (by decide) ?_
          obtain rfl := Option.some.inj hf
          exact e_iret dX11_pairs_167 trivial hP
      · refine e_iload_n 3 dX11_pairs_150 rfl rfl ?_
        refine e_goto 167 dX11_pairs_151 (by decide) ?_
        obtain rfl := Option.some.inj hf
        exact e_iret dX11_pairs_167 trivial hP
    · refine e_iconst (w := 0) dX11_pairs_63 (by decide) ?_
      refine e_istore dX11_pairs_64 (by decide) hf (fun v9 hf => ?_)
      refine e_iconst (w := 0) dX11_pairs_66 (by decide) ?_
      refine e_istore dX11_pairs_67 (by decide) hf (fun v10 hf => ?_)
      refine e_pick [2, 3, 4, 5, 6, 7, 8, 1, 0] rfl ?_
      exact wX11_pairs_b69 hV ih hP mFu y1 y2 y3 y4 y5 y6 v9 v10 s hf
set_option maxRecDepth 20000 in
theorem tX11_pairs {ρ : mRo} {d : Nat} {P : mPo} {V : mS → List mE} (hV : mView LX V)  {x1 : Int32} {x2 : Int32} {s : mS} {res : (Int32 × mS)} (hf : fX11_pairs x1 x2 s = some res) (hP : P (some (.int res.1)) (V res.2)) : mC ρ (d + 67) 192 [.ref qX, .int x1, .int x2] (V s) P := by
  refine ⟨_, rfl, Nat.le_of_ble_eq_true rfl, by decide, ?_⟩
  show mG ρ (mC ρ (d + 66)) 11 9 cX11_pairs (some .int) P 0 [(0, .ref qX), (1, .int x1), (2, .int x2)] [] (V s)
  unfold fX11_pairs at hf
  refine e_aload_n 0 dX11_pairs_0 rfl rfl ?_
  refine e_iload_n 1 dX11_pairs_1 rfl rfl ?_
  refine e_iconst (w := 0) dX11_pairs_2 (by decide) ?_
  obtain ⟨r1, hg, hf⟩ := bO_some hf
  refine e_callV (as := [.int x1, .int 0]) (v := (some (.int r1))) (s' := s) hV dX11_pairs_3 (Or.inl rfl) rfl rfl rfl rfl (Nat.le_of_ble_eq_true rfl) lx_X rfl rfl (fun Q hQ => tX11_rowIs (d := (d + 63)) hV  hg hQ) ?_
  refine e_iconst (w := (-1)) dX11_pairs_6 (by decide) ?_
  refine e_icmp_eq 20 dX11_pairs_7 (by decide) hf (fun hf => ?_) (fun hf => ?_)
  · refine e_iconst (w := (-1)) dX11_pairs_20 (by decide) ?_
    obtain rfl := Option.some.inj hf
    exact e_iret dX11_pairs_21 trivial hP
  · refine e_iload_n 2 dX11_pairs_10 rfl rfl ?_
    refine e_i2l dX11_pairs_11 ?_
    refine e_lconst (w := 0) dX11_pairs_12 (by decide) ?_
    refine e_lconst (w := 1) dX11_pairs_13 (by decide) ?_
    obtain ⟨r2, hg, hf⟩ := bO_some hf
    refine e_callS (as := [.long (Int32.toInt64 x2), .long 0, .long 1]) (v := (some (.int r2))) (s' := s) dX11_pairs_14 rfl rfl rfl rfl rfl (Nat.le_of_ble_eq_true rfl) (fun Q hQ => tX11_within (d := (d + 65)) hV  hg hQ) ?_
    refine e_if_ne 22 dX11_pairs_17 (by decide) hf (fun hf => ?_) (fun hf => ?_)
    · refine e_aload_n 0 dX11_pairs_22 rfl rfl ?_
      refine e_iload_n 1 dX11_pairs_23 rfl rfl ?_
      refine e_iconst (w := 0) dX11_pairs_24 (by decide) ?_
      obtain ⟨r3, hg, hf⟩ := bO_some hf
      refine e_callV (as := [.int x1, .int 0]) (v := (some (.int r3))) (s' := s) hV dX11_pairs_25 (Or.inl rfl) rfl rfl rfl rfl (Nat.le_of_ble_eq_true rfl) lx_X rfl rfl (fun Q hQ => tX11_rowIs (d := (d + 63)) hV  hg hQ) ?_
      refine e_if_ge 38 dX11_pairs_28 (by decide) hf (fun hf => ?_) (fun hf => ?_)
      · refine e_aload_n 0 dX11_pairs_38 rfl rfl ?_
        obtain ⟨s4, hg, hf⟩ := bO_some hf
        refine e_callV (as := []) (v := none) (s' := s4) hV dX11_pairs_39 (Or.inl rfl) rfl rfl rfl rfl (Nat.le_of_ble_eq_true rfl) lx_X rfl rfl (fun Q hQ => tX11_begins (d := (d + 65)) hV  hg hQ) ?_
        refine e_iconst (w := 0) dX11_pairs_42 (by decide) ?_
        refine e_istore_n dX11_pairs_43 rfl (by decide) hf (fun v5 hf => ?_)
        refine e_iconst (w := 0) dX11_pairs_44 (by decide) ?_
        refine e_istore dX11_pairs_45 (by decide) hf (fun v6 hf => ?_)
        refine e_bipush (w := (-2)) dX11_pairs_47 (by decide) ?_
        refine e_istore dX11_pairs_49 (by decide) hf (fun v7 hf => ?_)
        refine e_iconst (w := 0) dX11_pairs_51 (by decide) ?_
        refine e_istore dX11_pairs_52 (by decide) hf (fun v8 hf => ?_)
        refine e_pick [4, 5, 6, 3, 2, 1, 0] rfl ?_
        exact wX11_pairs_b54 hV hP mFu x1 x2 v5 v6 v7 v8 s4 hf
      · refine e_aload_n 0 dX11_pairs_31 rfl rfl ?_
        refine e_iload_n 1 dX11_pairs_32 rfl rfl ?_
        refine e_iconst (w := 0) dX11_pairs_33 (by decide) ?_
        obtain ⟨r19, hg, hf⟩ := bO_some hf
        refine e_callV (as := [.int x1, .int 0]) (v := (some (.int r19))) (s' := s) hV dX11_pairs_34 (Or.inl rfl) rfl rfl rfl rfl (Nat.le_of_ble_eq_true rfl) lx_X rfl rfl (fun Q hQ => tX11_rowIs (d := (d + 63)) hV  hg hQ) ?_
        obtain rfl := Option.some.inj hf
        exact e_iret dX11_pairs_37 trivial hP
    · refine e_iconst (w := (-1)) dX11_pairs_20 (by decide) ?_
      obtain rfl := Option.some.inj hf
      exact e_iret dX11_pairs_21 trivial hP

theorem dX11_between_0 : decode cX11_between 0 = .ok (.aload_n 0, 1) := by decide +kernel
theorem dX11_between_1 : decode cX11_between 1 = .ok (.iload_n 1, 1) := by decide +kernel
theorem dX11_between_2 : decode cX11_between 2 = .ok (.iconst 0, 1) := by decide +kernel
theorem dX11_between_3 : decode cX11_between 3 = .ok (.invokevirtual 227, 3) := by decide +kernel
theorem dX11_between_6 : decode cX11_between 6 = .ok (.iconst (-1), 1) := by decide +kernel
theorem dX11_between_7 : decode cX11_between 7 = .ok (.if_icmp .eq 20, 3) := by decide +kernel
theorem dX11_between_10 : decode cX11_between 10 = .ok (.aload_n 0, 1) := by decide +kernel
theorem dX11_between_11 : decode cX11_between 11 = .ok (.iload_n 2, 1) := by decide +kernel
theorem dX11_between_12 : decode cX11_between 12 = .ok (.invokevirtual 214, 3) := by decide +kernel
theorem dX11_between_15 : decode cX11_between 15 = .ok (.ifCond .eq 12, 3) := by decide +kernel
theorem dX11_between_18 : decode cX11_between 18 = .ok (.aload_n 0, 1) := by decide +kernel
theorem dX11_between_19 : decode cX11_between 19 = .ok (.iload_n 3, 1) := by decide +kernel
theorem dX11_between_20 : decode cX11_between 20 = .ok (.i2l, 1) := by decide +kernel
theorem dX11_between_21 : decode cX11_between 21 = .ok (.invokevirtual 100, 3) := by decide +kernel
theorem dX11_between_24 : decode cX11_between 24 = .ok (.ifCond .ne 5, 3) := by decide +kernel
theorem dX11_between_27 : decode cX11_between 27 = .ok (.iconst (-1), 1) := by decide +kernel
theorem dX11_between_28 : decode cX11_between 28 = .ok (.ireturn, 1) := by decide +kernel
theorem dX11_between_29 : decode cX11_between 29 = .ok (.aload_n 0, 1) := by decide +kernel
theorem dX11_between_30 : decode cX11_between 30 = .ok (.iload_n 1, 1) := by decide +kernel
theorem dX11_between_31 : decode cX11_between 31 = .ok (.iconst 0, 1) := by decide +kernel
theorem dX11_between_32 : decode cX11_between 32 = .ok (.invokevirtual 227, 3) := by decide +kernel
theorem dX11_between_35 : decode cX11_between 35 = .ok (.ifCond .ge 10, 3) := by decide +kernel
theorem dX11_between_38 : decode cX11_between 38 = .ok (.aload_n 0, 1) := by decide +kernel
theorem dX11_between_39 : decode cX11_between 39 = .ok (.iload_n 1, 1) := by decide +kernel
theorem dX11_between_40 : decode cX11_between 40 = .ok (.iconst 0, 1) := by decide +kernel
theorem dX11_between_41 : decode cX11_between 41 = .ok (.invokevirtual 227, 3) := by decide +kernel
theorem dX11_between_44 : decode cX11_between 44 = .ok (.ireturn, 1) := by decide +kernel
theorem dX11_between_45 : decode cX11_between 45 = .ok (.aload_n 0, 1) := by decide +kernel
theorem dX11_between_46 : decode cX11_between 46 = .ok (.invokevirtual 217, 3) := by decide +kernel
theorem dX11_between_49 : decode cX11_between 49 = .ok (.iconst 0, 1) := by decide +kernel
theorem dX11_between_50 : decode cX11_between 50 = .ok (.istore 4, 2) := by decide +kernel
theorem dX11_between_52 : decode cX11_between 52 = .ok (.iload 4, 2) := by decide +kernel
theorem dX11_between_54 : decode cX11_between 54 = .ok (.bipush 60, 2) := by decide +kernel
theorem dX11_between_56 : decode cX11_between 56 = .ok (.if_icmp .gt 37, 3) := by decide +kernel
theorem dX11_between_59 : decode cX11_between 59 = .ok (.aload_n 0, 1) := by decide +kernel
theorem dX11_between_60 : decode cX11_between 60 = .ok (.iload_n 1, 1) := by decide +kernel
theorem dX11_between_61 : decode cX11_between 61 = .ok (.iload_n 3, 1) := by decide +kernel
theorem dX11_between_62 : decode cX11_between 62 = .ok (.iload_n 2, 1) := by decide +kernel
theorem dX11_between_63 : decode cX11_between 63 = .ok (.bipush 10, 2) := by decide +kernel
theorem dX11_between_65 : decode cX11_between 65 = .ok (.irem, 1) := by decide +kernel
theorem dX11_between_66 : decode cX11_between 66 = .ok (.invokevirtual 248, 3) := by decide +kernel
theorem dX11_between_69 : decode cX11_between 69 = .ok (.ifCond .eq 6, 3) := by decide +kernel
theorem dX11_between_72 : decode cX11_between 72 = .ok (.iload 4, 2) := by decide +kernel
theorem dX11_between_74 : decode cX11_between 74 = .ok (.ireturn, 1) := by decide +kernel
theorem dX11_between_75 : decode cX11_between 75 = .ok (.aload_n 0, 1) := by decide +kernel
theorem dX11_between_76 : decode cX11_between 76 = .ok (.iload_n 2, 1) := by decide +kernel
theorem dX11_between_77 : decode cX11_between 77 = .ok (.bipush 10, 2) := by decide +kernel
theorem dX11_between_79 : decode cX11_between 79 = .ok (.idiv, 1) := by decide +kernel
theorem dX11_between_80 : decode cX11_between 80 = .ok (.iload_n 2, 1) := by decide +kernel
theorem dX11_between_81 : decode cX11_between 81 = .ok (.bipush 10, 2) := by decide +kernel
theorem dX11_between_83 : decode cX11_between 83 = .ok (.irem, 1) := by decide +kernel
theorem dX11_between_84 : decode cX11_between 84 = .ok (.invokevirtual 223, 3) := by decide +kernel
theorem dX11_between_87 : decode cX11_between 87 = .ok (.iinc 4 1, 3) := by decide +kernel
theorem dX11_between_90 : decode cX11_between 90 = .ok (.goto (-38), 3) := by decide +kernel
theorem dX11_between_93 : decode cX11_between 93 = .ok (.bipush (-2), 2) := by decide +kernel
theorem dX11_between_95 : decode cX11_between 95 = .ok (.ireturn, 1) := by decide +kernel
def fX11_between_b52 : Nat → Int32 → Int32 → Int32 → Int32 → mS → Option (Int32 × mS)
  | 0, _, _, _, _, _ => none
  | k + 1, y1, y2, y3, y4, s =>
    if 60 < y4 then
      some ((-2), s)
    else
      bP (fX11_isSheet y1 y3 (y2 - y2 / 10 * 10) s) fun r7 s8 =>
      if r7 = 0 then
        bO (fX11_typesOn (y2 / 10) (y2 - y2 / 10 * 10) s8) fun s9 =>
        bnd (y4 + 1) fun v10 =>
        fX11_between_b52 k y1 y2 y3 v10 s9
      else
        some (y4, s8)

def fX11_between (x1 : Int32) (x2 : Int32) (x3 : Int32) (s : mS) : Option (Int32 × mS) :=
  bO (fX11_rowIs x1 0 s) fun r1 =>
  if r1 = (-1) then
    some ((-1), s)
  else
    bO (fX11_isWm x2 s) fun r2 =>
    if r2 = 0 then
      some ((-1), s)
    else
      bO (fX11_isWriter (Int32.toInt64 x3) s) fun r3 =>
      if r3 = 0 then
        some ((-1), s)
      else
        bO (fX11_rowIs x1 0 s) fun r4 =>
        if 0 ≤ r4 then
          bO (fX11_begins s) fun s5 =>
          bnd 0 fun v6 =>
          fX11_between_b52 mFu x1 x2 x3 v6 s5
        else
          bO (fX11_rowIs x1 0 s) fun r11 =>
          some (r11, s)

set_option maxRecDepth 20000 in
theorem wX11_between_b52 {ρ : mRo} {d : Nat} {P : mPo} {V : mS → List mE} (hV : mView LX V)  {res : (Int32 × mS)} (hP : P (some (.int res.1)) (V res.2)) : ∀ (k : Nat) (y1 : Int32) (y2 : Int32) (y3 : Int32) (y4 : Int32) (s : mS), fX11_between_b52 k y1 y2 y3 y4 s = some res → mG ρ (mC ρ (d + 66)) 11 5 cX11_between (some .int) P 52 [(0, .ref qX), (1, .int y1), (2, .int y2), (3, .int y3), (4, .int y4)] [] (V s) := by
  intro k
  induction k with
  | zero => intro y1 y2 y3 y4 s hf; rw [fX11_between_b52] at hf; cases hf
  | succ k ih =>
    intro y1 y2 y3 y4 s hf
    rw [fX11_between_b52] at hf
    refine e_iload 4 dX11_between_52 rfl ?_
    refine e_bipush (w := 60) dX11_between_54 (by decide) ?_
    refine e_icmp_gt 93 dX11_between_56 (by decide) hf (fun hf => ?_) (fun hf => ?_)
    · refine e_bipush (w := (-2)) dX11_between_93 (by decide) ?_
      obtain rfl := Option.some.inj hf
      exact e_iret dX11_between_95 trivial hP
    · refine e_aload_n 0 dX11_between_59 rfl rfl ?_
      refine e_iload_n 1 dX11_between_60 rfl rfl ?_
      refine e_iload_n 3 dX11_between_61 rfl rfl ?_
      refine e_iload_n 2 dX11_between_62 rfl rfl ?_
      refine e_bipush (w := 10) dX11_between_63 (by decide) ?_
      refine e_irem dX11_between_65 (by decide) ?_
      obtain ⟨r7, s8, hg, hf⟩ := bP_some hf
      refine e_callV (as := [.int y1, .int y3, .int (y2 - y2 / 10 * 10)]) (v := (some (.int r7))) (s' := s8) hV dX11_between_66 (Or.inl rfl) rfl rfl rfl rfl (Nat.le_of_ble_eq_true rfl) lx_X rfl rfl (fun Q hQ => tX11_isSheet (d := d) hV  hg hQ) ?_
      refine e_if_eq 75 dX11_between_69 (by decide) hf (fun hf => ?_) (fun hf => ?_)
      · refine e_aload_n 0 dX11_between_75 rfl rfl ?_
        refine e_iload_n 2 dX11_between_76 rfl rfl ?_
        refine e_bipush (w := 10) dX11_between_77 (by decide) ?_
        refine e_idiv dX11_between_79 (by decide) ?_
        refine e_iload_n 2 dX11_between_80 rfl rfl ?_
        refine e_bipush (w := 10) dX11_between_81 (by decide) ?_
        refine e_irem dX11_between_83 (by decide) ?_
        obtain ⟨s9, hg, hf⟩ := bO_some hf
        refine e_callV (as := [.int (y2 / 10), .int (y2 - y2 / 10 * 10)]) (v := none) (s' := s9) hV dX11_between_84 (Or.inl rfl) rfl rfl rfl rfl (Nat.le_of_ble_eq_true rfl) lx_X rfl rfl (fun Q hQ => tX11_typesOn (d := (d + 64)) hV  hg hQ) ?_
        refine e_iinc 4 dX11_between_87 rfl rfl hf (fun v10 hf => ?_)
        refine e_goto 52 dX11_between_90 (by decide) ?_
        refine e_pick [1, 2, 3, 4, 0] rfl ?_
        exact ih y1 y2 y3 v10 s9 hf
      · refine e_iload 4 dX11_between_72 rfl ?_
        obtain rfl := Option.some.inj hf
        exact e_iret dX11_between_74 trivial hP
set_option maxRecDepth 20000 in
theorem tX11_between {ρ : mRo} {d : Nat} {P : mPo} {V : mS → List mE} (hV : mView LX V)  {x1 : Int32} {x2 : Int32} {x3 : Int32} {s : mS} {res : (Int32 × mS)} (hf : fX11_between x1 x2 x3 s = some res) (hP : P (some (.int res.1)) (V res.2)) : mC ρ (d + 67) 193 [.ref qX, .int x1, .int x2, .int x3] (V s) P := by
  refine ⟨_, rfl, Nat.le_of_ble_eq_true rfl, by decide, ?_⟩
  show mG ρ (mC ρ (d + 66)) 11 5 cX11_between (some .int) P 0 [(0, .ref qX), (1, .int x1), (2, .int x2), (3, .int x3)] [] (V s)
  unfold fX11_between at hf
  refine e_aload_n 0 dX11_between_0 rfl rfl ?_
  refine e_iload_n 1 dX11_between_1 rfl rfl ?_
  refine e_iconst (w := 0) dX11_between_2 (by decide) ?_
  obtain ⟨r1, hg, hf⟩ := bO_some hf
  refine e_callV (as := [.int x1, .int 0]) (v := (some (.int r1))) (s' := s) hV dX11_between_3 (Or.inl rfl) rfl rfl rfl rfl (Nat.le_of_ble_eq_true rfl) lx_X rfl rfl (fun Q hQ => tX11_rowIs (d := (d + 63)) hV  hg hQ) ?_
  refine e_iconst (w := (-1)) dX11_between_6 (by decide) ?_
  refine e_icmp_eq 27 dX11_between_7 (by decide) hf (fun hf => ?_) (fun hf => ?_)
  · refine e_iconst (w := (-1)) dX11_between_27 (by decide) ?_
    obtain rfl := Option.some.inj hf
    exact e_iret dX11_between_28 trivial hP
  · refine e_aload_n 0 dX11_between_10 rfl rfl ?_
    refine e_iload_n 2 dX11_between_11 rfl rfl ?_
    obtain ⟨r2, hg, hf⟩ := bO_some hf
    refine e_callV (as := [.int x2]) (v := (some (.int r2))) (s' := s) hV dX11_between_12 (Or.inl rfl) rfl rfl rfl rfl (Nat.le_of_ble_eq_true rfl) lx_X rfl rfl (fun Q hQ => tX11_isWm (d := (d + 63)) hV  hg hQ) ?_
    refine e_if_eq 27 dX11_between_15 (by decide) hf (fun hf => ?_) (fun hf => ?_)
    · refine e_iconst (w := (-1)) dX11_between_27 (by decide) ?_
      obtain rfl := Option.some.inj hf
      exact e_iret dX11_between_28 trivial hP
    · refine e_aload_n 0 dX11_between_18 rfl rfl ?_
      refine e_iload_n 3 dX11_between_19 rfl rfl ?_
      refine e_i2l dX11_between_20 ?_
      obtain ⟨r3, hg, hf⟩ := bO_some hf
      refine e_callV (as := [.long (Int32.toInt64 x3)]) (v := (some (.int r3))) (s' := s) hV dX11_between_21 (Or.inl rfl) rfl rfl rfl rfl (Nat.le_of_ble_eq_true rfl) lx_X rfl rfl (fun Q hQ => tX11_isWriter (d := (d + 64)) hV  hg hQ) ?_
      refine e_if_ne 29 dX11_between_24 (by decide) hf (fun hf => ?_) (fun hf => ?_)
      · refine e_aload_n 0 dX11_between_29 rfl rfl ?_
        refine e_iload_n 1 dX11_between_30 rfl rfl ?_
        refine e_iconst (w := 0) dX11_between_31 (by decide) ?_
        obtain ⟨r4, hg, hf⟩ := bO_some hf
        refine e_callV (as := [.int x1, .int 0]) (v := (some (.int r4))) (s' := s) hV dX11_between_32 (Or.inl rfl) rfl rfl rfl rfl (Nat.le_of_ble_eq_true rfl) lx_X rfl rfl (fun Q hQ => tX11_rowIs (d := (d + 63)) hV  hg hQ) ?_
        refine e_if_ge 45 dX11_between_35 (by decide) hf (fun hf => ?_) (fun hf => ?_)
        · refine e_aload_n 0 dX11_between_45 rfl rfl ?_
          obtain ⟨s5, hg, hf⟩ := bO_some hf
          refine e_callV (as := []) (v := none) (s' := s5) hV dX11_between_46 (Or.inl rfl) rfl rfl rfl rfl (Nat.le_of_ble_eq_true rfl) lx_X rfl rfl (fun Q hQ => tX11_begins (d := (d + 65)) hV  hg hQ) ?_
          refine e_iconst (w := 0) dX11_between_49 (by decide) ?_
          refine e_istore dX11_between_50 (by decide) hf (fun v6 hf => ?_)
          refine e_pick [1, 2, 3, 4, 0] rfl ?_
          exact wX11_between_b52 hV hP mFu x1 x2 x3 v6 s5 hf
        · refine e_aload_n 0 dX11_between_38 rfl rfl ?_
          refine e_iload_n 1 dX11_between_39 rfl rfl ?_
          refine e_iconst (w := 0) dX11_between_40 (by decide) ?_
          obtain ⟨r11, hg, hf⟩ := bO_some hf
          refine e_callV (as := [.int x1, .int 0]) (v := (some (.int r11))) (s' := s) hV dX11_between_41 (Or.inl rfl) rfl rfl rfl rfl (Nat.le_of_ble_eq_true rfl) lx_X rfl rfl (fun Q hQ => tX11_rowIs (d := (d + 63)) hV  hg hQ) ?_
          obtain rfl := Option.some.inj hf
          exact e_iret dX11_between_44 trivial hP
      · refine e_iconst (w := (-1)) dX11_between_27 (by decide) ?_
        obtain rfl := Option.some.inj hf
        exact e_iret dX11_between_28 trivial hP

theorem dX11_firstFalse_0 : decode cX11_firstFalse 0 = .ok (.iconst 0, 1) := by decide +kernel
theorem dX11_firstFalse_1 : decode cX11_firstFalse 1 = .ok (.istore 4, 2) := by decide +kernel
theorem dX11_firstFalse_3 : decode cX11_firstFalse 3 = .ok (.iconst 3, 1) := by decide +kernel
theorem dX11_firstFalse_4 : decode cX11_firstFalse 4 = .ok (.iload 4, 2) := by decide +kernel
theorem dX11_firstFalse_6 : decode cX11_firstFalse 6 = .ok (.imul, 1) := by decide +kernel
theorem dX11_firstFalse_7 : decode cX11_firstFalse 7 = .ok (.aload_n 0, 1) := by decide +kernel
theorem dX11_firstFalse_8 : decode cX11_firstFalse 8 = .ok (.getfield 71, 3) := by decide +kernel
theorem dX11_firstFalse_11 : decode cX11_firstFalse 11 = .ok (.iload_n 1, 1) := by decide +kernel
theorem dX11_firstFalse_12 : decode cX11_firstFalse 12 = .ok (.iaload, 1) := by decide +kernel
theorem dX11_firstFalse_13 : decode cX11_firstFalse 13 = .ok (.if_icmp .ge 134, 3) := by decide +kernel
theorem dX11_firstFalse_16 : decode cX11_firstFalse 16 = .ok (.bipush 60, 2) := by decide +kernel
theorem dX11_firstFalse_18 : decode cX11_firstFalse 18 = .ok (.iload_n 1, 1) := by decide +kernel
theorem dX11_firstFalse_19 : decode cX11_firstFalse 19 = .ok (.imul, 1) := by decide +kernel
theorem dX11_firstFalse_20 : decode cX11_firstFalse 20 = .ok (.iconst 3, 1) := by decide +kernel
theorem dX11_firstFalse_21 : decode cX11_firstFalse 21 = .ok (.iload 4, 2) := by decide +kernel
theorem dX11_firstFalse_23 : decode cX11_firstFalse 23 = .ok (.imul, 1) := by decide +kernel
theorem dX11_firstFalse_24 : decode cX11_firstFalse 24 = .ok (.iadd, 1) := by decide +kernel
theorem dX11_firstFalse_25 : decode cX11_firstFalse 25 = .ok (.istore 5, 2) := by decide +kernel
theorem dX11_firstFalse_27 : decode cX11_firstFalse 27 = .ok (.iconst 3, 1) := by decide +kernel
theorem dX11_firstFalse_28 : decode cX11_firstFalse 28 = .ok (.iload 4, 2) := by decide +kernel
theorem dX11_firstFalse_30 : decode cX11_firstFalse 30 = .ok (.imul, 1) := by decide +kernel
theorem dX11_firstFalse_31 : decode cX11_firstFalse 31 = .ok (.iconst 2, 1) := by decide +kernel
theorem dX11_firstFalse_32 : decode cX11_firstFalse 32 = .ok (.iadd, 1) := by decide +kernel
theorem dX11_firstFalse_33 : decode cX11_firstFalse 33 = .ok (.aload_n 0, 1) := by decide +kernel
theorem dX11_firstFalse_34 : decode cX11_firstFalse 34 = .ok (.getfield 71, 3) := by decide +kernel
theorem dX11_firstFalse_37 : decode cX11_firstFalse 37 = .ok (.iload_n 1, 1) := by decide +kernel
theorem dX11_firstFalse_38 : decode cX11_firstFalse 38 = .ok (.iaload, 1) := by decide +kernel
theorem dX11_firstFalse_39 : decode cX11_firstFalse 39 = .ok (.if_icmp .lt 6, 3) := by decide +kernel
theorem dX11_firstFalse_42 : decode cX11_firstFalse 42 = .ok (.iload 4, 2) := by decide +kernel
theorem dX11_firstFalse_44 : decode cX11_firstFalse 44 = .ok (.ireturn, 1) := by decide +kernel
theorem dX11_firstFalse_45 : decode cX11_firstFalse 45 = .ok (.iload 4, 2) := by decide +kernel
theorem dX11_firstFalse_47 : decode cX11_firstFalse 47 = .ok (.iload_n 2, 1) := by decide +kernel
theorem dX11_firstFalse_48 : decode cX11_firstFalse 48 = .ok (.if_icmp .ne 8, 3) := by decide +kernel
theorem dX11_firstFalse_51 : decode cX11_firstFalse 51 = .ok (.iload_n 3, 1) := by decide +kernel
theorem dX11_firstFalse_52 : decode cX11_firstFalse 52 = .ok (.i2l, 1) := by decide +kernel
theorem dX11_firstFalse_53 : decode cX11_firstFalse 53 = .ok (.goto 10, 3) := by decide +kernel
theorem dX11_firstFalse_56 : decode cX11_firstFalse 56 = .ok (.aload_n 0, 1) := by decide +kernel
theorem dX11_firstFalse_57 : decode cX11_firstFalse 57 = .ok (.getfield 74, 3) := by decide +kernel
theorem dX11_firstFalse_60 : decode cX11_firstFalse 60 = .ok (.iload 5, 2) := by decide +kernel
theorem dX11_firstFalse_62 : decode cX11_firstFalse 62 = .ok (.laload, 1) := by decide +kernel
theorem dX11_firstFalse_63 : decode cX11_firstFalse 63 = .ok (.lstore 6, 2) := by decide +kernel
theorem dX11_firstFalse_65 : decode cX11_firstFalse 65 = .ok (.aload_n 0, 1) := by decide +kernel
theorem dX11_firstFalse_66 : decode cX11_firstFalse 66 = .ok (.lload 6, 2) := by decide +kernel
theorem dX11_firstFalse_68 : decode cX11_firstFalse 68 = .ok (.invokevirtual 100, 3) := by decide +kernel
theorem dX11_firstFalse_71 : decode cX11_firstFalse 71 = .ok (.ifCond .eq 50, 3) := by decide +kernel
theorem dX11_firstFalse_74 : decode cX11_firstFalse 74 = .ok (.aload_n 0, 1) := by decide +kernel
theorem dX11_firstFalse_75 : decode cX11_firstFalse 75 = .ok (.aload_n 0, 1) := by decide +kernel
theorem dX11_firstFalse_76 : decode cX11_firstFalse 76 = .ok (.getfield 74, 3) := by decide +kernel
theorem dX11_firstFalse_79 : decode cX11_firstFalse 79 = .ok (.iload 5, 2) := by decide +kernel
theorem dX11_firstFalse_81 : decode cX11_firstFalse 81 = .ok (.iconst 1, 1) := by decide +kernel
theorem dX11_firstFalse_82 : decode cX11_firstFalse 82 = .ok (.iadd, 1) := by decide +kernel
theorem dX11_firstFalse_83 : decode cX11_firstFalse 83 = .ok (.laload, 1) := by decide +kernel
theorem dX11_firstFalse_84 : decode cX11_firstFalse 84 = .ok (.invokevirtual 104, 3) := by decide +kernel
theorem dX11_firstFalse_87 : decode cX11_firstFalse 87 = .ok (.ifCond .eq 34, 3) := by decide +kernel
theorem dX11_firstFalse_90 : decode cX11_firstFalse 90 = .ok (.aload_n 0, 1) := by decide +kernel
theorem dX11_firstFalse_91 : decode cX11_firstFalse 91 = .ok (.lload 6, 2) := by decide +kernel
theorem dX11_firstFalse_93 : decode cX11_firstFalse 93 = .ok (.l2i, 1) := by decide +kernel
theorem dX11_firstFalse_94 : decode cX11_firstFalse 94 = .ok (.aload_n 0, 1) := by decide +kernel
theorem dX11_firstFalse_95 : decode cX11_firstFalse 95 = .ok (.getfield 74, 3) := by decide +kernel
theorem dX11_firstFalse_98 : decode cX11_firstFalse 98 = .ok (.iload 5, 2) := by decide +kernel
theorem dX11_firstFalse_100 : decode cX11_firstFalse 100 = .ok (.iconst 1, 1) := by decide +kernel
theorem dX11_firstFalse_101 : decode cX11_firstFalse 101 = .ok (.iadd, 1) := by decide +kernel
theorem dX11_firstFalse_102 : decode cX11_firstFalse 102 = .ok (.laload, 1) := by decide +kernel
theorem dX11_firstFalse_103 : decode cX11_firstFalse 103 = .ok (.l2i, 1) := by decide +kernel
theorem dX11_firstFalse_104 : decode cX11_firstFalse 104 = .ok (.invokevirtual 237, 3) := by decide +kernel
theorem dX11_firstFalse_107 : decode cX11_firstFalse 107 = .ok (.i2l, 1) := by decide +kernel
theorem dX11_firstFalse_108 : decode cX11_firstFalse 108 = .ok (.aload_n 0, 1) := by decide +kernel
theorem dX11_firstFalse_109 : decode cX11_firstFalse 109 = .ok (.getfield 74, 3) := by decide +kernel
theorem dX11_firstFalse_112 : decode cX11_firstFalse 112 = .ok (.iload 5, 2) := by decide +kernel
theorem dX11_firstFalse_114 : decode cX11_firstFalse 114 = .ok (.iconst 2, 1) := by decide +kernel
theorem dX11_firstFalse_115 : decode cX11_firstFalse 115 = .ok (.iadd, 1) := by decide +kernel
theorem dX11_firstFalse_116 : decode cX11_firstFalse 116 = .ok (.laload, 1) := by decide +kernel
theorem dX11_firstFalse_117 : decode cX11_firstFalse 117 = .ok (.lcmp, 1) := by decide +kernel
theorem dX11_firstFalse_118 : decode cX11_firstFalse 118 = .ok (.ifCond .eq 6, 3) := by decide +kernel
theorem dX11_firstFalse_121 : decode cX11_firstFalse 121 = .ok (.iload 4, 2) := by decide +kernel
theorem dX11_firstFalse_123 : decode cX11_firstFalse 123 = .ok (.ireturn, 1) := by decide +kernel
theorem dX11_firstFalse_124 : decode cX11_firstFalse 124 = .ok (.aload_n 0, 1) := by decide +kernel
theorem dX11_firstFalse_125 : decode cX11_firstFalse 125 = .ok (.lload 6, 2) := by decide +kernel
theorem dX11_firstFalse_127 : decode cX11_firstFalse 127 = .ok (.l2i, 1) := by decide +kernel
theorem dX11_firstFalse_128 : decode cX11_firstFalse 128 = .ok (.aload_n 0, 1) := by decide +kernel
theorem dX11_firstFalse_129 : decode cX11_firstFalse 129 = .ok (.getfield 74, 3) := by decide +kernel
theorem dX11_firstFalse_132 : decode cX11_firstFalse 132 = .ok (.iload 5, 2) := by decide +kernel
theorem dX11_firstFalse_134 : decode cX11_firstFalse 134 = .ok (.iconst 1, 1) := by decide +kernel
theorem dX11_firstFalse_135 : decode cX11_firstFalse 135 = .ok (.iadd, 1) := by decide +kernel
theorem dX11_firstFalse_136 : decode cX11_firstFalse 136 = .ok (.laload, 1) := by decide +kernel
theorem dX11_firstFalse_137 : decode cX11_firstFalse 137 = .ok (.l2i, 1) := by decide +kernel
theorem dX11_firstFalse_138 : decode cX11_firstFalse 138 = .ok (.invokevirtual 223, 3) := by decide +kernel
theorem dX11_firstFalse_141 : decode cX11_firstFalse 141 = .ok (.iinc 4 1, 3) := by decide +kernel
theorem dX11_firstFalse_144 : decode cX11_firstFalse 144 = .ok (.goto (-141), 3) := by decide +kernel
theorem dX11_firstFalse_147 : decode cX11_firstFalse 147 = .ok (.bipush (-2), 2) := by decide +kernel
theorem dX11_firstFalse_149 : decode cX11_firstFalse 149 = .ok (.ireturn, 1) := by decide +kernel
def fX11_firstFalse_b63 (K3 : Int32 → Int32 → Int32 → Int32 → mS → Option (Int32 × mS)) (y1 : Int32) (y2 : Int32) (y3 : Int32) (y4 : Int32) (y5 : Int32) (z0 : Int64) (s : mS) : Option (Int32 × mS) :=
  bnd z0 fun v6 =>
  bO (fX11_isWriter v6 s) fun r7 =>
  if r7 = 0 then
    some (y4, s)
  else
    ldL s lX_items 360 (y5 + 1) fun v8 =>
    bO (fX11_isMachine v8 s) fun r9 =>
    if r9 = 0 then
      some (y4, s)
    else
      ldL s lX_items 360 (y5 + 1) fun v10 =>
      bP (fX11_codeOf (Int64.toInt32 v6) (Int64.toInt32 v10) s) fun r11 s12 =>
      ldL s12 lX_items 360 (y5 + 2) fun v13 =>
      if (lg_cmp (Int32.toInt64 r11) v13) = 0 then
        ldL s12 lX_items 360 (y5 + 1) fun v14 =>
        bO (fX11_typesOn (Int64.toInt32 v6) (Int64.toInt32 v14) s12) fun s15 =>
        bnd (y4 + 1) fun v16 =>
        K3 y1 y2 y3 v16 s15
      else
        some (y4, s12)

def fX11_firstFalse_b3 : Nat → Int32 → Int32 → Int32 → Int32 → mS → Option (Int32 × mS)
  | 0, _, _, _, _, _ => none
  | k + 1, y1, y2, y3, y4, s =>
    ldA s aX_many 6 y1 fun v2 =>
    if v2 ≤ (3 * y4) then
      some ((-2), s)
    else
      bnd ((60 * y1) + (3 * y4)) fun v3 =>
      ldA s aX_many 6 y1 fun v4 =>
      if ((3 * y4) + 2) < v4 then
        if y4 = y2 then
          fX11_firstFalse_b63 (fun u0 u1 u2 u3 u4 => fX11_firstFalse_b3 k u0 u1 u2 u3 u4) y1 y2 y3 y4 v3 (Int32.toInt64 y3) s
        else
          ldL s lX_items 360 v3 fun v5 =>
          fX11_firstFalse_b63 (fun u0 u1 u2 u3 u4 => fX11_firstFalse_b3 k u0 u1 u2 u3 u4) y1 y2 y3 y4 v3 v5 s
      else
        some (y4, s)

def fX11_firstFalse (x1 : Int32) (x2 : Int32) (x3 : Int32) (s : mS) : Option (Int32 × mS) :=
  bnd 0 fun v1 =>
  fX11_firstFalse_b3 mFu x1 x2 x3 v1 s

set_option maxRecDepth 20000 in
theorem wX11_firstFalse_b63 {ρ : mRo} {d : Nat} {P : mPo} {V : mS → List mE} (hV : mView LX V)  {res : (Int32 × mS)} {K3 : Int32 → Int32 → Int32 → Int32 → mS → Option (Int32 × mS)} (hK3 : ∀ (y1 : Int32) (y2 : Int32) (y3 : Int32) (y4 : Int32) (s : mS), K3 y1 y2 y3 y4 s = some res → mG ρ (mC ρ (d + 66)) 11 8 cX11_firstFalse (some .int) P 3 [(0, .ref qX), (1, .int y1), (2, .int y2), (3, .int y3), (4, .int y4)] [] (V s)) (hP : P (some (.int res.1)) (V res.2)) (y1 : Int32) (y2 : Int32) (y3 : Int32) (y4 : Int32) (y5 : Int32) (z0 : Int64) (s : mS) (hf : fX11_firstFalse_b63 K3 y1 y2 y3 y4 y5 z0 s = some res) : mG ρ (mC ρ (d + 66)) 11 8 cX11_firstFalse (some .int) P 63 [(0, .ref qX), (1, .int y1), (2, .int y2), (3, .int y3), (4, .int y4), (5, .int y5)] [.long z0] (V s) := by
  unfold fX11_firstFalse_b63 at hf
  refine e_lstore dX11_firstFalse_63 (by decide) hf (fun v6 hf => ?_)
  refine e_aload_n 1 dX11_firstFalse_65 rfl rfl ?_
  refine e_lload 0 dX11_firstFalse_66 rfl ?_
  obtain ⟨r7, hg, hf⟩ := bO_some hf
  refine e_callV (as := [.long v6]) (v := (some (.int r7))) (s' := s) hV dX11_firstFalse_68 (Or.inl rfl) rfl rfl rfl rfl (Nat.le_of_ble_eq_true rfl) lx_X rfl rfl (fun Q hQ => tX11_isWriter (d := (d + 64)) hV  hg hQ) ?_
  refine e_if_eq 121 dX11_firstFalse_71 (by decide) hf (fun hf => ?_) (fun hf => ?_)
  · refine e_iload 5 dX11_firstFalse_121 rfl ?_
    obtain rfl := Option.some.inj hf
    exact e_iret dX11_firstFalse_123 trivial hP
  · refine e_aload_n 1 dX11_firstFalse_74 rfl rfl ?_
    refine e_aload_n 1 dX11_firstFalse_75 rfl rfl ?_
    refine e_getr hV dX11_firstFalse_76 rfl lx_X rfl ?_
    refine e_iload 6 dX11_firstFalse_79 rfl ?_
    refine e_iconst (w := 1) dX11_firstFalse_81 (by decide) ?_
    refine e_iadd dX11_firstFalse_82 ?_
    refine e_lald hV dX11_firstFalse_83 lx_X_items hf (fun v8 hf => ?_)
    obtain ⟨r9, hg, hf⟩ := bO_some hf
    refine e_callV (as := [.long v8]) (v := (some (.int r9))) (s' := s) hV dX11_firstFalse_84 (Or.inl rfl) rfl rfl rfl rfl (Nat.le_of_ble_eq_true rfl) lx_X rfl rfl (fun Q hQ => tX11_isMachine (d := (d + 64)) hV  hg hQ) ?_
    refine e_if_eq 121 dX11_firstFalse_87 (by decide) hf (fun hf => ?_) (fun hf => ?_)
    · refine e_iload 5 dX11_firstFalse_121 rfl ?_
      obtain rfl := Option.some.inj hf
      exact e_iret dX11_firstFalse_123 trivial hP
    · refine e_aload_n 1 dX11_firstFalse_90 rfl rfl ?_
      refine e_lload 0 dX11_firstFalse_91 rfl ?_
      refine e_l2i dX11_firstFalse_93 ?_
      refine e_aload_n 1 dX11_firstFalse_94 rfl rfl ?_
      refine e_getr hV dX11_firstFalse_95 rfl lx_X rfl ?_
      refine e_iload 6 dX11_firstFalse_98 rfl ?_
      refine e_iconst (w := 1) dX11_firstFalse_100 (by decide) ?_
      refine e_iadd dX11_firstFalse_101 ?_
      refine e_lald hV dX11_firstFalse_102 lx_X_items hf (fun v10 hf => ?_)
      refine e_l2i dX11_firstFalse_103 ?_
      obtain ⟨r11, s12, hg, hf⟩ := bP_some hf
      refine e_callV (as := [.int (Int64.toInt32 v6), .int (Int64.toInt32 v10)]) (v := (some (.int r11))) (s' := s12) hV dX11_firstFalse_104 (Or.inl rfl) rfl rfl rfl rfl (Nat.le_of_ble_eq_true rfl) lx_X rfl rfl (fun Q hQ => tX11_codeOf (d := d) hV  hg hQ) ?_
      refine e_i2l dX11_firstFalse_107 ?_
      refine e_aload_n 1 dX11_firstFalse_108 rfl rfl ?_
      refine e_getr hV dX11_firstFalse_109 rfl lx_X rfl ?_
      refine e_iload 6 dX11_firstFalse_112 rfl ?_
      refine e_iconst (w := 2) dX11_firstFalse_114 (by decide) ?_
      refine e_iadd dX11_firstFalse_115 ?_
      refine e_lald hV dX11_firstFalse_116 lx_X_items hf (fun v13 hf => ?_)
      refine e_lcmp dX11_firstFalse_117 ?_
      refine e_if_eq 124 dX11_firstFalse_118 (by decide) hf (fun hf => ?_) (fun hf => ?_)
      · refine e_aload_n 1 dX11_firstFalse_124 rfl rfl ?_
        refine e_lload 0 dX11_firstFalse_125 rfl ?_
        refine e_l2i dX11_firstFalse_127 ?_
        refine e_aload_n 1 dX11_firstFalse_128 rfl rfl ?_
        refine e_getr hV dX11_firstFalse_129 rfl lx_X rfl ?_
        refine e_iload 6 dX11_firstFalse_132 rfl ?_
        refine e_iconst (w := 1) dX11_firstFalse_134 (by decide) ?_
        refine e_iadd dX11_firstFalse_135 ?_
        refine e_lald hV dX11_firstFalse_136 lx_X_items hf (fun v14 hf => ?_)
        refine e_l2i dX11_firstFalse_137 ?_
        obtain ⟨s15, hg, hf⟩ := bO_some hf
        refine e_callV (as := [.int (Int64.toInt32 v6), .int (Int64.toInt32 v14)]) (v := none) (s' := s15) hV dX11_firstFalse_138 (Or.inl rfl) rfl rfl rfl rfl (Nat.le_of_ble_eq_true rfl) lx_X rfl rfl (fun Q hQ => tX11_typesOn (d := (d + 64)) hV  hg hQ) ?_
        refine e_iinc 5 dX11_firstFalse_141 rfl rfl hf (fun v16 hf => ?_)
        refine e_goto 3 dX11_firstFalse_144 (by decide) ?_
        refine e_pick [2, 3, 4, 5, 0] rfl ?_
        exact hK3 y1 y2 y3 v16 s15 hf
      · refine e_iload 5 dX11_firstFalse_121 rfl ?_
        obtain rfl := Option.some.inj hf
        exact e_iret dX11_firstFalse_123 trivial hP
set_option maxRecDepth 20000 in
theorem wX11_firstFalse_b3 {ρ : mRo} {d : Nat} {P : mPo} {V : mS → List mE} (hV : mView LX V)  {res : (Int32 × mS)} (hP : P (some (.int res.1)) (V res.2)) : ∀ (k : Nat) (y1 : Int32) (y2 : Int32) (y3 : Int32) (y4 : Int32) (s : mS), fX11_firstFalse_b3 k y1 y2 y3 y4 s = some res → mG ρ (mC ρ (d + 66)) 11 8 cX11_firstFalse (some .int) P 3 [(0, .ref qX), (1, .int y1), (2, .int y2), (3, .int y3), (4, .int y4)] [] (V s) := by
  intro k
  induction k with
  | zero => intro y1 y2 y3 y4 s hf; rw [fX11_firstFalse_b3] at hf; cases hf
  | succ k ih =>
    intro y1 y2 y3 y4 s hf
    rw [fX11_firstFalse_b3] at hf
    refine e_iconst (w := 3) dX11_firstFalse_3 (by decide) ?_
    refine e_iload 4 dX11_firstFalse_4 rfl ?_
    refine e_imul dX11_firstFalse_6 ?_
    refine e_aload_n 0 dX11_firstFalse_7 rfl rfl ?_
    refine e_getr hV dX11_firstFalse_8 rfl lx_X rfl ?_
    refine e_iload_n 1 dX11_firstFalse_11 rfl rfl ?_
    refine e_iald hV dX11_firstFalse_12 lx_X_many hf (fun v2 hf => ?_)
    refine e_icmp_ge 147 dX11_firstFalse_13 (by decide) hf (fun hf => ?_) (fun hf => ?_)
    · refine e_bipush (w := (-2)) dX11_firstFalse_147 (by decide) ?_
      obtain rfl := Option.some.inj hf
      exact e_iret dX11_firstFalse_149 trivial hP
    · refine e_bipush (w := 60) dX11_firstFalse_16 (by decide) ?_
      refine e_iload_n 1 dX11_firstFalse_18 rfl rfl ?_
      refine e_imul dX11_firstFalse_19 ?_
      refine e_iconst (w := 3) dX11_firstFalse_20 (by decide) ?_
      refine e_iload 4 dX11_firstFalse_21 rfl ?_
      refine e_imul dX11_firstFalse_23 ?_
      refine e_iadd dX11_firstFalse_24 ?_
      refine e_istore dX11_firstFalse_25 (by decide) hf (fun v3 hf => ?_)
      refine e_iconst (w := 3) dX11_firstFalse_27 (by decide) ?_
      refine e_iload 5 dX11_firstFalse_28 rfl ?_
      refine e_imul dX11_firstFalse_30 ?_
      refine e_iconst (w := 2) dX11_firstFalse_31 (by decide) ?_
      refine e_iadd dX11_firstFalse_32 ?_
      refine e_aload_n 1 dX11_firstFalse_33 rfl rfl ?_
      refine e_getr hV dX11_firstFalse_34 rfl lx_X rfl ?_
      refine e_iload_n 2 dX11_firstFalse_37 rfl rfl ?_
      refine e_iald hV dX11_firstFalse_38 lx_X_many hf (fun v4 hf => ?_)
      refine e_icmp_lt 45 dX11_firstFalse_39 (by decide) hf (fun hf => ?_) (fun hf => ?_)
      · refine e_iload 5 dX11_firstFalse_45 rfl ?_
        refine e_iload_n 3 dX11_firstFalse_47 rfl rfl ?_
        refine e_icmp_ne 56 dX11_firstFalse_48 (by decide) hf (fun hf => ?_) (fun hf => ?_)
        · refine e_aload_n 1 dX11_firstFalse_56 rfl rfl ?_
          refine e_getr hV dX11_firstFalse_57 rfl lx_X rfl ?_
          refine e_iload 0 dX11_firstFalse_60 rfl ?_
          refine e_lald hV dX11_firstFalse_62 lx_X_items hf (fun v5 hf => ?_)
          refine e_pick [1, 2, 3, 4, 5, 0] rfl ?_
          exact wX11_firstFalse_b63 hV ih hP y1 y2 y3 y4 v3 v5 s hf
        · refine e_iload_n 4 dX11_firstFalse_51 rfl rfl ?_
          refine e_i2l dX11_firstFalse_52 ?_
          refine e_goto 63 dX11_firstFalse_53 (by decide) ?_
          refine e_pick [1, 2, 3, 4, 5, 0] rfl ?_
          exact wX11_firstFalse_b63 hV ih hP y1 y2 y3 y4 v3 (Int32.toInt64 y3) s hf
      · refine e_iload 5 dX11_firstFalse_42 rfl ?_
        obtain rfl := Option.some.inj hf
        exact e_iret dX11_firstFalse_44 trivial hP
set_option maxRecDepth 20000 in
theorem tX11_firstFalse {ρ : mRo} {d : Nat} {P : mPo} {V : mS → List mE} (hV : mView LX V)  {x1 : Int32} {x2 : Int32} {x3 : Int32} {s : mS} {res : (Int32 × mS)} (hf : fX11_firstFalse x1 x2 x3 s = some res) (hP : P (some (.int res.1)) (V res.2)) : mC ρ (d + 67) 194 [.ref qX, .int x1, .int x2, .int x3] (V s) P := by
  refine ⟨_, rfl, Nat.le_of_ble_eq_true rfl, by decide, ?_⟩
  show mG ρ (mC ρ (d + 66)) 11 8 cX11_firstFalse (some .int) P 0 [(0, .ref qX), (1, .int x1), (2, .int x2), (3, .int x3)] [] (V s)
  unfold fX11_firstFalse at hf
  refine e_iconst (w := 0) dX11_firstFalse_0 (by decide) ?_
  refine e_istore dX11_firstFalse_1 (by decide) hf (fun v1 hf => ?_)
  refine e_pick [1, 2, 3, 4, 0] rfl ?_
  exact wX11_firstFalse_b3 hV hP mFu x1 x2 x3 v1 s hf

theorem dX11_judge_0 : decode cX11_judge 0 = .ok (.aload_n 0, 1) := by decide +kernel
theorem dX11_judge_1 : decode cX11_judge 1 = .ok (.iload_n 1, 1) := by decide +kernel
theorem dX11_judge_2 : decode cX11_judge 2 = .ok (.iconst 1, 1) := by decide +kernel
theorem dX11_judge_3 : decode cX11_judge 3 = .ok (.invokevirtual 227, 3) := by decide +kernel
theorem dX11_judge_6 : decode cX11_judge 6 = .ok (.ifCond .ge 10, 3) := by decide +kernel
theorem dX11_judge_9 : decode cX11_judge 9 = .ok (.aload_n 0, 1) := by decide +kernel
theorem dX11_judge_10 : decode cX11_judge 10 = .ok (.iload_n 1, 1) := by decide +kernel
theorem dX11_judge_11 : decode cX11_judge 11 = .ok (.iconst 1, 1) := by decide +kernel
theorem dX11_judge_12 : decode cX11_judge 12 = .ok (.invokevirtual 227, 3) := by decide +kernel
theorem dX11_judge_15 : decode cX11_judge 15 = .ok (.ireturn, 1) := by decide +kernel
theorem dX11_judge_16 : decode cX11_judge 16 = .ok (.aload_n 0, 1) := by decide +kernel
theorem dX11_judge_17 : decode cX11_judge 17 = .ok (.invokevirtual 217, 3) := by decide +kernel
theorem dX11_judge_20 : decode cX11_judge 20 = .ok (.aload_n 0, 1) := by decide +kernel
theorem dX11_judge_21 : decode cX11_judge 21 = .ok (.iload_n 1, 1) := by decide +kernel
theorem dX11_judge_22 : decode cX11_judge 22 = .ok (.iconst (-1), 1) := by decide +kernel
theorem dX11_judge_23 : decode cX11_judge 23 = .ok (.iconst 0, 1) := by decide +kernel
theorem dX11_judge_24 : decode cX11_judge 24 = .ok (.invokevirtual 252, 3) := by decide +kernel
theorem dX11_judge_27 : decode cX11_judge 27 = .ok (.ireturn, 1) := by decide +kernel
def fX11_judge (x1 : Int32) (s : mS) : Option (Int32 × mS) :=
  bO (fX11_rowIs x1 1 s) fun r1 =>
  if 0 ≤ r1 then
    bO (fX11_begins s) fun s2 =>
    bP (fX11_firstFalse x1 (-1) 0 s2) fun r3 s4 =>
    some (r3, s4)
  else
    bO (fX11_rowIs x1 1 s) fun r5 =>
    some (r5, s)

set_option maxRecDepth 20000 in
theorem tX11_judge {ρ : mRo} {d : Nat} {P : mPo} {V : mS → List mE} (hV : mView LX V)  {x1 : Int32} {s : mS} {res : (Int32 × mS)} (hf : fX11_judge x1 s = some res) (hP : P (some (.int res.1)) (V res.2)) : mC ρ (d + 68) 195 [.ref qX, .int x1] (V s) P := by
  refine ⟨_, rfl, Nat.le_of_ble_eq_true rfl, by decide, ?_⟩
  show mG ρ (mC ρ (d + 67)) 11 2 cX11_judge (some .int) P 0 [(0, .ref qX), (1, .int x1)] [] (V s)
  unfold fX11_judge at hf
  refine e_aload_n 0 dX11_judge_0 rfl rfl ?_
  refine e_iload_n 1 dX11_judge_1 rfl rfl ?_
  refine e_iconst (w := 1) dX11_judge_2 (by decide) ?_
  obtain ⟨r1, hg, hf⟩ := bO_some hf
  refine e_callV (as := [.int x1, .int 1]) (v := (some (.int r1))) (s' := s) hV dX11_judge_3 (Or.inl rfl) rfl rfl rfl rfl (Nat.le_of_ble_eq_true rfl) lx_X rfl rfl (fun Q hQ => tX11_rowIs (d := (d + 64)) hV  hg hQ) ?_
  refine e_if_ge 16 dX11_judge_6 (by decide) hf (fun hf => ?_) (fun hf => ?_)
  · refine e_aload_n 0 dX11_judge_16 rfl rfl ?_
    obtain ⟨s2, hg, hf⟩ := bO_some hf
    refine e_callV (as := []) (v := none) (s' := s2) hV dX11_judge_17 (Or.inl rfl) rfl rfl rfl rfl (Nat.le_of_ble_eq_true rfl) lx_X rfl rfl (fun Q hQ => tX11_begins (d := (d + 66)) hV  hg hQ) ?_
    refine e_aload_n 0 dX11_judge_20 rfl rfl ?_
    refine e_iload_n 1 dX11_judge_21 rfl rfl ?_
    refine e_iconst (w := (-1)) dX11_judge_22 (by decide) ?_
    refine e_iconst (w := 0) dX11_judge_23 (by decide) ?_
    obtain ⟨r3, s4, hg, hf⟩ := bP_some hf
    refine e_callV (as := [.int x1, .int (-1), .int 0]) (v := (some (.int r3))) (s' := s4) hV dX11_judge_24 (Or.inl rfl) rfl rfl rfl rfl (Nat.le_of_ble_eq_true rfl) lx_X rfl rfl (fun Q hQ => tX11_firstFalse (d := d) hV  hg hQ) ?_
    obtain rfl := Option.some.inj hf
    exact e_iret dX11_judge_27 trivial hP
  · refine e_aload_n 0 dX11_judge_9 rfl rfl ?_
    refine e_iload_n 1 dX11_judge_10 rfl rfl ?_
    refine e_iconst (w := 1) dX11_judge_11 (by decide) ?_
    obtain ⟨r5, hg, hf⟩ := bO_some hf
    refine e_callV (as := [.int x1, .int 1]) (v := (some (.int r5))) (s' := s) hV dX11_judge_12 (Or.inl rfl) rfl rfl rfl rfl (Nat.le_of_ble_eq_true rfl) lx_X rfl rfl (fun Q hQ => tX11_rowIs (d := (d + 64)) hV  hg hQ) ?_
    obtain rfl := Option.some.inj hf
    exact e_iret dX11_judge_15 trivial hP

theorem dX11_falseOne_0 : decode cX11_falseOne 0 = .ok (.aload_n 0, 1) := by decide +kernel
theorem dX11_falseOne_1 : decode cX11_falseOne 1 = .ok (.iload_n 1, 1) := by decide +kernel
theorem dX11_falseOne_2 : decode cX11_falseOne 2 = .ok (.iconst 1, 1) := by decide +kernel
theorem dX11_falseOne_3 : decode cX11_falseOne 3 = .ok (.invokevirtual 227, 3) := by decide +kernel
theorem dX11_falseOne_6 : decode cX11_falseOne 6 = .ok (.iconst (-1), 1) := by decide +kernel
theorem dX11_falseOne_7 : decode cX11_falseOne 7 = .ok (.if_icmp .eq 7, 3) := by decide +kernel
theorem dX11_falseOne_10 : decode cX11_falseOne 10 = .ok (.iload_n 2, 1) := by decide +kernel
theorem dX11_falseOne_11 : decode cX11_falseOne 11 = .ok (.ifCond .ge 5, 3) := by decide +kernel
theorem dX11_falseOne_14 : decode cX11_falseOne 14 = .ok (.iconst (-1), 1) := by decide +kernel
theorem dX11_falseOne_15 : decode cX11_falseOne 15 = .ok (.ireturn, 1) := by decide +kernel
theorem dX11_falseOne_16 : decode cX11_falseOne 16 = .ok (.aload_n 0, 1) := by decide +kernel
theorem dX11_falseOne_17 : decode cX11_falseOne 17 = .ok (.iload_n 1, 1) := by decide +kernel
theorem dX11_falseOne_18 : decode cX11_falseOne 18 = .ok (.iconst 1, 1) := by decide +kernel
theorem dX11_falseOne_19 : decode cX11_falseOne 19 = .ok (.invokevirtual 227, 3) := by decide +kernel
theorem dX11_falseOne_22 : decode cX11_falseOne 22 = .ok (.ifCond .ge 10, 3) := by decide +kernel
theorem dX11_falseOne_25 : decode cX11_falseOne 25 = .ok (.aload_n 0, 1) := by decide +kernel
theorem dX11_falseOne_26 : decode cX11_falseOne 26 = .ok (.iload_n 1, 1) := by decide +kernel
theorem dX11_falseOne_27 : decode cX11_falseOne 27 = .ok (.iconst 1, 1) := by decide +kernel
theorem dX11_falseOne_28 : decode cX11_falseOne 28 = .ok (.invokevirtual 227, 3) := by decide +kernel
theorem dX11_falseOne_31 : decode cX11_falseOne 31 = .ok (.ireturn, 1) := by decide +kernel
theorem dX11_falseOne_32 : decode cX11_falseOne 32 = .ok (.iload_n 2, 1) := by decide +kernel
theorem dX11_falseOne_33 : decode cX11_falseOne 33 = .ok (.aload_n 0, 1) := by decide +kernel
theorem dX11_falseOne_34 : decode cX11_falseOne 34 = .ok (.getfield 71, 3) := by decide +kernel
theorem dX11_falseOne_37 : decode cX11_falseOne 37 = .ok (.iload_n 1, 1) := by decide +kernel
theorem dX11_falseOne_38 : decode cX11_falseOne 38 = .ok (.iaload, 1) := by decide +kernel
theorem dX11_falseOne_39 : decode cX11_falseOne 39 = .ok (.iconst 3, 1) := by decide +kernel
theorem dX11_falseOne_40 : decode cX11_falseOne 40 = .ok (.idiv, 1) := by decide +kernel
theorem dX11_falseOne_41 : decode cX11_falseOne 41 = .ok (.if_icmp .lt 6, 3) := by decide +kernel
theorem dX11_falseOne_44 : decode cX11_falseOne 44 = .ok (.bipush (-2), 2) := by decide +kernel
theorem dX11_falseOne_46 : decode cX11_falseOne 46 = .ok (.ireturn, 1) := by decide +kernel
theorem dX11_falseOne_47 : decode cX11_falseOne 47 = .ok (.iconst 0, 1) := by decide +kernel
theorem dX11_falseOne_48 : decode cX11_falseOne 48 = .ok (.istore_n 3, 1) := by decide +kernel
theorem dX11_falseOne_49 : decode cX11_falseOne 49 = .ok (.iconst 0, 1) := by decide +kernel
theorem dX11_falseOne_50 : decode cX11_falseOne 50 = .ok (.istore 4, 2) := by decide +kernel
theorem dX11_falseOne_52 : decode cX11_falseOne 52 = .ok (.iload 4, 2) := by decide +kernel
theorem dX11_falseOne_54 : decode cX11_falseOne 54 = .ok (.aload_n 0, 1) := by decide +kernel
theorem dX11_falseOne_55 : decode cX11_falseOne 55 = .ok (.getfield 97, 3) := by decide +kernel
theorem dX11_falseOne_58 : decode cX11_falseOne 58 = .ok (.if_icmp .ge 57, 3) := by decide +kernel
theorem dX11_falseOne_61 : decode cX11_falseOne 61 = .ok (.aload_n 0, 1) := by decide +kernel
theorem dX11_falseOne_62 : decode cX11_falseOne 62 = .ok (.invokevirtual 217, 3) := by decide +kernel
theorem dX11_falseOne_65 : decode cX11_falseOne 65 = .ok (.iload_n 3, 1) := by decide +kernel
theorem dX11_falseOne_66 : decode cX11_falseOne 66 = .ok (.iload 4, 2) := by decide +kernel
theorem dX11_falseOne_68 : decode cX11_falseOne 68 = .ok (.i2l, 1) := by decide +kernel
theorem dX11_falseOne_69 : decode cX11_falseOne 69 = .ok (.aload_n 0, 1) := by decide +kernel
theorem dX11_falseOne_70 : decode cX11_falseOne 70 = .ok (.getfield 74, 3) := by decide +kernel
theorem dX11_falseOne_73 : decode cX11_falseOne 73 = .ok (.bipush 60, 2) := by decide +kernel
theorem dX11_falseOne_75 : decode cX11_falseOne 75 = .ok (.iload_n 1, 1) := by decide +kernel
theorem dX11_falseOne_76 : decode cX11_falseOne 76 = .ok (.imul, 1) := by decide +kernel
theorem dX11_falseOne_77 : decode cX11_falseOne 77 = .ok (.iconst 3, 1) := by decide +kernel
theorem dX11_falseOne_78 : decode cX11_falseOne 78 = .ok (.iload_n 2, 1) := by decide +kernel
theorem dX11_falseOne_79 : decode cX11_falseOne 79 = .ok (.imul, 1) := by decide +kernel
theorem dX11_falseOne_80 : decode cX11_falseOne 80 = .ok (.iadd, 1) := by decide +kernel
theorem dX11_falseOne_81 : decode cX11_falseOne 81 = .ok (.laload, 1) := by decide +kernel
theorem dX11_falseOne_82 : decode cX11_falseOne 82 = .ok (.lcmp, 1) := by decide +kernel
theorem dX11_falseOne_83 : decode cX11_falseOne 83 = .ok (.ifCond .eq 23, 3) := by decide +kernel
theorem dX11_falseOne_86 : decode cX11_falseOne 86 = .ok (.aload_n 0, 1) := by decide +kernel
theorem dX11_falseOne_87 : decode cX11_falseOne 87 = .ok (.iload_n 1, 1) := by decide +kernel
theorem dX11_falseOne_88 : decode cX11_falseOne 88 = .ok (.iload_n 2, 1) := by decide +kernel
theorem dX11_falseOne_89 : decode cX11_falseOne 89 = .ok (.iload 4, 2) := by decide +kernel
theorem dX11_falseOne_91 : decode cX11_falseOne 91 = .ok (.invokevirtual 252, 3) := by decide +kernel
theorem dX11_falseOne_94 : decode cX11_falseOne 94 = .ok (.bipush (-2), 2) := by decide +kernel
theorem dX11_falseOne_96 : decode cX11_falseOne 96 = .ok (.if_icmp .ne 10, 3) := by decide +kernel
theorem dX11_falseOne_99 : decode cX11_falseOne 99 = .ok (.iconst 1, 1) := by decide +kernel
theorem dX11_falseOne_100 : decode cX11_falseOne 100 = .ok (.iload 4, 2) := by decide +kernel
theorem dX11_falseOne_102 : decode cX11_falseOne 102 = .ok (.ishl, 1) := by decide +kernel
theorem dX11_falseOne_103 : decode cX11_falseOne 103 = .ok (.goto 4, 3) := by decide +kernel
theorem dX11_falseOne_106 : decode cX11_falseOne 106 = .ok (.iconst 0, 1) := by decide +kernel
theorem dX11_falseOne_107 : decode cX11_falseOne 107 = .ok (.ior, 1) := by decide +kernel
theorem dX11_falseOne_108 : decode cX11_falseOne 108 = .ok (.istore_n 3, 1) := by decide +kernel
theorem dX11_falseOne_109 : decode cX11_falseOne 109 = .ok (.iinc 4 1, 3) := by decide +kernel
theorem dX11_falseOne_112 : decode cX11_falseOne 112 = .ok (.goto (-60), 3) := by decide +kernel
theorem dX11_falseOne_115 : decode cX11_falseOne 115 = .ok (.iload_n 3, 1) := by decide +kernel
theorem dX11_falseOne_116 : decode cX11_falseOne 116 = .ok (.ireturn, 1) := by decide +kernel
def fX11_falseOne_b107 (K52 : Int32 → Int32 → Int32 → Int32 → mS → Option (Int32 × mS)) (y1 : Int32) (y2 : Int32) (y4 : Int32) (z0 : Int32) (z1 : Int32) (s : mS) : Option (Int32 × mS) :=
  bnd (z1 ||| z0) fun v8 =>
  bnd (y4 + 1) fun v9 =>
  K52 y1 y2 v8 v9 s

def fX11_falseOne_b106 (K52 : Int32 → Int32 → Int32 → Int32 → mS → Option (Int32 × mS)) (y1 : Int32) (y2 : Int32) (y4 : Int32) (z0 : Int32) (s : mS) : Option (Int32 × mS) :=
  fX11_falseOne_b107 K52 y1 y2 y4 0 z0 s

def fX11_falseOne_b52 : Nat → Int32 → Int32 → Int32 → Int32 → mS → Option (Int32 × mS)
  | 0, _, _, _, _, _ => none
  | k + 1, y1, y2, y3, y4, s =>
    if (gI s iX_writers) ≤ y4 then
      some (y3, s)
    else
      bO (fX11_begins s) fun s6 =>
      ldL s6 lX_items 360 ((60 * y1) + (3 * y2)) fun v7 =>
      if (lg_cmp (Int32.toInt64 y4) v7) = 0 then
        fX11_falseOne_b106 (fun u0 u1 u2 u3 u4 => fX11_falseOne_b52 k u0 u1 u2 u3 u4) y1 y2 y4 y3 s6
      else
        bP (fX11_firstFalse y1 y2 y4 s6) fun r10 s11 =>
        if r10 = (-2) then
          fX11_falseOne_b107 (fun u0 u1 u2 u3 u4 => fX11_falseOne_b52 k u0 u1 u2 u3 u4) y1 y2 y4 ((1 : Int32) <<< (y4 &&& 31)) y3 s11
        else
          fX11_falseOne_b106 (fun u0 u1 u2 u3 u4 => fX11_falseOne_b52 k u0 u1 u2 u3 u4) y1 y2 y4 y3 s11

def fX11_falseOne (x1 : Int32) (x2 : Int32) (s : mS) : Option (Int32 × mS) :=
  bO (fX11_rowIs x1 1 s) fun r1 =>
  if r1 = (-1) then
    some ((-1), s)
  else
    if 0 ≤ x2 then
      bO (fX11_rowIs x1 1 s) fun r2 =>
      if 0 ≤ r2 then
        ldA s aX_many 6 x1 fun v3 =>
        if x2 < (v3 / 3) then
          bnd 0 fun v4 =>
          bnd 0 fun v5 =>
          fX11_falseOne_b52 mFu x1 x2 v4 v5 s
        else
          some ((-2), s)
      else
        bO (fX11_rowIs x1 1 s) fun r12 =>
        some (r12, s)
    else
      some ((-1), s)

set_option maxRecDepth 20000 in
theorem wX11_falseOne_b107 {ρ : mRo} {d : Nat} {P : mPo} {V : mS → List mE} (hV : mView LX V)  {res : (Int32 × mS)} {K52 : Int32 → Int32 → Int32 → Int32 → mS → Option (Int32 × mS)} (hK52 : ∀ (y1 : Int32) (y2 : Int32) (y3 : Int32) (y4 : Int32) (s : mS), K52 y1 y2 y3 y4 s = some res → mG ρ (mC ρ (d + 67)) 11 5 cX11_falseOne (some .int) P 52 [(0, .ref qX), (1, .int y1), (2, .int y2), (3, .int y3), (4, .int y4)] [] (V s)) (hP : P (some (.int res.1)) (V res.2)) (y1 : Int32) (y2 : Int32) (y4 : Int32) (z0 : Int32) (z1 : Int32) (s : mS) (hf : fX11_falseOne_b107 K52 y1 y2 y4 z0 z1 s = some res) : mG ρ (mC ρ (d + 67)) 11 5 cX11_falseOne (some .int) P 107 [(0, .ref qX), (1, .int y1), (2, .int y2), (4, .int y4)] [.int z0, .int z1] (V s) := by
  unfold fX11_falseOne_b107 at hf
  refine e_ior dX11_falseOne_107 ?_
  refine e_istore_n dX11_falseOne_108 rfl (by decide) hf (fun v8 hf => ?_)
  refine e_iinc 4 dX11_falseOne_109 rfl rfl hf (fun v9 hf => ?_)
  refine e_goto 52 dX11_falseOne_112 (by decide) ?_
  refine e_pick [2, 3, 4, 1, 0] rfl ?_
  exact hK52 y1 y2 v8 v9 s hf
set_option maxRecDepth 20000 in
theorem wX11_falseOne_b106 {ρ : mRo} {d : Nat} {P : mPo} {V : mS → List mE} (hV : mView LX V)  {res : (Int32 × mS)} {K52 : Int32 → Int32 → Int32 → Int32 → mS → Option (Int32 × mS)} (hK52 : ∀ (y1 : Int32) (y2 : Int32) (y3 : Int32) (y4 : Int32) (s : mS), K52 y1 y2 y3 y4 s = some res → mG ρ (mC ρ (d + 67)) 11 5 cX11_falseOne (some .int) P 52 [(0, .ref qX), (1, .int y1), (2, .int y2), (3, .int y3), (4, .int y4)] [] (V s)) (hP : P (some (.int res.1)) (V res.2)) (y1 : Int32) (y2 : Int32) (y4 : Int32) (z0 : Int32) (s : mS) (hf : fX11_falseOne_b106 K52 y1 y2 y4 z0 s = some res) : mG ρ (mC ρ (d + 67)) 11 5 cX11_falseOne (some .int) P 106 [(0, .ref qX), (1, .int y1), (2, .int y2), (4, .int y4)] [.int z0] (V s) := by
  unfold fX11_falseOne_b106 at hf
  refine e_iconst (w := 0) dX11_falseOne_106 (by decide) ?_
  refine e_pick [0, 1, 2, 3] rfl ?_
  exact wX11_falseOne_b107 hV hK52 hP y1 y2 y4 0 z0 s hf
set_option maxRecDepth 20000 in
theorem wX11_falseOne_b52 {ρ : mRo} {d : Nat} {P : mPo} {V : mS → List mE} (hV : mView LX V)  {res : (Int32 × mS)} (hP : P (some (.int res.1)) (V res.2)) : ∀ (k : Nat) (y1 : Int32) (y2 : Int32) (y3 : Int32) (y4 : Int32) (s : mS), fX11_falseOne_b52 k y1 y2 y3 y4 s = some res → mG ρ (mC ρ (d + 67)) 11 5 cX11_falseOne (some .int) P 52 [(0, .ref qX), (1, .int y1), (2, .int y2), (3, .int y3), (4, .int y4)] [] (V s) := by
  intro k
  induction k with
  | zero => intro y1 y2 y3 y4 s hf; rw [fX11_falseOne_b52] at hf; cases hf
  | succ k ih =>
    intro y1 y2 y3 y4 s hf
    rw [fX11_falseOne_b52] at hf
    refine e_iload 4 dX11_falseOne_52 rfl ?_
    refine e_aload_n 0 dX11_falseOne_54 rfl rfl ?_
    refine e_geti hV dX11_falseOne_55 rfl lx_X rfl ?_
    refine e_icmp_ge 115 dX11_falseOne_58 (by decide) hf (fun hf => ?_) (fun hf => ?_)
    · refine e_iload_n 3 dX11_falseOne_115 rfl rfl ?_
      obtain rfl := Option.some.inj hf
      exact e_iret dX11_falseOne_116 trivial hP
    · refine e_aload_n 0 dX11_falseOne_61 rfl rfl ?_
      obtain ⟨s6, hg, hf⟩ := bO_some hf
      refine e_callV (as := []) (v := none) (s' := s6) hV dX11_falseOne_62 (Or.inl rfl) rfl rfl rfl rfl (Nat.le_of_ble_eq_true rfl) lx_X rfl rfl (fun Q hQ => tX11_begins (d := (d + 66)) hV  hg hQ) ?_
      refine e_iload_n 3 dX11_falseOne_65 rfl rfl ?_
      refine e_iload 4 dX11_falseOne_66 rfl ?_
      refine e_i2l dX11_falseOne_68 ?_
      refine e_aload_n 0 dX11_falseOne_69 rfl rfl ?_
      refine e_getr hV dX11_falseOne_70 rfl lx_X rfl ?_
      refine e_bipush (w := 60) dX11_falseOne_73 (by decide) ?_
      refine e_iload_n 1 dX11_falseOne_75 rfl rfl ?_
      refine e_imul dX11_falseOne_76 ?_
      refine e_iconst (w := 3) dX11_falseOne_77 (by decide) ?_
      refine e_iload_n 2 dX11_falseOne_78 rfl rfl ?_
      refine e_imul dX11_falseOne_79 ?_
      refine e_iadd dX11_falseOne_80 ?_
      refine e_lald hV dX11_falseOne_81 lx_X_items hf (fun v7 hf => ?_)
      refine e_lcmp dX11_falseOne_82 ?_
      refine e_if_eq 106 dX11_falseOne_83 (by decide) hf (fun hf => ?_) (fun hf => ?_)
      · refine e_pick [0, 1, 2, 4] rfl ?_
        exact wX11_falseOne_b106 hV ih hP y1 y2 y4 y3 s6 hf
      · refine e_aload_n 0 dX11_falseOne_86 rfl rfl ?_
        refine e_iload_n 1 dX11_falseOne_87 rfl rfl ?_
        refine e_iload_n 2 dX11_falseOne_88 rfl rfl ?_
        refine e_iload 4 dX11_falseOne_89 rfl ?_
        obtain ⟨r10, s11, hg, hf⟩ := bP_some hf
        refine e_callV (as := [.int y1, .int y2, .int y4]) (v := (some (.int r10))) (s' := s11) hV dX11_falseOne_91 (Or.inl rfl) rfl rfl rfl rfl (Nat.le_of_ble_eq_true rfl) lx_X rfl rfl (fun Q hQ => tX11_firstFalse (d := d) hV  hg hQ) ?_
        refine e_bipush (w := (-2)) dX11_falseOne_94 (by decide) ?_
        refine e_icmp_ne 106 dX11_falseOne_96 (by decide) hf (fun hf => ?_) (fun hf => ?_)
        · refine e_pick [0, 1, 2, 4] rfl ?_
          exact wX11_falseOne_b106 hV ih hP y1 y2 y4 y3 s11 hf
        · refine e_iconst (w := 1) dX11_falseOne_99 (by decide) ?_
          refine e_iload 4 dX11_falseOne_100 rfl ?_
          refine e_ishl dX11_falseOne_102 ?_
          refine e_goto 107 dX11_falseOne_103 (by decide) ?_
          refine e_pick [0, 1, 2, 4] rfl ?_
          exact wX11_falseOne_b107 hV ih hP y1 y2 y4 ((1 : Int32) <<< (y4 &&& 31)) y3 s11 hf
set_option maxRecDepth 20000 in
theorem tX11_falseOne {ρ : mRo} {d : Nat} {P : mPo} {V : mS → List mE} (hV : mView LX V)  {x1 : Int32} {x2 : Int32} {s : mS} {res : (Int32 × mS)} (hf : fX11_falseOne x1 x2 s = some res) (hP : P (some (.int res.1)) (V res.2)) : mC ρ (d + 68) 196 [.ref qX, .int x1, .int x2] (V s) P := by
  refine ⟨_, rfl, Nat.le_of_ble_eq_true rfl, by decide, ?_⟩
  show mG ρ (mC ρ (d + 67)) 11 5 cX11_falseOne (some .int) P 0 [(0, .ref qX), (1, .int x1), (2, .int x2)] [] (V s)
  unfold fX11_falseOne at hf
  refine e_aload_n 0 dX11_falseOne_0 rfl rfl ?_
  refine e_iload_n 1 dX11_falseOne_1 rfl rfl ?_
  refine e_iconst (w := 1) dX11_falseOne_2 (by decide) ?_
  obtain ⟨r1, hg, hf⟩ := bO_some hf
  refine e_callV (as := [.int x1, .int 1]) (v := (some (.int r1))) (s' := s) hV dX11_falseOne_3 (Or.inl rfl) rfl rfl rfl rfl (Nat.le_of_ble_eq_true rfl) lx_X rfl rfl (fun Q hQ => tX11_rowIs (d := (d + 64)) hV  hg hQ) ?_
  refine e_iconst (w := (-1)) dX11_falseOne_6 (by decide) ?_
  refine e_icmp_eq 14 dX11_falseOne_7 (by decide) hf (fun hf => ?_) (fun hf => ?_)
  · refine e_iconst (w := (-1)) dX11_falseOne_14 (by decide) ?_
    obtain rfl := Option.some.inj hf
    exact e_iret dX11_falseOne_15 trivial hP
  · refine e_iload_n 2 dX11_falseOne_10 rfl rfl ?_
    refine e_if_ge 16 dX11_falseOne_11 (by decide) hf (fun hf => ?_) (fun hf => ?_)
    · refine e_aload_n 0 dX11_falseOne_16 rfl rfl ?_
      refine e_iload_n 1 dX11_falseOne_17 rfl rfl ?_
      refine e_iconst (w := 1) dX11_falseOne_18 (by decide) ?_
      obtain ⟨r2, hg, hf⟩ := bO_some hf
      refine e_callV (as := [.int x1, .int 1]) (v := (some (.int r2))) (s' := s) hV dX11_falseOne_19 (Or.inl rfl) rfl rfl rfl rfl (Nat.le_of_ble_eq_true rfl) lx_X rfl rfl (fun Q hQ => tX11_rowIs (d := (d + 64)) hV  hg hQ) ?_
      refine e_if_ge 32 dX11_falseOne_22 (by decide) hf (fun hf => ?_) (fun hf => ?_)
      · refine e_iload_n 2 dX11_falseOne_32 rfl rfl ?_
        refine e_aload_n 0 dX11_falseOne_33 rfl rfl ?_
        refine e_getr hV dX11_falseOne_34 rfl lx_X rfl ?_
        refine e_iload_n 1 dX11_falseOne_37 rfl rfl ?_
        refine e_iald hV dX11_falseOne_38 lx_X_many hf (fun v3 hf => ?_)
        refine e_iconst (w := 3) dX11_falseOne_39 (by decide) ?_
        refine e_idiv dX11_falseOne_40 (by decide) ?_
        refine e_icmp_lt 47 dX11_falseOne_41 (by decide) hf (fun hf => ?_) (fun hf => ?_)
        · refine e_iconst (w := 0) dX11_falseOne_47 (by decide) ?_
          refine e_istore_n dX11_falseOne_48 rfl (by decide) hf (fun v4 hf => ?_)
          refine e_iconst (w := 0) dX11_falseOne_49 (by decide) ?_
          refine e_istore dX11_falseOne_50 (by decide) hf (fun v5 hf => ?_)
          refine e_pick [2, 3, 4, 1, 0] rfl ?_
          exact wX11_falseOne_b52 hV hP mFu x1 x2 v4 v5 s hf
        · refine e_bipush (w := (-2)) dX11_falseOne_44 (by decide) ?_
          obtain rfl := Option.some.inj hf
          exact e_iret dX11_falseOne_46 trivial hP
      · refine e_aload_n 0 dX11_falseOne_25 rfl rfl ?_
        refine e_iload_n 1 dX11_falseOne_26 rfl rfl ?_
        refine e_iconst (w := 1) dX11_falseOne_27 (by decide) ?_
        obtain ⟨r12, hg, hf⟩ := bO_some hf
        refine e_callV (as := [.int x1, .int 1]) (v := (some (.int r12))) (s' := s) hV dX11_falseOne_28 (Or.inl rfl) rfl rfl rfl rfl (Nat.le_of_ble_eq_true rfl) lx_X rfl rfl (fun Q hQ => tX11_rowIs (d := (d + 64)) hV  hg hQ) ?_
        obtain rfl := Option.some.inj hf
        exact e_iret dX11_falseOne_31 trivial hP
    · refine e_iconst (w := (-1)) dX11_falseOne_14 (by decide) ?_
      obtain rfl := Option.some.inj hf
      exact e_iret dX11_falseOne_15 trivial hP

theorem dX11_ribbons_0 : decode cX11_ribbons 0 = .ok (.aload_n 0, 1) := by decide +kernel
theorem dX11_ribbons_1 : decode cX11_ribbons 1 = .ok (.iload_n 1, 1) := by decide +kernel
theorem dX11_ribbons_2 : decode cX11_ribbons 2 = .ok (.iconst 1, 1) := by decide +kernel
theorem dX11_ribbons_3 : decode cX11_ribbons 3 = .ok (.invokevirtual 227, 3) := by decide +kernel
theorem dX11_ribbons_6 : decode cX11_ribbons 6 = .ok (.iconst (-1), 1) := by decide +kernel
theorem dX11_ribbons_7 : decode cX11_ribbons 7 = .ok (.if_icmp .eq 13, 3) := by decide +kernel
theorem dX11_ribbons_10 : decode cX11_ribbons 10 = .ok (.iload_n 2, 1) := by decide +kernel
theorem dX11_ribbons_11 : decode cX11_ribbons 11 = .ok (.i2l, 1) := by decide +kernel
theorem dX11_ribbons_12 : decode cX11_ribbons 12 = .ok (.lconst 0, 1) := by decide +kernel
theorem dX11_ribbons_13 : decode cX11_ribbons 13 = .ok (.lconst 1, 1) := by decide +kernel
theorem dX11_ribbons_14 : decode cX11_ribbons 14 = .ok (.invokestatic 93, 3) := by decide +kernel
theorem dX11_ribbons_17 : decode cX11_ribbons 17 = .ok (.ifCond .ne 5, 3) := by decide +kernel
theorem dX11_ribbons_20 : decode cX11_ribbons 20 = .ok (.iconst (-1), 1) := by decide +kernel
theorem dX11_ribbons_21 : decode cX11_ribbons 21 = .ok (.ireturn, 1) := by decide +kernel
theorem dX11_ribbons_22 : decode cX11_ribbons 22 = .ok (.aload_n 0, 1) := by decide +kernel
theorem dX11_ribbons_23 : decode cX11_ribbons 23 = .ok (.iload_n 1, 1) := by decide +kernel
theorem dX11_ribbons_24 : decode cX11_ribbons 24 = .ok (.iconst 1, 1) := by decide +kernel
theorem dX11_ribbons_25 : decode cX11_ribbons 25 = .ok (.invokevirtual 227, 3) := by decide +kernel
theorem dX11_ribbons_28 : decode cX11_ribbons 28 = .ok (.ifCond .ge 10, 3) := by decide +kernel
theorem dX11_ribbons_31 : decode cX11_ribbons 31 = .ok (.aload_n 0, 1) := by decide +kernel
theorem dX11_ribbons_32 : decode cX11_ribbons 32 = .ok (.iload_n 1, 1) := by decide +kernel
theorem dX11_ribbons_33 : decode cX11_ribbons 33 = .ok (.iconst 1, 1) := by decide +kernel
theorem dX11_ribbons_34 : decode cX11_ribbons 34 = .ok (.invokevirtual 227, 3) := by decide +kernel
theorem dX11_ribbons_37 : decode cX11_ribbons 37 = .ok (.ireturn, 1) := by decide +kernel
theorem dX11_ribbons_38 : decode cX11_ribbons 38 = .ok (.iconst 0, 1) := by decide +kernel
theorem dX11_ribbons_39 : decode cX11_ribbons 39 = .ok (.istore_n 3, 1) := by decide +kernel
theorem dX11_ribbons_40 : decode cX11_ribbons 40 = .ok (.bipush (-2), 2) := by decide +kernel
theorem dX11_ribbons_42 : decode cX11_ribbons 42 = .ok (.istore 4, 2) := by decide +kernel
theorem dX11_ribbons_44 : decode cX11_ribbons 44 = .ok (.iconst 0, 1) := by decide +kernel
theorem dX11_ribbons_45 : decode cX11_ribbons 45 = .ok (.istore 5, 2) := by decide +kernel
theorem dX11_ribbons_47 : decode cX11_ribbons 47 = .ok (.iload 5, 2) := by decide +kernel
theorem dX11_ribbons_49 : decode cX11_ribbons 49 = .ok (.bipush 9, 2) := by decide +kernel
theorem dX11_ribbons_51 : decode cX11_ribbons 51 = .ok (.if_icmp .gt 47, 3) := by decide +kernel
theorem dX11_ribbons_54 : decode cX11_ribbons 54 = .ok (.aload_n 0, 1) := by decide +kernel
theorem dX11_ribbons_55 : decode cX11_ribbons 55 = .ok (.invokevirtual 217, 3) := by decide +kernel
theorem dX11_ribbons_58 : decode cX11_ribbons 58 = .ok (.aload_n 0, 1) := by decide +kernel
theorem dX11_ribbons_59 : decode cX11_ribbons 59 = .ok (.iload 5, 2) := by decide +kernel
theorem dX11_ribbons_61 : decode cX11_ribbons 61 = .ok (.putfield 195, 3) := by decide +kernel
theorem dX11_ribbons_64 : decode cX11_ribbons 64 = .ok (.aload_n 0, 1) := by decide +kernel
theorem dX11_ribbons_65 : decode cX11_ribbons 65 = .ok (.iload_n 1, 1) := by decide +kernel
theorem dX11_ribbons_66 : decode cX11_ribbons 66 = .ok (.iconst (-1), 1) := by decide +kernel
theorem dX11_ribbons_67 : decode cX11_ribbons 67 = .ok (.iconst 0, 1) := by decide +kernel
theorem dX11_ribbons_68 : decode cX11_ribbons 68 = .ok (.invokevirtual 252, 3) := by decide +kernel
theorem dX11_ribbons_71 : decode cX11_ribbons 71 = .ok (.bipush (-2), 2) := by decide +kernel
theorem dX11_ribbons_73 : decode cX11_ribbons 73 = .ok (.if_icmp .ne 19, 3) := by decide +kernel
theorem dX11_ribbons_76 : decode cX11_ribbons 76 = .ok (.iload_n 3, 1) := by decide +kernel
theorem dX11_ribbons_77 : decode cX11_ribbons 77 = .ok (.ifCond .ne 8, 3) := by decide +kernel
theorem dX11_ribbons_80 : decode cX11_ribbons 80 = .ok (.iload 5, 2) := by decide +kernel
theorem dX11_ribbons_82 : decode cX11_ribbons 82 = .ok (.goto 5, 3) := by decide +kernel
theorem dX11_ribbons_85 : decode cX11_ribbons 85 = .ok (.iload 4, 2) := by decide +kernel
theorem dX11_ribbons_87 : decode cX11_ribbons 87 = .ok (.istore 4, 2) := by decide +kernel
theorem dX11_ribbons_89 : decode cX11_ribbons 89 = .ok (.iinc 3 1, 3) := by decide +kernel
theorem dX11_ribbons_92 : decode cX11_ribbons 92 = .ok (.iinc 5 1, 3) := by decide +kernel
theorem dX11_ribbons_95 : decode cX11_ribbons 95 = .ok (.goto (-48), 3) := by decide +kernel
theorem dX11_ribbons_98 : decode cX11_ribbons 98 = .ok (.iload_n 2, 1) := by decide +kernel
theorem dX11_ribbons_99 : decode cX11_ribbons 99 = .ok (.ifCond .ne 7, 3) := by decide +kernel
theorem dX11_ribbons_102 : decode cX11_ribbons 102 = .ok (.iload_n 3, 1) := by decide +kernel
theorem dX11_ribbons_103 : decode cX11_ribbons 103 = .ok (.goto 5, 3) := by decide +kernel
theorem dX11_ribbons_106 : decode cX11_ribbons 106 = .ok (.iload 4, 2) := by decide +kernel
theorem dX11_ribbons_108 : decode cX11_ribbons 108 = .ok (.ireturn, 1) := by decide +kernel
def fX11_ribbons_b92 (K47 : Int32 → Int32 → Int32 → Int32 → Int32 → mS → Option (Int32 × mS)) (y1 : Int32) (y2 : Int32) (y3 : Int32) (y4 : Int32) (y5 : Int32) (s : mS) : Option (Int32 × mS) :=
  bnd (y5 + 1) fun v11 =>
  K47 y1 y2 y3 y4 v11 s

def fX11_ribbons_b87 (K47 : Int32 → Int32 → Int32 → Int32 → Int32 → mS → Option (Int32 × mS)) (y1 : Int32) (y2 : Int32) (y3 : Int32) (y5 : Int32) (z0 : Int32) (s : mS) : Option (Int32 × mS) :=
  bnd z0 fun v12 =>
  bnd (y3 + 1) fun v13 =>
  fX11_ribbons_b92 K47 y1 y2 v13 v12 y5 s

def fX11_ribbons_b47 : Nat → Int32 → Int32 → Int32 → Int32 → Int32 → mS → Option (Int32 × mS)
  | 0, _, _, _, _, _, _ => none
  | k + 1, y1, y2, y3, y4, y5, s =>
    if 9 < y5 then
      if y2 = 0 then
        some (y3, s)
      else
        some (y4, s)
    else
      bO (fX11_begins s) fun s7 =>
      bnd (pI s7 iX_ribbon y5) fun s8 =>
      bP (fX11_firstFalse y1 (-1) 0 s8) fun r9 s10 =>
      if r9 = (-2) then
        if y3 = 0 then
          fX11_ribbons_b87 (fun u0 u1 u2 u3 u4 u5 => fX11_ribbons_b47 k u0 u1 u2 u3 u4 u5) y1 y2 y3 y5 y5 s10
        else
          fX11_ribbons_b87 (fun u0 u1 u2 u3 u4 u5 => fX11_ribbons_b47 k u0 u1 u2 u3 u4 u5) y1 y2 y3 y5 y4 s10
      else
        fX11_ribbons_b92 (fun u0 u1 u2 u3 u4 u5 => fX11_ribbons_b47 k u0 u1 u2 u3 u4 u5) y1 y2 y3 y4 y5 s10

def fX11_ribbons (x1 : Int32) (x2 : Int32) (s : mS) : Option (Int32 × mS) :=
  bO (fX11_rowIs x1 1 s) fun r1 =>
  if r1 = (-1) then
    some ((-1), s)
  else
    bO (fX11_within (Int32.toInt64 x2) 0 1 s) fun r2 =>
    if r2 = 0 then
      some ((-1), s)
    else
      bO (fX11_rowIs x1 1 s) fun r3 =>
      if 0 ≤ r3 then
        bnd 0 fun v4 =>
        bnd (-2) fun v5 =>
        bnd 0 fun v6 =>
        fX11_ribbons_b47 mFu x1 x2 v4 v5 v6 s
      else
        bO (fX11_rowIs x1 1 s) fun r14 =>
        some (r14, s)

set_option maxRecDepth 20000 in
theorem wX11_ribbons_b92 {ρ : mRo} {d : Nat} {P : mPo} {V : mS → List mE} (hV : mView LX V)  {res : (Int32 × mS)} {K47 : Int32 → Int32 → Int32 → Int32 → Int32 → mS → Option (Int32 × mS)} (hK47 : ∀ (y1 : Int32) (y2 : Int32) (y3 : Int32) (y4 : Int32) (y5 : Int32) (s : mS), K47 y1 y2 y3 y4 y5 s = some res → mG ρ (mC ρ (d + 67)) 11 6 cX11_ribbons (some .int) P 47 [(0, .ref qX), (1, .int y1), (2, .int y2), (3, .int y3), (4, .int y4), (5, .int y5)] [] (V s)) (hP : P (some (.int res.1)) (V res.2)) (y1 : Int32) (y2 : Int32) (y3 : Int32) (y4 : Int32) (y5 : Int32) (s : mS) (hf : fX11_ribbons_b92 K47 y1 y2 y3 y4 y5 s = some res) : mG ρ (mC ρ (d + 67)) 11 6 cX11_ribbons (some .int) P 92 [(0, .ref qX), (1, .int y1), (2, .int y2), (3, .int y3), (4, .int y4), (5, .int y5)] [] (V s) := by
  unfold fX11_ribbons_b92 at hf
  refine e_iinc 5 dX11_ribbons_92 rfl rfl hf (fun v11 hf => ?_)
  refine e_goto 47 dX11_ribbons_95 (by decide) ?_
  refine e_pick [1, 2, 3, 4, 5, 0] rfl ?_
  exact hK47 y1 y2 y3 y4 v11 s hf
set_option maxRecDepth 20000 in
theorem wX11_ribbons_b87 {ρ : mRo} {d : Nat} {P : mPo} {V : mS → List mE} (hV : mView LX V)  {res : (Int32 × mS)} {K47 : Int32 → Int32 → Int32 → Int32 → Int32 → mS → Option (Int32 × mS)} (hK47 : ∀ (y1 : Int32) (y2 : Int32) (y3 : Int32) (y4 : Int32) (y5 : Int32) (s : mS), K47 y1 y2 y3 y4 y5 s = some res → mG ρ (mC ρ (d + 67)) 11 6 cX11_ribbons (some .int) P 47 [(0, .ref qX), (1, .int y1), (2, .int y2), (3, .int y3), (4, .int y4), (5, .int y5)] [] (V s)) (hP : P (some (.int res.1)) (V res.2)) (y1 : Int32) (y2 : Int32) (y3 : Int32) (y5 : Int32) (z0 : Int32) (s : mS) (hf : fX11_ribbons_b87 K47 y1 y2 y3 y5 z0 s = some res) : mG ρ (mC ρ (d + 67)) 11 6 cX11_ribbons (some .int) P 87 [(0, .ref qX), (1, .int y1), (2, .int y2), (3, .int y3), (5, .int y5)] [.int z0] (V s) := by
  unfold fX11_ribbons_b87 at hf
  refine e_istore dX11_ribbons_87 (by decide) hf (fun v12 hf => ?_)
  refine e_iinc 4 dX11_ribbons_89 rfl rfl hf (fun v13 hf => ?_)
  refine e_pick [2, 3, 4, 0, 1, 5] rfl ?_
  exact wX11_ribbons_b92 hV hK47 hP y1 y2 v13 v12 y5 s hf
set_option maxRecDepth 20000 in
theorem wX11_ribbons_b47 {ρ : mRo} {d : Nat} {P : mPo} {V : mS → List mE} (hV : mView LX V)  {res : (Int32 × mS)} (hP : P (some (.int res.1)) (V res.2)) : ∀ (k : Nat) (y1 : Int32) (y2 : Int32) (y3 : Int32) (y4 : Int32) (y5 : Int32) (s : mS), fX11_ribbons_b47 k y1 y2 y3 y4 y5 s = some res → mG ρ (mC ρ (d + 67)) 11 6 cX11_ribbons (some .int) P 47 [(0, .ref qX), (1, .int y1), (2, .int y2), (3, .int y3), (4, .int y4), (5, .int y5)] [] (V s) := by
  intro k
  induction k with
  | zero => intro y1 y2 y3 y4 y5 s hf; rw [fX11_ribbons_b47] at hf; cases hf
  | succ k ih =>
    intro y1 y2 y3 y4 y5 s hf
    rw [fX11_ribbons_b47] at hf
    refine e_iload 5 dX11_ribbons_47 rfl ?_
    refine e_bipush (w := 9) dX11_ribbons_49 (by decide) ?_
    refine e_icmp_gt 98 dX11_ribbons_51 (by decide) hf (fun hf => ?_) (fun hf => ?_)
    · refine e_iload_n 2 dX11_ribbons_98 rfl rfl ?_
      refine e_if_ne 106 dX11_ribbons_99 (by decide) hf (fun hf => ?_) (fun hf => ?_)
      · refine e_iload 4 dX11_ribbons_106 rfl ?_
        obtain rfl := Option.some.inj hf
        exact e_iret dX11_ribbons_108 trivial hP
      · refine e_iload_n 3 dX11_ribbons_102 rfl rfl ?_
        refine e_goto 108 dX11_ribbons_103 (by decide) ?_
        obtain rfl := Option.some.inj hf
        exact e_iret dX11_ribbons_108 trivial hP
    · refine e_aload_n 0 dX11_ribbons_54 rfl rfl ?_
      obtain ⟨s7, hg, hf⟩ := bO_some hf
      refine e_callV (as := []) (v := none) (s' := s7) hV dX11_ribbons_55 (Or.inl rfl) rfl rfl rfl rfl (Nat.le_of_ble_eq_true rfl) lx_X rfl rfl (fun Q hQ => tX11_begins (d := (d + 66)) hV  hg hQ) ?_
      refine e_aload_n 0 dX11_ribbons_58 rfl rfl ?_
      refine e_iload 5 dX11_ribbons_59 rfl ?_
      refine e_puti hV dX11_ribbons_61 rfl rfl rfl (Or.inl rfl) lx_X rfl hf (fun s8 hf => ?_)
      refine e_aload_n 0 dX11_ribbons_64 rfl rfl ?_
      refine e_iload_n 1 dX11_ribbons_65 rfl rfl ?_
      refine e_iconst (w := (-1)) dX11_ribbons_66 (by decide) ?_
      refine e_iconst (w := 0) dX11_ribbons_67 (by decide) ?_
      obtain ⟨r9, s10, hg, hf⟩ := bP_some hf
      refine e_callV (as := [.int y1, .int (-1), .int 0]) (v := (some (.int r9))) (s' := s10) hV dX11_ribbons_68 (Or.inl rfl) rfl rfl rfl rfl (Nat.le_of_ble_eq_true rfl) lx_X rfl rfl (fun Q hQ => tX11_firstFalse (d := d) hV  hg hQ) ?_
      refine e_bipush (w := (-2)) dX11_ribbons_71 (by decide) ?_
      refine e_icmp_ne 92 dX11_ribbons_73 (by decide) hf (fun hf => ?_) (fun hf => ?_)
      · refine e_pick [0, 1, 2, 3, 4, 5] rfl ?_
        exact wX11_ribbons_b92 hV ih hP y1 y2 y3 y4 y5 s10 hf
      · refine e_iload_n 3 dX11_ribbons_76 rfl rfl ?_
        refine e_if_ne 85 dX11_ribbons_77 (by decide) hf (fun hf => ?_) (fun hf => ?_)
        · refine e_iload 4 dX11_ribbons_85 rfl ?_
          refine e_pick [0, 1, 2, 3, 5] rfl ?_
          exact wX11_ribbons_b87 hV ih hP y1 y2 y3 y5 y4 s10 hf
        · refine e_iload 5 dX11_ribbons_80 rfl ?_
          refine e_goto 87 dX11_ribbons_82 (by decide) ?_
          refine e_pick [0, 1, 2, 3, 5] rfl ?_
          exact wX11_ribbons_b87 hV ih hP y1 y2 y3 y5 y5 s10 hf
set_option maxRecDepth 20000 in
theorem tX11_ribbons {ρ : mRo} {d : Nat} {P : mPo} {V : mS → List mE} (hV : mView LX V)  {x1 : Int32} {x2 : Int32} {s : mS} {res : (Int32 × mS)} (hf : fX11_ribbons x1 x2 s = some res) (hP : P (some (.int res.1)) (V res.2)) : mC ρ (d + 68) 197 [.ref qX, .int x1, .int x2] (V s) P := by
  refine ⟨_, rfl, Nat.le_of_ble_eq_true rfl, by decide, ?_⟩
  show mG ρ (mC ρ (d + 67)) 11 6 cX11_ribbons (some .int) P 0 [(0, .ref qX), (1, .int x1), (2, .int x2)] [] (V s)
  unfold fX11_ribbons at hf
  refine e_aload_n 0 dX11_ribbons_0 rfl rfl ?_
  refine e_iload_n 1 dX11_ribbons_1 rfl rfl ?_
  refine e_iconst (w := 1) dX11_ribbons_2 (by decide) ?_
  obtain ⟨r1, hg, hf⟩ := bO_some hf
  refine e_callV (as := [.int x1, .int 1]) (v := (some (.int r1))) (s' := s) hV dX11_ribbons_3 (Or.inl rfl) rfl rfl rfl rfl (Nat.le_of_ble_eq_true rfl) lx_X rfl rfl (fun Q hQ => tX11_rowIs (d := (d + 64)) hV  hg hQ) ?_
  refine e_iconst (w := (-1)) dX11_ribbons_6 (by decide) ?_
  refine e_icmp_eq 20 dX11_ribbons_7 (by decide) hf (fun hf => ?_) (fun hf => ?_)
  · refine e_iconst (w := (-1)) dX11_ribbons_20 (by decide) ?_
    obtain rfl := Option.some.inj hf
    exact e_iret dX11_ribbons_21 trivial hP
  · refine e_iload_n 2 dX11_ribbons_10 rfl rfl ?_
    refine e_i2l dX11_ribbons_11 ?_
    refine e_lconst (w := 0) dX11_ribbons_12 (by decide) ?_
    refine e_lconst (w := 1) dX11_ribbons_13 (by decide) ?_
    obtain ⟨r2, hg, hf⟩ := bO_some hf
    refine e_callS (as := [.long (Int32.toInt64 x2), .long 0, .long 1]) (v := (some (.int r2))) (s' := s) dX11_ribbons_14 rfl rfl rfl rfl rfl (Nat.le_of_ble_eq_true rfl) (fun Q hQ => tX11_within (d := (d + 66)) hV  hg hQ) ?_
    refine e_if_ne 22 dX11_ribbons_17 (by decide) hf (fun hf => ?_) (fun hf => ?_)
    · refine e_aload_n 0 dX11_ribbons_22 rfl rfl ?_
      refine e_iload_n 1 dX11_ribbons_23 rfl rfl ?_
      refine e_iconst (w := 1) dX11_ribbons_24 (by decide) ?_
      obtain ⟨r3, hg, hf⟩ := bO_some hf
      refine e_callV (as := [.int x1, .int 1]) (v := (some (.int r3))) (s' := s) hV dX11_ribbons_25 (Or.inl rfl) rfl rfl rfl rfl (Nat.le_of_ble_eq_true rfl) lx_X rfl rfl (fun Q hQ => tX11_rowIs (d := (d + 64)) hV  hg hQ) ?_
      refine e_if_ge 38 dX11_ribbons_28 (by decide) hf (fun hf => ?_) (fun hf => ?_)
      · refine e_iconst (w := 0) dX11_ribbons_38 (by decide) ?_
        refine e_istore_n dX11_ribbons_39 rfl (by decide) hf (fun v4 hf => ?_)
        refine e_bipush (w := (-2)) dX11_ribbons_40 (by decide) ?_
        refine e_istore dX11_ribbons_42 (by decide) hf (fun v5 hf => ?_)
        refine e_iconst (w := 0) dX11_ribbons_44 (by decide) ?_
        refine e_istore dX11_ribbons_45 (by decide) hf (fun v6 hf => ?_)
        refine e_pick [3, 4, 5, 2, 1, 0] rfl ?_
        exact wX11_ribbons_b47 hV hP mFu x1 x2 v4 v5 v6 s hf
      · refine e_aload_n 0 dX11_ribbons_31 rfl rfl ?_
        refine e_iload_n 1 dX11_ribbons_32 rfl rfl ?_
        refine e_iconst (w := 1) dX11_ribbons_33 (by decide) ?_
        obtain ⟨r14, hg, hf⟩ := bO_some hf
        refine e_callV (as := [.int x1, .int 1]) (v := (some (.int r14))) (s' := s) hV dX11_ribbons_34 (Or.inl rfl) rfl rfl rfl rfl (Nat.le_of_ble_eq_true rfl) lx_X rfl rfl (fun Q hQ => tX11_rowIs (d := (d + 64)) hV  hg hQ) ?_
        obtain rfl := Option.some.inj hf
        exact e_iret dX11_ribbons_37 trivial hP
    · refine e_iconst (w := (-1)) dX11_ribbons_20 (by decide) ?_
      obtain rfl := Option.some.inj hf
      exact e_iret dX11_ribbons_21 trivial hP

theorem dX11_types_0 : decode cX11_types 0 = .ok (.aload_n 0, 1) := by decide +kernel
theorem dX11_types_1 : decode cX11_types 1 = .ok (.iload_n 1, 1) := by decide +kernel
theorem dX11_types_2 : decode cX11_types 2 = .ok (.invokevirtual 214, 3) := by decide +kernel
theorem dX11_types_5 : decode cX11_types 5 = .ok (.ifCond .ne 5, 3) := by decide +kernel
theorem dX11_types_8 : decode cX11_types 8 = .ok (.iconst (-1), 1) := by decide +kernel
theorem dX11_types_9 : decode cX11_types 9 = .ok (.ireturn, 1) := by decide +kernel
theorem dX11_types_10 : decode cX11_types 10 = .ok (.iload_n 1, 1) := by decide +kernel
theorem dX11_types_11 : decode cX11_types 11 = .ok (.bipush 10, 2) := by decide +kernel
theorem dX11_types_13 : decode cX11_types 13 = .ok (.irem, 1) := by decide +kernel
theorem dX11_types_14 : decode cX11_types 14 = .ok (.istore_n 2, 1) := by decide +kernel
theorem dX11_types_15 : decode cX11_types 15 = .ok (.aload_n 0, 1) := by decide +kernel
theorem dX11_types_16 : decode cX11_types 16 = .ok (.invokevirtual 217, 3) := by decide +kernel
theorem dX11_types_19 : decode cX11_types 19 = .ok (.aload_n 0, 1) := by decide +kernel
theorem dX11_types_20 : decode cX11_types 20 = .ok (.iload_n 1, 1) := by decide +kernel
theorem dX11_types_21 : decode cX11_types 21 = .ok (.bipush 10, 2) := by decide +kernel
theorem dX11_types_23 : decode cX11_types 23 = .ok (.idiv, 1) := by decide +kernel
theorem dX11_types_24 : decode cX11_types 24 = .ok (.iload_n 2, 1) := by decide +kernel
theorem dX11_types_25 : decode cX11_types 25 = .ok (.invokevirtual 237, 3) := by decide +kernel
theorem dX11_types_28 : decode cX11_types 28 = .ok (.istore_n 3, 1) := by decide +kernel
theorem dX11_types_29 : decode cX11_types 29 = .ok (.aload_n 0, 1) := by decide +kernel
theorem dX11_types_30 : decode cX11_types 30 = .ok (.iload_n 1, 1) := by decide +kernel
theorem dX11_types_31 : decode cX11_types 31 = .ok (.bipush 10, 2) := by decide +kernel
theorem dX11_types_33 : decode cX11_types 33 = .ok (.idiv, 1) := by decide +kernel
theorem dX11_types_34 : decode cX11_types 34 = .ok (.iload_n 2, 1) := by decide +kernel
theorem dX11_types_35 : decode cX11_types 35 = .ok (.invokevirtual 223, 3) := by decide +kernel
theorem dX11_types_38 : decode cX11_types 38 = .ok (.iconst 0, 1) := by decide +kernel
theorem dX11_types_39 : decode cX11_types 39 = .ok (.istore 4, 2) := by decide +kernel
theorem dX11_types_41 : decode cX11_types 41 = .ok (.iload 4, 2) := by decide +kernel
theorem dX11_types_43 : decode cX11_types 43 = .ok (.iconst 3, 1) := by decide +kernel
theorem dX11_types_44 : decode cX11_types 44 = .ok (.if_icmp .ge 46, 3) := by decide +kernel
theorem dX11_types_47 : decode cX11_types 47 = .ok (.aload_n 0, 1) := by decide +kernel
theorem dX11_types_48 : decode cX11_types 48 = .ok (.getfield 9, 3) := by decide +kernel
theorem dX11_types_51 : decode cX11_types 51 = .ok (.iconst 3, 1) := by decide +kernel
theorem dX11_types_52 : decode cX11_types 52 = .ok (.iload_n 2, 1) := by decide +kernel
theorem dX11_types_53 : decode cX11_types 53 = .ok (.imul, 1) := by decide +kernel
theorem dX11_types_54 : decode cX11_types 54 = .ok (.iload 4, 2) := by decide +kernel
theorem dX11_types_56 : decode cX11_types 56 = .ok (.iadd, 1) := by decide +kernel
theorem dX11_types_57 : decode cX11_types 57 = .ok (.aload_n 0, 1) := by decide +kernel
theorem dX11_types_58 : decode cX11_types 58 = .ok (.getfield 31, 3) := by decide +kernel
theorem dX11_types_61 : decode cX11_types 61 = .ok (.iconst 3, 1) := by decide +kernel
theorem dX11_types_62 : decode cX11_types 62 = .ok (.iload_n 2, 1) := by decide +kernel
theorem dX11_types_63 : decode cX11_types 63 = .ok (.imul, 1) := by decide +kernel
theorem dX11_types_64 : decode cX11_types 64 = .ok (.iload 4, 2) := by decide +kernel
theorem dX11_types_66 : decode cX11_types 66 = .ok (.iadd, 1) := by decide +kernel
theorem dX11_types_67 : decode cX11_types 67 = .ok (.iaload, 1) := by decide +kernel
theorem dX11_types_68 : decode cX11_types 68 = .ok (.iastore, 1) := by decide +kernel
theorem dX11_types_69 : decode cX11_types 69 = .ok (.aload_n 0, 1) := by decide +kernel
theorem dX11_types_70 : decode cX11_types 70 = .ok (.getfield 53, 3) := by decide +kernel
theorem dX11_types_73 : decode cX11_types 73 = .ok (.iconst 3, 1) := by decide +kernel
theorem dX11_types_74 : decode cX11_types 74 = .ok (.dup2, 1) := by decide +kernel
theorem dX11_types_75 : decode cX11_types 75 = .ok (.iaload, 1) := by decide +kernel
theorem dX11_types_76 : decode cX11_types 76 = .ok (.iload_n 3, 1) := by decide +kernel
theorem dX11_types_77 : decode cX11_types 77 = .ok (.iload 4, 2) := by decide +kernel
theorem dX11_types_79 : decode cX11_types 79 = .ok (.invokestatic 124, 3) := by decide +kernel
theorem dX11_types_82 : decode cX11_types 82 = .ok (.iadd, 1) := by decide +kernel
theorem dX11_types_83 : decode cX11_types 83 = .ok (.iastore, 1) := by decide +kernel
theorem dX11_types_84 : decode cX11_types 84 = .ok (.iinc 4 1, 3) := by decide +kernel
theorem dX11_types_87 : decode cX11_types 87 = .ok (.goto (-46), 3) := by decide +kernel
theorem dX11_types_90 : decode cX11_types 90 = .ok (.aload_n 0, 1) := by decide +kernel
theorem dX11_types_91 : decode cX11_types 91 = .ok (.getfield 9, 3) := by decide +kernel
theorem dX11_types_94 : decode cX11_types 94 = .ok (.bipush 24, 2) := by decide +kernel
theorem dX11_types_96 : decode cX11_types 96 = .ok (.iload_n 2, 1) := by decide +kernel
theorem dX11_types_97 : decode cX11_types 97 = .ok (.iadd, 1) := by decide +kernel
theorem dX11_types_98 : decode cX11_types 98 = .ok (.aload_n 0, 1) := by decide +kernel
theorem dX11_types_99 : decode cX11_types 99 = .ok (.getfield 34, 3) := by decide +kernel
theorem dX11_types_102 : decode cX11_types 102 = .ok (.iload_n 2, 1) := by decide +kernel
theorem dX11_types_103 : decode cX11_types 103 = .ok (.iaload, 1) := by decide +kernel
theorem dX11_types_104 : decode cX11_types 104 = .ok (.iastore, 1) := by decide +kernel
theorem dX11_types_105 : decode cX11_types 105 = .ok (.aload_n 0, 1) := by decide +kernel
theorem dX11_types_106 : decode cX11_types 106 = .ok (.getfield 53, 3) := by decide +kernel
theorem dX11_types_109 : decode cX11_types 109 = .ok (.iconst 0, 1) := by decide +kernel
theorem dX11_types_110 : decode cX11_types 110 = .ok (.dup2, 1) := by decide +kernel
theorem dX11_types_111 : decode cX11_types 111 = .ok (.iaload, 1) := by decide +kernel
theorem dX11_types_112 : decode cX11_types 112 = .ok (.iconst 1, 1) := by decide +kernel
theorem dX11_types_113 : decode cX11_types 113 = .ok (.iadd, 1) := by decide +kernel
theorem dX11_types_114 : decode cX11_types 114 = .ok (.iastore, 1) := by decide +kernel
theorem dX11_types_115 : decode cX11_types 115 = .ok (.aload_n 0, 1) := by decide +kernel
theorem dX11_types_116 : decode cX11_types 116 = .ok (.iload_n 2, 1) := by decide +kernel
theorem dX11_types_117 : decode cX11_types 117 = .ok (.putfield 49, 3) := by decide +kernel
theorem dX11_types_120 : decode cX11_types 120 = .ok (.iload_n 3, 1) := by decide +kernel
theorem dX11_types_121 : decode cX11_types 121 = .ok (.ireturn, 1) := by decide +kernel
def fX11_types_b41 : Nat → Int32 → Int32 → Int32 → mS → Option (Int32 × mS)
  | 0, _, _, _, _ => none
  | k + 1, y2, y3, y4, s =>
    if 3 ≤ y4 then
      ldA s aX_age 8 y2 fun v9 =>
      stA s aX_may 65 (24 + y2) v9 fun s10 =>
      ldA s10 aX_ledNow 4 0 fun v11 =>
      stA s10 aX_ledNow 4 0 (v11 + 1) fun s12 =>
      bnd (pI s12 iX_latest y2) fun s13 =>
      some (y3, s13)
    else
      ldA s aX_pull 24 ((3 * y2) + y4) fun v14 =>
      stA s aX_may 65 ((3 * y2) + y4) v14 fun s15 =>
      ldA s15 aX_ledNow 4 3 fun v16 =>
      bO (fX11_inCode y3 y4 s15) fun r17 =>
      stA s15 aX_ledNow 4 3 (v16 + r17) fun s18 =>
      bnd (y4 + 1) fun v19 =>
      fX11_types_b41 k y2 y3 v19 s18

def fX11_types (x1 : Int32) (s : mS) : Option (Int32 × mS) :=
  bO (fX11_isWm x1 s) fun r1 =>
  if r1 = 0 then
    some ((-1), s)
  else
    bnd (x1 - x1 / 10 * 10) fun v2 =>
    bO (fX11_begins s) fun s3 =>
    bP (fX11_codeOf (x1 / 10) v2 s3) fun r4 s5 =>
    bnd r4 fun v6 =>
    bO (fX11_typesOn (x1 / 10) v2 s5) fun s7 =>
    bnd 0 fun v8 =>
    fX11_types_b41 mFu v2 v6 v8 s7

set_option maxRecDepth 20000 in
theorem wX11_types_b41 {ρ : mRo} {d : Nat} {P : mPo} {V : mS → List mE} (hV : mView LX V)  {res : (Int32 × mS)} (hP : P (some (.int res.1)) (V res.2)) : ∀ (k : Nat) (y2 : Int32) (y3 : Int32) (y4 : Int32) (s : mS), fX11_types_b41 k y2 y3 y4 s = some res → mG ρ (mC ρ (d + 66)) 11 5 cX11_types (some .int) P 41 [(0, .ref qX), (2, .int y2), (3, .int y3), (4, .int y4)] [] (V s) := by
  intro k
  induction k with
  | zero => intro y2 y3 y4 s hf; rw [fX11_types_b41] at hf; cases hf
  | succ k ih =>
    intro y2 y3 y4 s hf
    rw [fX11_types_b41] at hf
    refine e_iload 3 dX11_types_41 rfl ?_
    refine e_iconst (w := 3) dX11_types_43 (by decide) ?_
    refine e_icmp_ge 90 dX11_types_44 (by decide) hf (fun hf => ?_) (fun hf => ?_)
    · refine e_aload_n 0 dX11_types_90 rfl rfl ?_
      refine e_getr hV dX11_types_91 rfl lx_X rfl ?_
      refine e_bipush (w := 24) dX11_types_94 (by decide) ?_
      refine e_iload_n 1 dX11_types_96 rfl rfl ?_
      refine e_iadd dX11_types_97 ?_
      refine e_aload_n 0 dX11_types_98 rfl rfl ?_
      refine e_getr hV dX11_types_99 rfl lx_X rfl ?_
      refine e_iload_n 1 dX11_types_102 rfl rfl ?_
      refine e_iald hV dX11_types_103 lx_X_age hf (fun v9 hf => ?_)
      refine e_iast hV dX11_types_104 lx_X_may hf (fun s10 hf => ?_)
      refine e_aload_n 0 dX11_types_105 rfl rfl ?_
      refine e_getr hV dX11_types_106 rfl lx_X rfl ?_
      refine e_iconst (w := 0) dX11_types_109 (by decide) ?_
      refine e_dup2 dX11_types_110 rfl rfl ?_
      refine e_iald hV dX11_types_111 lx_X_ledNow hf (fun v11 hf => ?_)
      refine e_iconst (w := 1) dX11_types_112 (by decide) ?_
      refine e_iadd dX11_types_113 ?_
      refine e_iast hV dX11_types_114 lx_X_ledNow hf (fun s12 hf => ?_)
      refine e_aload_n 0 dX11_types_115 rfl rfl ?_
      refine e_iload_n 1 dX11_types_116 rfl rfl ?_
      refine e_puti hV dX11_types_117 rfl rfl rfl (Or.inl rfl) lx_X rfl hf (fun s13 hf => ?_)
      refine e_iload_n 2 dX11_types_120 rfl rfl ?_
      obtain rfl := Option.some.inj hf
      exact e_iret dX11_types_121 trivial hP
    · refine e_aload_n 0 dX11_types_47 rfl rfl ?_
      refine e_getr hV dX11_types_48 rfl lx_X rfl ?_
      refine e_iconst (w := 3) dX11_types_51 (by decide) ?_
      refine e_iload_n 1 dX11_types_52 rfl rfl ?_
      refine e_imul dX11_types_53 ?_
      refine e_iload 3 dX11_types_54 rfl ?_
      refine e_iadd dX11_types_56 ?_
      refine e_aload_n 0 dX11_types_57 rfl rfl ?_
      refine e_getr hV dX11_types_58 rfl lx_X rfl ?_
      refine e_iconst (w := 3) dX11_types_61 (by decide) ?_
      refine e_iload_n 1 dX11_types_62 rfl rfl ?_
      refine e_imul dX11_types_63 ?_
      refine e_iload 3 dX11_types_64 rfl ?_
      refine e_iadd dX11_types_66 ?_
      refine e_iald hV dX11_types_67 lx_X_pull hf (fun v14 hf => ?_)
      refine e_iast hV dX11_types_68 lx_X_may hf (fun s15 hf => ?_)
      refine e_aload_n 0 dX11_types_69 rfl rfl ?_
      refine e_getr hV dX11_types_70 rfl lx_X rfl ?_
      refine e_iconst (w := 3) dX11_types_73 (by decide) ?_
      refine e_dup2 dX11_types_74 rfl rfl ?_
      refine e_iald hV dX11_types_75 lx_X_ledNow hf (fun v16 hf => ?_)
      refine e_iload_n 2 dX11_types_76 rfl rfl ?_
      refine e_iload 3 dX11_types_77 rfl ?_
      obtain ⟨r17, hg, hf⟩ := bO_some hf
      refine e_callS (as := [.int y3, .int y4]) (v := (some (.int r17))) (s' := s15) dX11_types_79 rfl rfl rfl rfl rfl (Nat.le_of_ble_eq_true rfl) (fun Q hQ => tX11_inCode (d := (d + 65)) hV  hg hQ) ?_
      refine e_iadd dX11_types_82 ?_
      refine e_iast hV dX11_types_83 lx_X_ledNow hf (fun s18 hf => ?_)
      refine e_iinc 3 dX11_types_84 rfl rfl hf (fun v19 hf => ?_)
      refine e_goto 41 dX11_types_87 (by decide) ?_
      refine e_pick [1, 2, 3, 0] rfl ?_
      exact ih y2 y3 v19 s18 hf
set_option maxRecDepth 20000 in
theorem tX11_types {ρ : mRo} {d : Nat} {P : mPo} {V : mS → List mE} (hV : mView LX V)  {x1 : Int32} {s : mS} {res : (Int32 × mS)} (hf : fX11_types x1 s = some res) (hP : P (some (.int res.1)) (V res.2)) : mC ρ (d + 67) 205 [.ref qX, .int x1] (V s) P := by
  refine ⟨_, rfl, Nat.le_of_ble_eq_true rfl, by decide, ?_⟩
  show mG ρ (mC ρ (d + 66)) 11 5 cX11_types (some .int) P 0 [(0, .ref qX), (1, .int x1)] [] (V s)
  unfold fX11_types at hf
  refine e_aload_n 0 dX11_types_0 rfl rfl ?_
  refine e_iload_n 1 dX11_types_1 rfl rfl ?_
  obtain ⟨r1, hg, hf⟩ := bO_some hf
  refine e_callV (as := [.int x1]) (v := (some (.int r1))) (s' := s) hV dX11_types_2 (Or.inl rfl) rfl rfl rfl rfl (Nat.le_of_ble_eq_true rfl) lx_X rfl rfl (fun Q hQ => tX11_isWm (d := (d + 63)) hV  hg hQ) ?_
  refine e_if_ne 10 dX11_types_5 (by decide) hf (fun hf => ?_) (fun hf => ?_)
  · refine e_iload_n 1 dX11_types_10 rfl rfl ?_
    refine e_bipush (w := 10) dX11_types_11 (by decide) ?_
    refine e_irem dX11_types_13 (by decide) ?_
    refine e_istore_n dX11_types_14 rfl (by decide) hf (fun v2 hf => ?_)
    refine e_aload_n 1 dX11_types_15 rfl rfl ?_
    obtain ⟨s3, hg, hf⟩ := bO_some hf
    refine e_callV (as := []) (v := none) (s' := s3) hV dX11_types_16 (Or.inl rfl) rfl rfl rfl rfl (Nat.le_of_ble_eq_true rfl) lx_X rfl rfl (fun Q hQ => tX11_begins (d := (d + 65)) hV  hg hQ) ?_
    refine e_aload_n 1 dX11_types_19 rfl rfl ?_
    refine e_iload_n 2 dX11_types_20 rfl rfl ?_
    refine e_bipush (w := 10) dX11_types_21 (by decide) ?_
    refine e_idiv dX11_types_23 (by decide) ?_
    refine e_iload_n 0 dX11_types_24 rfl rfl ?_
    obtain ⟨r4, s5, hg, hf⟩ := bP_some hf
    refine e_callV (as := [.int (x1 / 10), .int v2]) (v := (some (.int r4))) (s' := s5) hV dX11_types_25 (Or.inl rfl) rfl rfl rfl rfl (Nat.le_of_ble_eq_true rfl) lx_X rfl rfl (fun Q hQ => tX11_codeOf (d := d) hV  hg hQ) ?_
    refine e_istore_n dX11_types_28 rfl (by decide) hf (fun v6 hf => ?_)
    refine e_aload_n 2 dX11_types_29 rfl rfl ?_
    refine e_iload_n 3 dX11_types_30 rfl rfl ?_
    refine e_bipush (w := 10) dX11_types_31 (by decide) ?_
    refine e_idiv dX11_types_33 (by decide) ?_
    refine e_iload_n 1 dX11_types_34 rfl rfl ?_
    obtain ⟨s7, hg, hf⟩ := bO_some hf
    refine e_callV (as := [.int (x1 / 10), .int v2]) (v := none) (s' := s7) hV dX11_types_35 (Or.inl rfl) rfl rfl rfl rfl (Nat.le_of_ble_eq_true rfl) lx_X rfl rfl (fun Q hQ => tX11_typesOn (d := (d + 64)) hV  hg hQ) ?_
    refine e_iconst (w := 0) dX11_types_38 (by decide) ?_
    refine e_istore dX11_types_39 (by decide) hf (fun v8 hf => ?_)
    refine e_pick [3, 2, 1, 0] rfl ?_
    exact wX11_types_b41 hV hP mFu v2 v6 v8 s7 hf
  · refine e_iconst (w := (-1)) dX11_types_8 (by decide) ?_
    obtain rfl := Option.some.inj hf
    exact e_iret dX11_types_9 trivial hP

theorem dX11_typesAs_0 : decode cX11_typesAs 0 = .ok (.iload_n 1, 1) := by decide +kernel
theorem dX11_typesAs_1 : decode cX11_typesAs 1 = .ok (.iconst 1, 1) := by decide +kernel
theorem dX11_typesAs_2 : decode cX11_typesAs 2 = .ok (.if_icmp .eq 14, 3) := by decide +kernel
theorem dX11_typesAs_5 : decode cX11_typesAs 5 = .ok (.iload_n 1, 1) := by decide +kernel
theorem dX11_typesAs_6 : decode cX11_typesAs 6 = .ok (.iconst 4, 1) := by decide +kernel
theorem dX11_typesAs_7 : decode cX11_typesAs 7 = .ok (.if_icmp .eq 9, 3) := by decide +kernel
theorem dX11_typesAs_10 : decode cX11_typesAs 10 = .ok (.iload_n 1, 1) := by decide +kernel
theorem dX11_typesAs_11 : decode cX11_typesAs 11 = .ok (.bipush 7, 2) := by decide +kernel
theorem dX11_typesAs_13 : decode cX11_typesAs 13 = .ok (.if_icmp .ne 18, 3) := by decide +kernel
theorem dX11_typesAs_16 : decode cX11_typesAs 16 = .ok (.aload_n 0, 1) := by decide +kernel
theorem dX11_typesAs_17 : decode cX11_typesAs 17 = .ok (.bipush 20, 2) := by decide +kernel
theorem dX11_typesAs_19 : decode cX11_typesAs 19 = .ok (.invokevirtual 290, 3) := by decide +kernel
theorem dX11_typesAs_22 : decode cX11_typesAs 22 = .ok (.aload_n 0, 1) := by decide +kernel
theorem dX11_typesAs_23 : decode cX11_typesAs 23 = .ok (.iconst 0, 1) := by decide +kernel
theorem dX11_typesAs_24 : decode cX11_typesAs 24 = .ok (.iload_n 2, 1) := by decide +kernel
theorem dX11_typesAs_25 : decode cX11_typesAs 25 = .ok (.invokevirtual 294, 3) := by decide +kernel
theorem dX11_typesAs_28 : decode cX11_typesAs 28 = .ok (.iconst 3, 1) := by decide +kernel
theorem dX11_typesAs_29 : decode cX11_typesAs 29 = .ok (.iadd, 1) := by decide +kernel
theorem dX11_typesAs_30 : decode cX11_typesAs 30 = .ok (.ireturn, 1) := by decide +kernel
theorem dX11_typesAs_31 : decode cX11_typesAs 31 = .ok (.iload_n 1, 1) := by decide +kernel
theorem dX11_typesAs_32 : decode cX11_typesAs 32 = .ok (.bipush 6, 2) := by decide +kernel
theorem dX11_typesAs_34 : decode cX11_typesAs 34 = .ok (.if_icmp .ne 18, 3) := by decide +kernel
theorem dX11_typesAs_37 : decode cX11_typesAs 37 = .ok (.aload_n 0, 1) := by decide +kernel
theorem dX11_typesAs_38 : decode cX11_typesAs 38 = .ok (.bipush 70, 2) := by decide +kernel
theorem dX11_typesAs_40 : decode cX11_typesAs 40 = .ok (.invokevirtual 290, 3) := by decide +kernel
theorem dX11_typesAs_43 : decode cX11_typesAs 43 = .ok (.aload_n 0, 1) := by decide +kernel
theorem dX11_typesAs_44 : decode cX11_typesAs 44 = .ok (.iconst 0, 1) := by decide +kernel
theorem dX11_typesAs_45 : decode cX11_typesAs 45 = .ok (.iload_n 2, 1) := by decide +kernel
theorem dX11_typesAs_46 : decode cX11_typesAs 46 = .ok (.invokevirtual 294, 3) := by decide +kernel
theorem dX11_typesAs_49 : decode cX11_typesAs 49 = .ok (.iconst 2, 1) := by decide +kernel
theorem dX11_typesAs_50 : decode cX11_typesAs 50 = .ok (.imul, 1) := by decide +kernel
theorem dX11_typesAs_51 : decode cX11_typesAs 51 = .ok (.ireturn, 1) := by decide +kernel
theorem dX11_typesAs_52 : decode cX11_typesAs 52 = .ok (.aload_n 0, 1) := by decide +kernel
theorem dX11_typesAs_53 : decode cX11_typesAs 53 = .ok (.iconst 1, 1) := by decide +kernel
theorem dX11_typesAs_54 : decode cX11_typesAs 54 = .ok (.invokevirtual 290, 3) := by decide +kernel
theorem dX11_typesAs_57 : decode cX11_typesAs 57 = .ok (.iload_n 2, 1) := by decide +kernel
theorem dX11_typesAs_58 : decode cX11_typesAs 58 = .ok (.aload_n 0, 1) := by decide +kernel
theorem dX11_typesAs_59 : decode cX11_typesAs 59 = .ok (.getfield 297, 3) := by decide +kernel
theorem dX11_typesAs_62 : decode cX11_typesAs 62 = .ok (.iadd, 1) := by decide +kernel
theorem dX11_typesAs_63 : decode cX11_typesAs 63 = .ok (.ireturn, 1) := by decide +kernel
def gX11_typesAs_b16 (R0 : Int32 → Int32 → mS → Option (Int32 × mS)) (y2 : Int32) (s : mS) : Option (Int32 × mS) :=
  bO (fX11_runs 20 s) fun s1 =>
  bP (R0 0 y2 s1) fun r2 s3 =>
  some (r2 + 3, s3)

def gX11_typesAs (R0 : Int32 → Int32 → mS → Option (Int32 × mS)) (x1 : Int32) (x2 : Int32) (s : mS) : Option (Int32 × mS) :=
  if x1 = 1 then
    gX11_typesAs_b16 R0 x2 s
  else
    if x1 = 4 then
      gX11_typesAs_b16 R0 x2 s
    else
      if x1 = 7 then
        gX11_typesAs_b16 R0 x2 s
      else
        if x1 = 6 then
          bO (fX11_runs 70 s) fun s5 =>
          bP (R0 0 x2 s5) fun r6 s7 =>
          some (r6 * 2, s7)
        else
          bO (fX11_runs 1 s) fun s4 =>
          some (x2 + (gI s4 iX_ownNumber), s4)

set_option maxRecDepth 20000 in
theorem wX11_typesAs_b16 {ρ : mRo} {n d : Nat} {P : mPo} {V : mS → List mE} (hV : mView LX V) {R0 : Int32 → Int32 → mS → Option (Int32 × mS)} (hR0 : ∀ {x1 x2 : Int32} {s : mS} {res : (Int32 × mS)} {Q : mPo}, R0 x1 x2 s = some res → Q (some (.int res.1)) (V res.2) → mC ρ (n + d + 1) 216 [.ref qX, .int x1, .int x2] (V s) Q)  {res : (Int32 × mS)} (hP : P (some (.int res.1)) (V res.2)) (y2 : Int32) (s : mS) (hf : gX11_typesAs_b16 R0 y2 s = some res) : mG ρ (mC ρ (n + d + 1)) 11 3 cX11_typesAs (some .int) P 16 [(0, .ref qX), (2, .int y2)] [] (V s) := by
  unfold gX11_typesAs_b16 at hf
  refine e_aload_n 0 dX11_typesAs_16 rfl rfl ?_
  refine e_bipush (w := 20) dX11_typesAs_17 (by decide) ?_
  obtain ⟨s1, hg, hf⟩ := bO_some hf
  refine e_callV (as := [.int 20]) (v := none) (s' := s1) hV dX11_typesAs_19 (Or.inl rfl) rfl rfl rfl rfl (Nat.le_of_ble_eq_true rfl) lx_X rfl rfl (fun Q hQ => tX11_runs (d := (n + d)) hV  hg hQ) ?_
  refine e_aload_n 0 dX11_typesAs_22 rfl rfl ?_
  refine e_iconst (w := 0) dX11_typesAs_23 (by decide) ?_
  refine e_iload_n 1 dX11_typesAs_24 rfl rfl ?_
  obtain ⟨r2, s3, hg, hf⟩ := bP_some hf
  refine e_callV (as := [.int 0, .int y2]) (v := (some (.int r2))) (s' := s3) hV dX11_typesAs_25 (Or.inl rfl) rfl rfl rfl rfl (Nat.le_of_ble_eq_true rfl) lx_X rfl rfl (fun Q hQ => hR0 hg hQ) ?_
  refine e_iconst (w := 3) dX11_typesAs_28 (by decide) ?_
  refine e_iadd dX11_typesAs_29 ?_
  obtain rfl := Option.some.inj hf
  exact e_iret dX11_typesAs_30 trivial hP
set_option maxRecDepth 20000 in
theorem uX11_typesAs {ρ : mRo} {n d : Nat} {P : mPo} {V : mS → List mE} (hV : mView LX V) {R0 : Int32 → Int32 → mS → Option (Int32 × mS)} (hR0 : ∀ {x1 x2 : Int32} {s : mS} {res : (Int32 × mS)} {Q : mPo}, R0 x1 x2 s = some res → Q (some (.int res.1)) (V res.2) → mC ρ (n + d + 1) 216 [.ref qX, .int x1, .int x2] (V s) Q)  {x1 : Int32} {x2 : Int32} {s : mS} {res : (Int32 × mS)} (hf : gX11_typesAs R0 x1 x2 s = some res) (hP : P (some (.int res.1)) (V res.2)) : mC ρ (n + d + 1 + 1) 216 [.ref qX, .int x1, .int x2] (V s) P := by
  refine ⟨_, rfl, Nat.le_of_ble_eq_true rfl, by decide, ?_⟩
  show mG ρ (mC ρ (n + d + 1)) 11 3 cX11_typesAs (some .int) P 0 [(0, .ref qX), (1, .int x1), (2, .int x2)] [] (V s)
  unfold gX11_typesAs at hf
  refine e_iload_n 1 dX11_typesAs_0 rfl rfl ?_
  refine e_iconst (w := 1) dX11_typesAs_1 (by decide) ?_
  refine e_icmp_eq 16 dX11_typesAs_2 (by decide) hf (fun hf => ?_) (fun hf => ?_)
  · refine e_pick [0, 2] rfl ?_
    exact wX11_typesAs_b16 hV hR0 hP x2 s hf
  · refine e_iload_n 1 dX11_typesAs_5 rfl rfl ?_
    refine e_iconst (w := 4) dX11_typesAs_6 (by decide) ?_
    refine e_icmp_eq 16 dX11_typesAs_7 (by decide) hf (fun hf => ?_) (fun hf => ?_)
    · refine e_pick [0, 2] rfl ?_
      exact wX11_typesAs_b16 hV hR0 hP x2 s hf
    · refine e_iload_n 1 dX11_typesAs_10 rfl rfl ?_
      refine e_bipush (w := 7) dX11_typesAs_11 (by decide) ?_
      refine e_icmp_ne 31 dX11_typesAs_13 (by decide) hf (fun hf => ?_) (fun hf => ?_)
      · refine e_iload_n 1 dX11_typesAs_31 rfl rfl ?_
        refine e_bipush (w := 6) dX11_typesAs_32 (by decide) ?_
        refine e_icmp_ne 52 dX11_typesAs_34 (by decide) hf (fun hf => ?_) (fun hf => ?_)
        · refine e_aload_n 0 dX11_typesAs_52 rfl rfl ?_
          refine e_iconst (w := 1) dX11_typesAs_53 (by decide) ?_
          obtain ⟨s4, hg, hf⟩ := bO_some hf
          refine e_callV (as := [.int 1]) (v := none) (s' := s4) hV dX11_typesAs_54 (Or.inl rfl) rfl rfl rfl rfl (Nat.le_of_ble_eq_true rfl) lx_X rfl rfl (fun Q hQ => tX11_runs (d := (n + d)) hV  hg hQ) ?_
          refine e_iload_n 2 dX11_typesAs_57 rfl rfl ?_
          refine e_aload_n 0 dX11_typesAs_58 rfl rfl ?_
          refine e_geti hV dX11_typesAs_59 rfl lx_X rfl ?_
          refine e_iadd dX11_typesAs_62 ?_
          obtain rfl := Option.some.inj hf
          exact e_iret dX11_typesAs_63 trivial hP
        · refine e_aload_n 0 dX11_typesAs_37 rfl rfl ?_
          refine e_bipush (w := 70) dX11_typesAs_38 (by decide) ?_
          obtain ⟨s5, hg, hf⟩ := bO_some hf
          refine e_callV (as := [.int 70]) (v := none) (s' := s5) hV dX11_typesAs_40 (Or.inl rfl) rfl rfl rfl rfl (Nat.le_of_ble_eq_true rfl) lx_X rfl rfl (fun Q hQ => tX11_runs (d := (n + d)) hV  hg hQ) ?_
          refine e_aload_n 0 dX11_typesAs_43 rfl rfl ?_
          refine e_iconst (w := 0) dX11_typesAs_44 (by decide) ?_
          refine e_iload_n 2 dX11_typesAs_45 rfl rfl ?_
          obtain ⟨r6, s7, hg, hf⟩ := bP_some hf
          refine e_callV (as := [.int 0, .int x2]) (v := (some (.int r6))) (s' := s7) hV dX11_typesAs_46 (Or.inl rfl) rfl rfl rfl rfl (Nat.le_of_ble_eq_true rfl) lx_X rfl rfl (fun Q hQ => hR0 hg hQ) ?_
          refine e_iconst (w := 2) dX11_typesAs_49 (by decide) ?_
          refine e_imul dX11_typesAs_50 ?_
          obtain rfl := Option.some.inj hf
          exact e_iret dX11_typesAs_51 trivial hP
      · refine e_pick [0, 2] rfl ?_
        exact wX11_typesAs_b16 hV hR0 hP x2 s hf

def sccX11_typesAs : Nat → (Int32 → Int32 → mS → Option (Int32 × mS))
  | 0 => (fun _ _ _ => none)
  | n + 1 => (gX11_typesAs (sccX11_typesAs n))
theorem tsccX11_typesAs {ρ : mRo} {d : Nat} {V : mS → List mE} (hV : mView LX V) : ∀ n : Nat, (∀ {x1 x2 : Int32} {s : mS} {res : (Int32 × mS)} {Q : mPo}, sccX11_typesAs n x1 x2 s = some res → Q (some (.int res.1)) (V res.2) → mC ρ (n + d + 1) 216 [.ref qX, .int x1, .int x2] (V s) Q) := by
  intro n
  induction n with
  | zero => exact (fun hf _ => nomatch hf)
  | succ n ih =>
    rw [show n + 1 + d + 1 = n + d + 1 + 1 by omega]
    exact (fun hf hP => uX11_typesAs hV ih hf hP)
def fX11_typesAs (x1 : Int32) (x2 : Int32) (s : mS) : Option (Int32 × mS) := sccX11_typesAs 60 x1 x2 s
theorem tX11_typesAs {ρ : mRo} {d : Nat} {P : mPo} {V : mS → List mE} (hV : mView LX V) {x1 : Int32} {x2 : Int32} {s : mS} {res : (Int32 × mS)} (hf : fX11_typesAs x1 x2 s = some res) (hP : P (some (.int res.1)) (V res.2)) : mC ρ (d + 61) 216 [.ref qX, .int x1, .int x2] (V s) P := by
  rw [show d + 61 = 60 + d + 1 by omega]
  exact (tsccX11_typesAs hV 60) hf hP

theorem dX11_ringsAs_0 : decode cX11_ringsAs 0 = .ok (.iload_n 1, 1) := by decide +kernel
theorem dX11_ringsAs_1 : decode cX11_ringsAs 1 = .ok (.iconst 3, 1) := by decide +kernel
theorem dX11_ringsAs_2 : decode cX11_ringsAs 2 = .ok (.if_icmp .eq 8, 3) := by decide +kernel
theorem dX11_ringsAs_5 : decode cX11_ringsAs 5 = .ok (.iload_n 1, 1) := by decide +kernel
theorem dX11_ringsAs_6 : decode cX11_ringsAs 6 = .ok (.iconst 5, 1) := by decide +kernel
theorem dX11_ringsAs_7 : decode cX11_ringsAs 7 = .ok (.if_icmp .ne 18, 3) := by decide +kernel
theorem dX11_ringsAs_10 : decode cX11_ringsAs 10 = .ok (.aload_n 0, 1) := by decide +kernel
theorem dX11_ringsAs_11 : decode cX11_ringsAs 11 = .ok (.bipush 40, 2) := by decide +kernel
theorem dX11_ringsAs_13 : decode cX11_ringsAs 13 = .ok (.invokevirtual 290, 3) := by decide +kernel
theorem dX11_ringsAs_16 : decode cX11_ringsAs 16 = .ok (.aload_n 0, 1) := by decide +kernel
theorem dX11_ringsAs_17 : decode cX11_ringsAs 17 = .ok (.iconst 2, 1) := by decide +kernel
theorem dX11_ringsAs_18 : decode cX11_ringsAs 18 = .ok (.iload_n 2, 1) := by decide +kernel
theorem dX11_ringsAs_19 : decode cX11_ringsAs 19 = .ok (.invokevirtual 306, 3) := by decide +kernel
theorem dX11_ringsAs_22 : decode cX11_ringsAs 22 = .ok (.iconst 3, 1) := by decide +kernel
theorem dX11_ringsAs_23 : decode cX11_ringsAs 23 = .ok (.imul, 1) := by decide +kernel
theorem dX11_ringsAs_24 : decode cX11_ringsAs 24 = .ok (.ireturn, 1) := by decide +kernel
theorem dX11_ringsAs_25 : decode cX11_ringsAs 25 = .ok (.iload_n 1, 1) := by decide +kernel
theorem dX11_ringsAs_26 : decode cX11_ringsAs 26 = .ok (.iconst 4, 1) := by decide +kernel
theorem dX11_ringsAs_27 : decode cX11_ringsAs 27 = .ok (.if_icmp .eq 9, 3) := by decide +kernel
theorem dX11_ringsAs_30 : decode cX11_ringsAs 30 = .ok (.iload_n 1, 1) := by decide +kernel
theorem dX11_ringsAs_31 : decode cX11_ringsAs 31 = .ok (.bipush 7, 2) := by decide +kernel
theorem dX11_ringsAs_33 : decode cX11_ringsAs 33 = .ok (.if_icmp .ne 28, 3) := by decide +kernel
theorem dX11_ringsAs_36 : decode cX11_ringsAs 36 = .ok (.aload_n 0, 1) := by decide +kernel
theorem dX11_ringsAs_37 : decode cX11_ringsAs 37 = .ok (.bipush 50, 2) := by decide +kernel
theorem dX11_ringsAs_39 : decode cX11_ringsAs 39 = .ok (.invokevirtual 290, 3) := by decide +kernel
theorem dX11_ringsAs_42 : decode cX11_ringsAs 42 = .ok (.aload_n 0, 1) := by decide +kernel
theorem dX11_ringsAs_43 : decode cX11_ringsAs 43 = .ok (.iconst 1, 1) := by decide +kernel
theorem dX11_ringsAs_44 : decode cX11_ringsAs 44 = .ok (.iload_n 2, 1) := by decide +kernel
theorem dX11_ringsAs_45 : decode cX11_ringsAs 45 = .ok (.invokevirtual 306, 3) := by decide +kernel
theorem dX11_ringsAs_48 : decode cX11_ringsAs 48 = .ok (.istore_n 3, 1) := by decide +kernel
theorem dX11_ringsAs_49 : decode cX11_ringsAs 49 = .ok (.iload_n 3, 1) := by decide +kernel
theorem dX11_ringsAs_50 : decode cX11_ringsAs 50 = .ok (.aload_n 0, 1) := by decide +kernel
theorem dX11_ringsAs_51 : decode cX11_ringsAs 51 = .ok (.aload_n 0, 1) := by decide +kernel
theorem dX11_ringsAs_52 : decode cX11_ringsAs 52 = .ok (.getfield 303, 3) := by decide +kernel
theorem dX11_ringsAs_55 : decode cX11_ringsAs 55 = .ok (.iconst 2, 1) := by decide +kernel
theorem dX11_ringsAs_56 : decode cX11_ringsAs 56 = .ok (.invokevirtual 294, 3) := by decide +kernel
theorem dX11_ringsAs_59 : decode cX11_ringsAs 59 = .ok (.isub, 1) := by decide +kernel
theorem dX11_ringsAs_60 : decode cX11_ringsAs 60 = .ok (.ireturn, 1) := by decide +kernel
theorem dX11_ringsAs_61 : decode cX11_ringsAs 61 = .ok (.aload_n 0, 1) := by decide +kernel
theorem dX11_ringsAs_62 : decode cX11_ringsAs 62 = .ok (.bipush 11, 2) := by decide +kernel
theorem dX11_ringsAs_64 : decode cX11_ringsAs 64 = .ok (.invokevirtual 290, 3) := by decide +kernel
theorem dX11_ringsAs_67 : decode cX11_ringsAs 67 = .ok (.iload_n 2, 1) := by decide +kernel
theorem dX11_ringsAs_68 : decode cX11_ringsAs 68 = .ok (.aload_n 0, 1) := by decide +kernel
theorem dX11_ringsAs_69 : decode cX11_ringsAs 69 = .ok (.getfield 297, 3) := by decide +kernel
theorem dX11_ringsAs_72 : decode cX11_ringsAs 72 = .ok (.ixor, 1) := by decide +kernel
theorem dX11_ringsAs_73 : decode cX11_ringsAs 73 = .ok (.ireturn, 1) := by decide +kernel
def gX11_ringsAs_b10 (R0 : Int32 → Int32 → mS → Option (Int32 × mS)) (y2 : Int32) (s : mS) : Option (Int32 × mS) :=
  bO (fX11_runs 40 s) fun s1 =>
  bP (R0 2 y2 s1) fun r2 s3 =>
  some (r2 * 3, s3)

def gX11_ringsAs_b36 (R0 : Int32 → Int32 → mS → Option (Int32 × mS)) (y2 : Int32) (s : mS) : Option (Int32 × mS) :=
  bO (fX11_runs 50 s) fun s4 =>
  bP (R0 1 y2 s4) fun r5 s6 =>
  bnd r5 fun v7 =>
  bP (fX11_typesAs (gI s6 iX_ownKind) 2 s6) fun r8 s9 =>
  some (v7 - r8, s9)

def gX11_ringsAs (R0 : Int32 → Int32 → mS → Option (Int32 × mS)) (x1 : Int32) (x2 : Int32) (s : mS) : Option (Int32 × mS) :=
  if x1 = 3 then
    gX11_ringsAs_b10 R0 x2 s
  else
    if x1 = 5 then
      gX11_ringsAs_b10 R0 x2 s
    else
      if x1 = 4 then
        gX11_ringsAs_b36 R0 x2 s
      else
        if x1 = 7 then
          gX11_ringsAs_b36 R0 x2 s
        else
          bO (fX11_runs 11 s) fun s10 =>
          some (x2 ^^^ (gI s10 iX_ownNumber), s10)

set_option maxRecDepth 20000 in
theorem wX11_ringsAs_b10 {ρ : mRo} {n d : Nat} {P : mPo} {V : mS → List mE} (hV : mView LX V) {R0 : Int32 → Int32 → mS → Option (Int32 × mS)} (hR0 : ∀ {x1 x2 : Int32} {s : mS} {res : (Int32 × mS)} {Q : mPo}, R0 x1 x2 s = some res → Q (some (.int res.1)) (V res.2) → mC ρ (n + d + 61) 218 [.ref qX, .int x1, .int x2] (V s) Q)  {res : (Int32 × mS)} (hP : P (some (.int res.1)) (V res.2)) (y2 : Int32) (s : mS) (hf : gX11_ringsAs_b10 R0 y2 s = some res) : mG ρ (mC ρ (n + d + 61)) 11 4 cX11_ringsAs (some .int) P 10 [(0, .ref qX), (2, .int y2)] [] (V s) := by
  unfold gX11_ringsAs_b10 at hf
  refine e_aload_n 0 dX11_ringsAs_10 rfl rfl ?_
  refine e_bipush (w := 40) dX11_ringsAs_11 (by decide) ?_
  obtain ⟨s1, hg, hf⟩ := bO_some hf
  refine e_callV (as := [.int 40]) (v := none) (s' := s1) hV dX11_ringsAs_13 (Or.inl rfl) rfl rfl rfl rfl (Nat.le_of_ble_eq_true rfl) lx_X rfl rfl (fun Q hQ => tX11_runs (d := (n + d + 60)) hV  hg hQ) ?_
  refine e_aload_n 0 dX11_ringsAs_16 rfl rfl ?_
  refine e_iconst (w := 2) dX11_ringsAs_17 (by decide) ?_
  refine e_iload_n 1 dX11_ringsAs_18 rfl rfl ?_
  obtain ⟨r2, s3, hg, hf⟩ := bP_some hf
  refine e_callV (as := [.int 2, .int y2]) (v := (some (.int r2))) (s' := s3) hV dX11_ringsAs_19 (Or.inl rfl) rfl rfl rfl rfl (Nat.le_of_ble_eq_true rfl) lx_X rfl rfl (fun Q hQ => hR0 hg hQ) ?_
  refine e_iconst (w := 3) dX11_ringsAs_22 (by decide) ?_
  refine e_imul dX11_ringsAs_23 ?_
  obtain rfl := Option.some.inj hf
  exact e_iret dX11_ringsAs_24 trivial hP
set_option maxRecDepth 20000 in
theorem wX11_ringsAs_b36 {ρ : mRo} {n d : Nat} {P : mPo} {V : mS → List mE} (hV : mView LX V) {R0 : Int32 → Int32 → mS → Option (Int32 × mS)} (hR0 : ∀ {x1 x2 : Int32} {s : mS} {res : (Int32 × mS)} {Q : mPo}, R0 x1 x2 s = some res → Q (some (.int res.1)) (V res.2) → mC ρ (n + d + 61) 218 [.ref qX, .int x1, .int x2] (V s) Q)  {res : (Int32 × mS)} (hP : P (some (.int res.1)) (V res.2)) (y2 : Int32) (s : mS) (hf : gX11_ringsAs_b36 R0 y2 s = some res) : mG ρ (mC ρ (n + d + 61)) 11 4 cX11_ringsAs (some .int) P 36 [(0, .ref qX), (2, .int y2)] [] (V s) := by
  unfold gX11_ringsAs_b36 at hf
  refine e_aload_n 0 dX11_ringsAs_36 rfl rfl ?_
  refine e_bipush (w := 50) dX11_ringsAs_37 (by decide) ?_
  obtain ⟨s4, hg, hf⟩ := bO_some hf
  refine e_callV (as := [.int 50]) (v := none) (s' := s4) hV dX11_ringsAs_39 (Or.inl rfl) rfl rfl rfl rfl (Nat.le_of_ble_eq_true rfl) lx_X rfl rfl (fun Q hQ => tX11_runs (d := (n + d + 60)) hV  hg hQ) ?_
  refine e_aload_n 0 dX11_ringsAs_42 rfl rfl ?_
  refine e_iconst (w := 1) dX11_ringsAs_43 (by decide) ?_
  refine e_iload_n 1 dX11_ringsAs_44 rfl rfl ?_
  obtain ⟨r5, s6, hg, hf⟩ := bP_some hf
  refine e_callV (as := [.int 1, .int y2]) (v := (some (.int r5))) (s' := s6) hV dX11_ringsAs_45 (Or.inl rfl) rfl rfl rfl rfl (Nat.le_of_ble_eq_true rfl) lx_X rfl rfl (fun Q hQ => hR0 hg hQ) ?_
  refine e_istore_n dX11_ringsAs_48 rfl (by decide) hf (fun v7 hf => ?_)
  refine e_iload_n 0 dX11_ringsAs_49 rfl rfl ?_
  refine e_aload_n 1 dX11_ringsAs_50 rfl rfl ?_
  refine e_aload_n 1 dX11_ringsAs_51 rfl rfl ?_
  refine e_geti hV dX11_ringsAs_52 rfl lx_X rfl ?_
  refine e_iconst (w := 2) dX11_ringsAs_55 (by decide) ?_
  obtain ⟨r8, s9, hg, hf⟩ := bP_some hf
  refine e_callV (as := [.int (gI s6 iX_ownKind), .int 2]) (v := (some (.int r8))) (s' := s9) hV dX11_ringsAs_56 (Or.inl rfl) rfl rfl rfl rfl (Nat.le_of_ble_eq_true rfl) lx_X rfl rfl (fun Q hQ => tX11_typesAs (d := (n + d)) hV  hg hQ) ?_
  refine e_isub dX11_ringsAs_59 ?_
  obtain rfl := Option.some.inj hf
  exact e_iret dX11_ringsAs_60 trivial hP
set_option maxRecDepth 20000 in
theorem uX11_ringsAs {ρ : mRo} {n d : Nat} {P : mPo} {V : mS → List mE} (hV : mView LX V) {R0 : Int32 → Int32 → mS → Option (Int32 × mS)} (hR0 : ∀ {x1 x2 : Int32} {s : mS} {res : (Int32 × mS)} {Q : mPo}, R0 x1 x2 s = some res → Q (some (.int res.1)) (V res.2) → mC ρ (n + d + 61) 218 [.ref qX, .int x1, .int x2] (V s) Q)  {x1 : Int32} {x2 : Int32} {s : mS} {res : (Int32 × mS)} (hf : gX11_ringsAs R0 x1 x2 s = some res) (hP : P (some (.int res.1)) (V res.2)) : mC ρ (n + d + 61 + 1) 218 [.ref qX, .int x1, .int x2] (V s) P := by
  refine ⟨_, rfl, Nat.le_of_ble_eq_true rfl, by decide, ?_⟩
  show mG ρ (mC ρ (n + d + 61)) 11 4 cX11_ringsAs (some .int) P 0 [(0, .ref qX), (1, .int x1), (2, .int x2)] [] (V s)
  unfold gX11_ringsAs at hf
  refine e_iload_n 1 dX11_ringsAs_0 rfl rfl ?_
  refine e_iconst (w := 3) dX11_ringsAs_1 (by decide) ?_
  refine e_icmp_eq 10 dX11_ringsAs_2 (by decide) hf (fun hf => ?_) (fun hf => ?_)
  · refine e_pick [0, 2] rfl ?_
    exact wX11_ringsAs_b10 hV hR0 hP x2 s hf
  · refine e_iload_n 1 dX11_ringsAs_5 rfl rfl ?_
    refine e_iconst (w := 5) dX11_ringsAs_6 (by decide) ?_
    refine e_icmp_ne 25 dX11_ringsAs_7 (by decide) hf (fun hf => ?_) (fun hf => ?_)
    · refine e_iload_n 1 dX11_ringsAs_25 rfl rfl ?_
      refine e_iconst (w := 4) dX11_ringsAs_26 (by decide) ?_
      refine e_icmp_eq 36 dX11_ringsAs_27 (by decide) hf (fun hf => ?_) (fun hf => ?_)
      · refine e_pick [0, 2] rfl ?_
        exact wX11_ringsAs_b36 hV hR0 hP x2 s hf
      · refine e_iload_n 1 dX11_ringsAs_30 rfl rfl ?_
        refine e_bipush (w := 7) dX11_ringsAs_31 (by decide) ?_
        refine e_icmp_ne 61 dX11_ringsAs_33 (by decide) hf (fun hf => ?_) (fun hf => ?_)
        · refine e_aload_n 0 dX11_ringsAs_61 rfl rfl ?_
          refine e_bipush (w := 11) dX11_ringsAs_62 (by decide) ?_
          obtain ⟨s10, hg, hf⟩ := bO_some hf
          refine e_callV (as := [.int 11]) (v := none) (s' := s10) hV dX11_ringsAs_64 (Or.inl rfl) rfl rfl rfl rfl (Nat.le_of_ble_eq_true rfl) lx_X rfl rfl (fun Q hQ => tX11_runs (d := (n + d + 60)) hV  hg hQ) ?_
          refine e_iload_n 2 dX11_ringsAs_67 rfl rfl ?_
          refine e_aload_n 0 dX11_ringsAs_68 rfl rfl ?_
          refine e_geti hV dX11_ringsAs_69 rfl lx_X rfl ?_
          refine e_ixor dX11_ringsAs_72 ?_
          obtain rfl := Option.some.inj hf
          exact e_iret dX11_ringsAs_73 trivial hP
        · refine e_pick [0, 2] rfl ?_
          exact wX11_ringsAs_b36 hV hR0 hP x2 s hf
    · refine e_pick [0, 2] rfl ?_
      exact wX11_ringsAs_b10 hV hR0 hP x2 s hf

def sccX11_ringsAs : Nat → (Int32 → Int32 → mS → Option (Int32 × mS))
  | 0 => (fun _ _ _ => none)
  | n + 1 => (gX11_ringsAs (sccX11_ringsAs n))
theorem tsccX11_ringsAs {ρ : mRo} {d : Nat} {V : mS → List mE} (hV : mView LX V) : ∀ n : Nat, (∀ {x1 x2 : Int32} {s : mS} {res : (Int32 × mS)} {Q : mPo}, sccX11_ringsAs n x1 x2 s = some res → Q (some (.int res.1)) (V res.2) → mC ρ (n + d + 61) 218 [.ref qX, .int x1, .int x2] (V s) Q) := by
  intro n
  induction n with
  | zero => exact (fun hf _ => nomatch hf)
  | succ n ih =>
    rw [show n + 1 + d + 61 = n + d + 61 + 1 by omega]
    exact (fun hf hP => uX11_ringsAs hV ih hf hP)
def fX11_ringsAs (x1 : Int32) (x2 : Int32) (s : mS) : Option (Int32 × mS) := sccX11_ringsAs 60 x1 x2 s
theorem tX11_ringsAs {ρ : mRo} {d : Nat} {P : mPo} {V : mS → List mE} (hV : mView LX V) {x1 : Int32} {x2 : Int32} {s : mS} {res : (Int32 × mS)} (hf : fX11_ringsAs x1 x2 s = some res) (hP : P (some (.int res.1)) (V res.2)) : mC ρ (d + 121) 218 [.ref qX, .int x1, .int x2] (V s) P := by
  rw [show d + 121 = 60 + d + 61 by omega]
  exact (tsccX11_ringsAs hV 60) hf hP
