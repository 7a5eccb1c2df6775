-- bytecode to functions, by program (wip/gen/decomp.py)
theorem dX11_falseOne_0 : decode cX11_falseOne 0 = .ok (.aload_n 0, 1) := by decide +kernel
theorem dX11_falseOne_1 : decode cX11_falseOne 1 = .ok (.iload_n 1, 1) := by decide +kernel
theorem dX11_falseOne_2 : decode cX11_falseOne 2 = .ok (.iconst 1, 1) := by decide +kernel
theorem dX11_falseOne_3 : decode cX11_falseOne 3 = .ok (.invokevirtual 227, 3) := by decide +kernel
theorem dX11_falseOne_6 : decode cX11_falseOne 6 = .ok (.iconst (-1), 1) := by decide +kernel
theorem dX11_falseOne_7 : decode cX11_falseOne 7 = .ok (.if_icmp .eq 7, 3) := by decide +kernel
theorem dX11_falseOne_10 : decode cX11_falseOne 10 = .ok (.iload_n 2, 1) := by decide +kernel
theorem dX11_falseOne_11 : decode cX11_falseOne 11 = .ok (.ifCond .ge 5, 3) := by decide +kernel
theorem dX11_falseOne_14 : decode cX11_falseOne 14 = .ok (.iconst (-1), 1) := by decide +kernel
theorem dX11_falseOne_15 : decode cX11_falseOne 15 = .ok (.ireturn, 1) := by decide +kernel
theorem dX11_falseOne_16 : decode cX11_falseOne 16 = .ok (.aload_n 0, 1) := by decide +kernel
theorem dX11_falseOne_17 : decode cX11_falseOne 17 = .ok (.iload_n 1, 1) := by decide +kernel
theorem dX11_falseOne_18 : decode cX11_falseOne 18 = .ok (.iconst 1, 1) := by decide +kernel
theorem dX11_falseOne_19 : decode cX11_falseOne 19 = .ok (.invokevirtual 227, 3) := by decide +kernel
theorem dX11_falseOne_22 : decode cX11_falseOne 22 = .ok (.ifCond .ge 10, 3) := by decide +kernel
theorem dX11_falseOne_25 : decode cX11_falseOne 25 = .ok (.aload_n 0, 1) := by decide +kernel
theorem dX11_falseOne_26 : decode cX11_falseOne 26 = .ok (.iload_n 1, 1) := by decide +kernel
theorem dX11_falseOne_27 : decode cX11_falseOne 27 = .ok (.iconst 1, 1) := by decide +kernel
theorem dX11_falseOne_28 : decode cX11_falseOne 28 = .ok (.invokevirtual 227, 3) := by decide +kernel
theorem dX11_falseOne_31 : decode cX11_falseOne 31 = .ok (.ireturn, 1) := by decide +kernel
theorem dX11_falseOne_32 : decode cX11_falseOne 32 = .ok (.iload_n 2, 1) := by decide +kernel
theorem dX11_falseOne_33 : decode cX11_falseOne 33 = .ok (.aload_n 0, 1) := by decide +kernel
theorem dX11_falseOne_34 : decode cX11_falseOne 34 = .ok (.getfield 71, 3) := by decide +kernel
theorem dX11_falseOne_37 : decode cX11_falseOne 37 = .ok (.iload_n 1, 1) := by decide +kernel
theorem dX11_falseOne_38 : decode cX11_falseOne 38 = .ok (.iaload, 1) := by decide +kernel
theorem dX11_falseOne_39 : decode cX11_falseOne 39 = .ok (.iconst 3, 1) := by decide +kernel
theorem dX11_falseOne_40 : decode cX11_falseOne 40 = .ok (.idiv, 1) := by decide +kernel
theorem dX11_falseOne_41 : decode cX11_falseOne 41 = .ok (.if_icmp .lt 6, 3) := by decide +kernel
theorem dX11_falseOne_44 : decode cX11_falseOne 44 = .ok (.bipush (-2), 2) := by decide +kernel
theorem dX11_falseOne_46 : decode cX11_falseOne 46 = .ok (.ireturn, 1) := by decide +kernel
theorem dX11_falseOne_47 : decode cX11_falseOne 47 = .ok (.iconst 0, 1) := by decide +kernel
theorem dX11_falseOne_48 : decode cX11_falseOne 48 = .ok (.istore_n 3, 1) := by decide +kernel
theorem dX11_falseOne_49 : decode cX11_falseOne 49 = .ok (.iconst 0, 1) := by decide +kernel
theorem dX11_falseOne_50 : decode cX11_falseOne 50 = .ok (.istore 4, 2) := by decide +kernel
theorem dX11_falseOne_52 : decode cX11_falseOne 52 = .ok (.iload 4, 2) := by decide +kernel
theorem dX11_falseOne_54 : decode cX11_falseOne 54 = .ok (.aload_n 0, 1) := by decide +kernel
theorem dX11_falseOne_55 : decode cX11_falseOne 55 = .ok (.getfield 97, 3) := by decide +kernel
theorem dX11_falseOne_58 : decode cX11_falseOne 58 = .ok (.if_icmp .ge 57, 3) := by decide +kernel
theorem dX11_falseOne_61 : decode cX11_falseOne 61 = .ok (.aload_n 0, 1) := by decide +kernel
theorem dX11_falseOne_62 : decode cX11_falseOne 62 = .ok (.invokevirtual 217, 3) := by decide +kernel
theorem dX11_falseOne_65 : decode cX11_falseOne 65 = .ok (.iload_n 3, 1) := by decide +kernel
theorem dX11_falseOne_66 : decode cX11_falseOne 66 = .ok (.iload 4, 2) := by decide +kernel
theorem dX11_falseOne_68 : decode cX11_falseOne 68 = .ok (.i2l, 1) := by decide +kernel
theorem dX11_falseOne_69 : decode cX11_falseOne 69 = .ok (.aload_n 0, 1) := by decide +kernel
theorem dX11_falseOne_70 : decode cX11_falseOne 70 = .ok (.getfield 74, 3) := by decide +kernel
theorem dX11_falseOne_73 : decode cX11_falseOne 73 = .ok (.bipush 60, 2) := by decide +kernel
theorem dX11_falseOne_75 : decode cX11_falseOne 75 = .ok (.iload_n 1, 1) := by decide +kernel
theorem dX11_falseOne_76 : decode cX11_falseOne 76 = .ok (.imul, 1) := by decide +kernel
theorem dX11_falseOne_77 : decode cX11_falseOne 77 = .ok (.iconst 3, 1) := by decide +kernel
theorem dX11_falseOne_78 : decode cX11_falseOne 78 = .ok (.iload_n 2, 1) := by decide +kernel
theorem dX11_falseOne_79 : decode cX11_falseOne 79 = .ok (.imul, 1) := by decide +kernel
theorem dX11_falseOne_80 : decode cX11_falseOne 80 = .ok (.iadd, 1) := by decide +kernel
theorem dX11_falseOne_81 : decode cX11_falseOne 81 = .ok (.laload, 1) := by decide +kernel
theorem dX11_falseOne_82 : decode cX11_falseOne 82 = .ok (.lcmp, 1) := by decide +kernel
theorem dX11_falseOne_83 : decode cX11_falseOne 83 = .ok (.ifCond .eq 23, 3) := by decide +kernel
theorem dX11_falseOne_86 : decode cX11_falseOne 86 = .ok (.aload_n 0, 1) := by decide +kernel
theorem dX11_falseOne_87 : decode cX11_falseOne 87 = .ok (.iload_n 1, 1) := by decide +kernel
theorem dX11_falseOne_88 : decode cX11_falseOne 88 = .ok (.iload_n 2, 1) := by decide +kernel
theorem dX11_falseOne_89 : decode cX11_falseOne 89 = .ok (.iload 4, 2) := by decide +kernel
theorem dX11_falseOne_91 : decode cX11_falseOne 91 = .ok (.invokevirtual 252, 3) := by decide +kernel
theorem dX11_falseOne_94 : decode cX11_falseOne 94 = .ok (.bipush (-2), 2) := by decide +kernel
theorem dX11_falseOne_96 : decode cX11_falseOne 96 = .ok (.if_icmp .ne 10, 3) := by decide +kernel
theorem dX11_falseOne_99 : decode cX11_falseOne 99 = .ok (.iconst 1, 1) := by decide +kernel
theorem dX11_falseOne_100 : decode cX11_falseOne 100 = .ok (.iload 4, 2) := by decide +kernel
theorem dX11_falseOne_102 : decode cX11_falseOne 102 = .ok (.ishl, 1) := by decide +kernel
theorem dX11_falseOne_103 : decode cX11_falseOne 103 = .ok (.goto 4, 3) := by decide +kernel
theorem dX11_falseOne_106 : decode cX11_falseOne 106 = .ok (.iconst 0, 1) := by decide +kernel
theorem dX11_falseOne_107 : decode cX11_falseOne 107 = .ok (.ior, 1) := by decide +kernel
theorem dX11_falseOne_108 : decode cX11_falseOne 108 = .ok (.istore_n 3, 1) := by decide +kernel
theorem dX11_falseOne_109 : decode cX11_falseOne 109 = .ok (.iinc 4 1, 3) := by decide +kernel
theorem dX11_falseOne_112 : decode cX11_falseOne 112 = .ok (.goto (-60), 3) := by decide +kernel
theorem dX11_falseOne_115 : decode cX11_falseOne 115 = .ok (.iload_n 3, 1) := by decide +kernel
theorem dX11_falseOne_116 : decode cX11_falseOne 116 = .ok (.ireturn, 1) := by decide +kernel
def fX11_falseOne_b107 (K52 : Int32 → Int32 → Int32 → Int32 → mS → Option (Int32 × mS)) (y1 : Int32) (y2 : Int32) (y4 : Int32) (z0 : Int32) (z1 : Int32) (s : mS) : Option (Int32 × mS) :=
  bnd (z1 ||| z0) fun v8 =>
  bnd (y4 + (nI 1)) fun v9 =>
  K52 y1 y2 v8 v9 s

def fX11_falseOne_b106 (K52 : Int32 → Int32 → Int32 → Int32 → mS → Option (Int32 × mS)) (y1 : Int32) (y2 : Int32) (y4 : Int32) (z0 : Int32) (s : mS) : Option (Int32 × mS) :=
  fX11_falseOne_b107 K52 y1 y2 y4 (nI 0) z0 s

def fX11_falseOne_b52 : Nat → Int32 → Int32 → Int32 → Int32 → mS → Option (Int32 × mS)
  | 0, _, _, _, _, _ => none
  | k + 1, y1, y2, y3, y4, s =>
    if (gI s iX_writers) ≤ y4 then
      some (y3, s)
    else
      bO (fX11_begins s) fun s6 =>
      ldL s6 lX_items 360 (((nI 60) * y1) + ((nI 3) * y2)) fun v7 =>
      if (lg_cmp (Int32.toInt64 y4) v7) = 0 then
        fX11_falseOne_b106 (fun u0 u1 u2 u3 u4 => fX11_falseOne_b52 k u0 u1 u2 u3 u4) y1 y2 y4 y3 s6
      else
        bP (fX11_firstFalse y1 y2 y4 s6) fun r10 s11 =>
        if r10 = (-2) then
          fX11_falseOne_b107 (fun u0 u1 u2 u3 u4 => fX11_falseOne_b52 k u0 u1 u2 u3 u4) y1 y2 y4 ((nI 1) <<< (y4 &&& 31)) y3 s11
        else
          fX11_falseOne_b106 (fun u0 u1 u2 u3 u4 => fX11_falseOne_b52 k u0 u1 u2 u3 u4) y1 y2 y4 y3 s11

def fX11_falseOne (x1 : Int32) (x2 : Int32) (s : mS) : Option (Int32 × mS) :=
  bO (fX11_rowIs x1 (nI 1) s) fun r1 =>
  if r1 = (-1) then
    some ((-1), s)
  else
    if 0 ≤ x2 then
      bO (fX11_rowIs x1 (nI 1) s) fun r2 =>
      if 0 ≤ r2 then
        ldA s aX_many 6 x1 fun v3 =>
        if x2 < (v3 / (nI 3)) then
          bnd (nI 0) fun v4 =>
          bnd (nI 0) fun v5 =>
          fX11_falseOne_b52 mFu x1 x2 v4 v5 s
        else
          some ((-2), s)
      else
        bO (fX11_rowIs x1 (nI 1) s) fun r12 =>
        some (r12, s)
    else
      some ((-1), s)

set_option maxRecDepth 20000 in
theorem wX11_falseOne_b107 {ρ : mRo} {d : Nat} {P : mPo} {V : mS → List mE} (hV : mView LX V)  {res : (Int32 × mS)} {K52 : Int32 → Int32 → Int32 → Int32 → mS → Option (Int32 × mS)} (hK52 : ∀ (y1 : Int32) (y2 : Int32) (y3 : Int32) (y4 : Int32) (s : mS), K52 y1 y2 y3 y4 s = some res → mG ρ (mC ρ (d + 67)) 11 5 cX11_falseOne (some .int) P 52 [(0, .ref qX), (1, .int y1), (2, .int y2), (3, .int y3), (4, .int y4)] [] (V s)) (hP : P (some (.int res.1)) (V res.2)) (y1 : Int32) (y2 : Int32) (y4 : Int32) (z0 : Int32) (z1 : Int32) (s : mS) (hf : fX11_falseOne_b107 K52 y1 y2 y4 z0 z1 s = some res) : mG ρ (mC ρ (d + 67)) 11 5 cX11_falseOne (some .int) P 107 [(0, .ref qX), (1, .int y1), (2, .int y2), (4, .int y4)] [.int z0, .int z1] (V s) := by
  unfold fX11_falseOne_b107 at hf
  refine e_ior dX11_falseOne_107 ?_
  refine e_istore_n dX11_falseOne_108 rfl (by decide) hf (fun v8 hf => ?_)
  refine e_iinc 4 dX11_falseOne_109 (by decide) rfl hf (fun v9 hf => ?_)
  refine e_goto 52 dX11_falseOne_112 (by decide) ?_
  refine e_pick [2, 3, 4, 1, 0] rfl ?_
  exact hK52 y1 y2 v8 v9 s hf
set_option maxRecDepth 20000 in
theorem wX11_falseOne_b106 {ρ : mRo} {d : Nat} {P : mPo} {V : mS → List mE} (hV : mView LX V)  {res : (Int32 × mS)} {K52 : Int32 → Int32 → Int32 → Int32 → mS → Option (Int32 × mS)} (hK52 : ∀ (y1 : Int32) (y2 : Int32) (y3 : Int32) (y4 : Int32) (s : mS), K52 y1 y2 y3 y4 s = some res → mG ρ (mC ρ (d + 67)) 11 5 cX11_falseOne (some .int) P 52 [(0, .ref qX), (1, .int y1), (2, .int y2), (3, .int y3), (4, .int y4)] [] (V s)) (hP : P (some (.int res.1)) (V res.2)) (y1 : Int32) (y2 : Int32) (y4 : Int32) (z0 : Int32) (s : mS) (hf : fX11_falseOne_b106 K52 y1 y2 y4 z0 s = some res) : mG ρ (mC ρ (d + 67)) 11 5 cX11_falseOne (some .int) P 106 [(0, .ref qX), (1, .int y1), (2, .int y2), (4, .int y4)] [.int z0] (V s) := by
  unfold fX11_falseOne_b106 at hf
  refine e_iconst (w := (nI 0)) dX11_falseOne_106 (by decide) ?_
  refine e_pick [0, 1, 2, 3] rfl ?_
  exact wX11_falseOne_b107 hV hK52 hP y1 y2 y4 (nI 0) z0 s hf
set_option maxRecDepth 20000 in
theorem wX11_falseOne_b52 {ρ : mRo} {d : Nat} {P : mPo} {V : mS → List mE} (hV : mView LX V)  {res : (Int32 × mS)} (hP : P (some (.int res.1)) (V res.2)) : ∀ (k : Nat) (y1 : Int32) (y2 : Int32) (y3 : Int32) (y4 : Int32) (s : mS), fX11_falseOne_b52 k y1 y2 y3 y4 s = some res → mG ρ (mC ρ (d + 67)) 11 5 cX11_falseOne (some .int) P 52 [(0, .ref qX), (1, .int y1), (2, .int y2), (3, .int y3), (4, .int y4)] [] (V s) := by
  intro k
  induction k with
  | zero => intro y1 y2 y3 y4 s hf; rw [fX11_falseOne_b52] at hf; cases hf
  | succ k ih =>
    intro y1 y2 y3 y4 s hf
    rw [fX11_falseOne_b52] at hf
    refine e_iload 4 dX11_falseOne_52 rfl ?_
    refine e_aload_n 0 dX11_falseOne_54 rfl rfl ?_
    refine e_geti hV dX11_falseOne_55 rfl lx_X rfl ?_
    refine e_icmp_ge 115 dX11_falseOne_58 (by decide) hf (fun hf => ?_) (fun hf => ?_)
    · refine e_iload_n 3 dX11_falseOne_115 rfl rfl ?_
      obtain rfl := Option.some.inj hf
      exact e_iret dX11_falseOne_116 trivial hP
    · refine e_aload_n 0 dX11_falseOne_61 rfl rfl ?_
      obtain ⟨s6, hg, hf⟩ := bO_some hf
      refine e_callV (as := []) (v := none) (s' := s6) hV dX11_falseOne_62 (Or.inl rfl) rfl rfl rfl rfl (Nat.le_of_ble_eq_true rfl) lx_X rfl rfl (fun Q hQ => tX11_begins (d := (d + 66)) hV  hg hQ) ?_
      refine e_iload_n 3 dX11_falseOne_65 rfl rfl ?_
      refine e_iload 4 dX11_falseOne_66 rfl ?_
      refine e_i2l dX11_falseOne_68 ?_
      refine e_aload_n 0 dX11_falseOne_69 rfl rfl ?_
      refine e_getr hV dX11_falseOne_70 rfl lx_X rfl ?_
      refine e_bipush (w := (nI 60)) dX11_falseOne_73 (by decide) ?_
      refine e_iload_n 1 dX11_falseOne_75 rfl rfl ?_
      refine e_imul dX11_falseOne_76 ?_
      refine e_iconst (w := (nI 3)) dX11_falseOne_77 (by decide) ?_
      refine e_iload_n 2 dX11_falseOne_78 rfl rfl ?_
      refine e_imul dX11_falseOne_79 ?_
      refine e_iadd dX11_falseOne_80 ?_
      refine e_lald hV dX11_falseOne_81 lx_X_items hf (fun v7 hf => ?_)
      refine e_lcmp dX11_falseOne_82 ?_
      refine e_if_eq 106 dX11_falseOne_83 (by decide) hf (fun hf => ?_) (fun hf => ?_)
      · refine e_pick [0, 1, 2, 4] rfl ?_
        exact wX11_falseOne_b106 hV ih hP y1 y2 y4 y3 s6 hf
      · refine e_aload_n 0 dX11_falseOne_86 rfl rfl ?_
        refine e_iload_n 1 dX11_falseOne_87 rfl rfl ?_
        refine e_iload_n 2 dX11_falseOne_88 rfl rfl ?_
        refine e_iload 4 dX11_falseOne_89 rfl ?_
        obtain ⟨r10, s11, hg, hf⟩ := bP_some hf
        refine e_callV (as := [.int y1, .int y2, .int y4]) (v := (some (.int r10))) (s' := s11) hV dX11_falseOne_91 (Or.inl rfl) rfl rfl rfl rfl (Nat.le_of_ble_eq_true rfl) lx_X rfl rfl (fun Q hQ => tX11_firstFalse (d := d) hV  hg hQ) ?_
        refine e_bipush (w := (-2)) dX11_falseOne_94 (by decide) ?_
        refine e_icmp_ne 106 dX11_falseOne_96 (by decide) hf (fun hf => ?_) (fun hf => ?_)
        · refine e_pick [0, 1, 2, 4] rfl ?_
          exact wX11_falseOne_b106 hV ih hP y1 y2 y4 y3 s11 hf
        · refine e_iconst (w := (nI 1)) dX11_falseOne_99 (by decide) ?_
          refine e_iload 4 dX11_falseOne_100 rfl ?_
          refine e_ishl dX11_falseOne_102 ?_
          refine e_goto 107 dX11_falseOne_103 (by decide) ?_
          refine e_pick [0, 1, 2, 4] rfl ?_
          exact wX11_falseOne_b107 hV ih hP y1 y2 y4 ((nI 1) <<< (y4 &&& 31)) y3 s11 hf
set_option maxRecDepth 20000 in
theorem tX11_falseOne {ρ : mRo} {d : Nat} {P : mPo} {V : mS → List mE} (hV : mView LX V)  {x1 : Int32} {x2 : Int32} {s : mS} {res : (Int32 × mS)} (hf : fX11_falseOne x1 x2 s = some res) (hP : P (some (.int res.1)) (V res.2)) : mC ρ (d + 68) 196 [.ref qX, .int x1, .int x2] (V s) P := by
  refine ⟨_, rfl, Nat.le_of_ble_eq_true rfl, by decide, ?_⟩
  show mG ρ (mC ρ (d + 67)) 11 5 cX11_falseOne (some .int) P 0 [(0, .ref qX), (1, .int x1), (2, .int x2)] [] (V s)
  unfold fX11_falseOne at hf
  refine e_aload_n 0 dX11_falseOne_0 rfl rfl ?_
  refine e_iload_n 1 dX11_falseOne_1 rfl rfl ?_
  refine e_iconst (w := (nI 1)) dX11_falseOne_2 (by decide) ?_
  obtain ⟨r1, hg, hf⟩ := bO_some hf
  refine e_callV (as := [.int x1, .int (nI 1)]) (v := (some (.int r1))) (s' := s) hV dX11_falseOne_3 (Or.inl rfl) rfl rfl rfl rfl (Nat.le_of_ble_eq_true rfl) lx_X rfl rfl (fun Q hQ => tX11_rowIs (d := (d + 64)) hV  hg hQ) ?_
  refine e_iconst (w := (-1)) dX11_falseOne_6 (by decide) ?_
  refine e_icmp_eq 14 dX11_falseOne_7 (by decide) hf (fun hf => ?_) (fun hf => ?_)
  · refine e_iconst (w := (-1)) dX11_falseOne_14 (by decide) ?_
    obtain rfl := Option.some.inj hf
    exact e_iret dX11_falseOne_15 trivial hP
  · refine e_iload_n 2 dX11_falseOne_10 rfl rfl ?_
    refine e_if_ge 16 dX11_falseOne_11 (by decide) hf (fun hf => ?_) (fun hf => ?_)
    · refine e_aload_n 0 dX11_falseOne_16 rfl rfl ?_
      refine e_iload_n 1 dX11_falseOne_17 rfl rfl ?_
      refine e_iconst (w := (nI 1)) dX11_falseOne_18 (by decide) ?_
      obtain ⟨r2, hg, hf⟩ := bO_some hf
      refine e_callV (as := [.int x1, .int (nI 1)]) (v := (some (.int r2))) (s' := s) hV dX11_falseOne_19 (Or.inl rfl) rfl rfl rfl rfl (Nat.le_of_ble_eq_true rfl) lx_X rfl rfl (fun Q hQ => tX11_rowIs (d := (d + 64)) hV  hg hQ) ?_
      refine e_if_ge 32 dX11_falseOne_22 (by decide) hf (fun hf => ?_) (fun hf => ?_)
      · refine e_iload_n 2 dX11_falseOne_32 rfl rfl ?_
        refine e_aload_n 0 dX11_falseOne_33 rfl rfl ?_
        refine e_getr hV dX11_falseOne_34 rfl lx_X rfl ?_
        refine e_iload_n 1 dX11_falseOne_37 rfl rfl ?_
        refine e_iald hV dX11_falseOne_38 lx_X_many hf (fun v3 hf => ?_)
        refine e_iconst (w := (nI 3)) dX11_falseOne_39 (by decide) ?_
        refine e_idiv dX11_falseOne_40 (by decide) ?_
        refine e_icmp_lt 47 dX11_falseOne_41 (by decide) hf (fun hf => ?_) (fun hf => ?_)
        · refine e_iconst (w := (nI 0)) dX11_falseOne_47 (by decide) ?_
          refine e_istore_n dX11_falseOne_48 rfl (by decide) hf (fun v4 hf => ?_)
          refine e_iconst (w := (nI 0)) dX11_falseOne_49 (by decide) ?_
          refine e_istore dX11_falseOne_50 (by decide) hf (fun v5 hf => ?_)
          refine e_pick [2, 3, 4, 1, 0] rfl ?_
          exact wX11_falseOne_b52 hV hP mFu x1 x2 v4 v5 s hf
        · refine e_bipush (w := (-2)) dX11_falseOne_44 (by decide) ?_
          obtain rfl := Option.some.inj hf
          exact e_iret dX11_falseOne_46 trivial hP
      · refine e_aload_n 0 dX11_falseOne_25 rfl rfl ?_
        refine e_iload_n 1 dX11_falseOne_26 rfl rfl ?_
        refine e_iconst (w := (nI 1)) dX11_falseOne_27 (by decide) ?_
        obtain ⟨r12, hg, hf⟩ := bO_some hf
        refine e_callV (as := [.int x1, .int (nI 1)]) (v := (some (.int r12))) (s' := s) hV dX11_falseOne_28 (Or.inl rfl) rfl rfl rfl rfl (Nat.le_of_ble_eq_true rfl) lx_X rfl rfl (fun Q hQ => tX11_rowIs (d := (d + 64)) hV  hg hQ) ?_
        obtain rfl := Option.some.inj hf
        exact e_iret dX11_falseOne_31 trivial hP
    · refine e_iconst (w := (-1)) dX11_falseOne_14 (by decide) ?_
      obtain rfl := Option.some.inj hf
      exact e_iret dX11_falseOne_15 trivial hP

theorem dX11_ribbons_0 : decode cX11_ribbons 0 = .ok (.aload_n 0, 1) := by decide +kernel
theorem dX11_ribbons_1 : decode cX11_ribbons 1 = .ok (.iload_n 1, 1) := by decide +kernel
theorem dX11_ribbons_2 : decode cX11_ribbons 2 = .ok (.iconst 1, 1) := by decide +kernel
theorem dX11_ribbons_3 : decode cX11_ribbons 3 = .ok (.invokevirtual 227, 3) := by decide +kernel
theorem dX11_ribbons_6 : decode cX11_ribbons 6 = .ok (.iconst (-1), 1) := by decide +kernel
theorem dX11_ribbons_7 : decode cX11_ribbons 7 = .ok (.if_icmp .eq 13, 3) := by decide +kernel
theorem dX11_ribbons_10 : decode cX11_ribbons 10 = .ok (.iload_n 2, 1) := by decide +kernel
theorem dX11_ribbons_11 : decode cX11_ribbons 11 = .ok (.i2l, 1) := by decide +kernel
theorem dX11_ribbons_12 : decode cX11_ribbons 12 = .ok (.lconst 0, 1) := by decide +kernel
theorem dX11_ribbons_13 : decode cX11_ribbons 13 = .ok (.lconst 1, 1) := by decide +kernel
theorem dX11_ribbons_14 : decode cX11_ribbons 14 = .ok (.invokestatic 93, 3) := by decide +kernel
theorem dX11_ribbons_17 : decode cX11_ribbons 17 = .ok (.ifCond .ne 5, 3) := by decide +kernel
theorem dX11_ribbons_20 : decode cX11_ribbons 20 = .ok (.iconst (-1), 1) := by decide +kernel
theorem dX11_ribbons_21 : decode cX11_ribbons 21 = .ok (.ireturn, 1) := by decide +kernel
theorem dX11_ribbons_22 : decode cX11_ribbons 22 = .ok (.aload_n 0, 1) := by decide +kernel
theorem dX11_ribbons_23 : decode cX11_ribbons 23 = .ok (.iload_n 1, 1) := by decide +kernel
theorem dX11_ribbons_24 : decode cX11_ribbons 24 = .ok (.iconst 1, 1) := by decide +kernel
theorem dX11_ribbons_25 : decode cX11_ribbons 25 = .ok (.invokevirtual 227, 3) := by decide +kernel
theorem dX11_ribbons_28 : decode cX11_ribbons 28 = .ok (.ifCond .ge 10, 3) := by decide +kernel
theorem dX11_ribbons_31 : decode cX11_ribbons 31 = .ok (.aload_n 0, 1) := by decide +kernel
theorem dX11_ribbons_32 : decode cX11_ribbons 32 = .ok (.iload_n 1, 1) := by decide +kernel
theorem dX11_ribbons_33 : decode cX11_ribbons 33 = .ok (.iconst 1, 1) := by decide +kernel
theorem dX11_ribbons_34 : decode cX11_ribbons 34 = .ok (.invokevirtual 227, 3) := by decide +kernel
theorem dX11_ribbons_37 : decode cX11_ribbons 37 = .ok (.ireturn, 1) := by decide +kernel
theorem dX11_ribbons_38 : decode cX11_ribbons 38 = .ok (.iconst 0, 1) := by decide +kernel
theorem dX11_ribbons_39 : decode cX11_ribbons 39 = .ok (.istore_n 3, 1) := by decide +kernel
theorem dX11_ribbons_40 : decode cX11_ribbons 40 = .ok (.bipush (-2), 2) := by decide +kernel
theorem dX11_ribbons_42 : decode cX11_ribbons 42 = .ok (.istore 4, 2) := by decide +kernel
theorem dX11_ribbons_44 : decode cX11_ribbons 44 = .ok (.iconst 0, 1) := by decide +kernel
theorem dX11_ribbons_45 : decode cX11_ribbons 45 = .ok (.istore 5, 2) := by decide +kernel
theorem dX11_ribbons_47 : decode cX11_ribbons 47 = .ok (.iload 5, 2) := by decide +kernel
theorem dX11_ribbons_49 : decode cX11_ribbons 49 = .ok (.bipush 9, 2) := by decide +kernel
theorem dX11_ribbons_51 : decode cX11_ribbons 51 = .ok (.if_icmp .gt 47, 3) := by decide +kernel
theorem dX11_ribbons_54 : decode cX11_ribbons 54 = .ok (.aload_n 0, 1) := by decide +kernel
theorem dX11_ribbons_55 : decode cX11_ribbons 55 = .ok (.invokevirtual 217, 3) := by decide +kernel
theorem dX11_ribbons_58 : decode cX11_ribbons 58 = .ok (.aload_n 0, 1) := by decide +kernel
theorem dX11_ribbons_59 : decode cX11_ribbons 59 = .ok (.iload 5, 2) := by decide +kernel
theorem dX11_ribbons_61 : decode cX11_ribbons 61 = .ok (.putfield 195, 3) := by decide +kernel
theorem dX11_ribbons_64 : decode cX11_ribbons 64 = .ok (.aload_n 0, 1) := by decide +kernel
theorem dX11_ribbons_65 : decode cX11_ribbons 65 = .ok (.iload_n 1, 1) := by decide +kernel
theorem dX11_ribbons_66 : decode cX11_ribbons 66 = .ok (.iconst (-1), 1) := by decide +kernel
theorem dX11_ribbons_67 : decode cX11_ribbons 67 = .ok (.iconst 0, 1) := by decide +kernel
theorem dX11_ribbons_68 : decode cX11_ribbons 68 = .ok (.invokevirtual 252, 3) := by decide +kernel
theorem dX11_ribbons_71 : decode cX11_ribbons 71 = .ok (.bipush (-2), 2) := by decide +kernel
theorem dX11_ribbons_73 : decode cX11_ribbons 73 = .ok (.if_icmp .ne 19, 3) := by decide +kernel
theorem dX11_ribbons_76 : decode cX11_ribbons 76 = .ok (.iload_n 3, 1) := by decide +kernel
theorem dX11_ribbons_77 : decode cX11_ribbons 77 = .ok (.ifCond .ne 8, 3) := by decide +kernel
theorem dX11_ribbons_80 : decode cX11_ribbons 80 = .ok (.iload 5, 2) := by decide +kernel
theorem dX11_ribbons_82 : decode cX11_ribbons 82 = .ok (.goto 5, 3) := by decide +kernel
theorem dX11_ribbons_85 : decode cX11_ribbons 85 = .ok (.iload 4, 2) := by decide +kernel
theorem dX11_ribbons_87 : decode cX11_ribbons 87 = .ok (.istore 4, 2) := by decide +kernel
theorem dX11_ribbons_89 : decode cX11_ribbons 89 = .ok (.iinc 3 1, 3) := by decide +kernel
theorem dX11_ribbons_92 : decode cX11_ribbons 92 = .ok (.iinc 5 1, 3) := by decide +kernel
theorem dX11_ribbons_95 : decode cX11_ribbons 95 = .ok (.goto (-48), 3) := by decide +kernel
theorem dX11_ribbons_98 : decode cX11_ribbons 98 = .ok (.iload_n 2, 1) := by decide +kernel
theorem dX11_ribbons_99 : decode cX11_ribbons 99 = .ok (.ifCond .ne 7, 3) := by decide +kernel
theorem dX11_ribbons_102 : decode cX11_ribbons 102 = .ok (.iload_n 3, 1) := by decide +kernel
theorem dX11_ribbons_103 : decode cX11_ribbons 103 = .ok (.goto 5, 3) := by decide +kernel
theorem dX11_ribbons_106 : decode cX11_ribbons 106 = .ok (.iload 4, 2) := by decide +kernel
theorem dX11_ribbons_108 : decode cX11_ribbons 108 = .ok (.ireturn, 1) := by decide +kernel
def fX11_ribbons_b92 (K47 : Int32 → Int32 → Int32 → Int32 → Int32 → mS → Option (Int32 × mS)) (y1 : Int32) (y2 : Int32) (y3 : Int32) (y4 : Int32) (y5 : Int32) (s : mS) : Option (Int32 × mS) :=
  bnd (y5 + (nI 1)) fun v11 =>
  K47 y1 y2 y3 y4 v11 s

def fX11_ribbons_b87 (K47 : Int32 → Int32 → Int32 → Int32 → Int32 → mS → Option (Int32 × mS)) (y1 : Int32) (y2 : Int32) (y3 : Int32) (y5 : Int32) (z0 : Int32) (s : mS) : Option (Int32 × mS) :=
  bnd z0 fun v12 =>
  bnd (y3 + (nI 1)) fun v13 =>
  fX11_ribbons_b92 K47 y1 y2 v13 v12 y5 s

def fX11_ribbons_b47 : Nat → Int32 → Int32 → Int32 → Int32 → Int32 → mS → Option (Int32 × mS)
  | 0, _, _, _, _, _, _ => none
  | k + 1, y1, y2, y3, y4, y5, s =>
    if (nI 9) < y5 then
      if y2 = 0 then
        some (y3, s)
      else
        some (y4, s)
    else
      bO (fX11_begins s) fun s7 =>
      bnd (pI s7 iX_ribbon y5) fun s8 =>
      bP (fX11_firstFalse y1 (-1) (nI 0) s8) fun r9 s10 =>
      if r9 = (-2) then
        if y3 = 0 then
          fX11_ribbons_b87 (fun u0 u1 u2 u3 u4 u5 => fX11_ribbons_b47 k u0 u1 u2 u3 u4 u5) y1 y2 y3 y5 y5 s10
        else
          fX11_ribbons_b87 (fun u0 u1 u2 u3 u4 u5 => fX11_ribbons_b47 k u0 u1 u2 u3 u4 u5) y1 y2 y3 y5 y4 s10
      else
        fX11_ribbons_b92 (fun u0 u1 u2 u3 u4 u5 => fX11_ribbons_b47 k u0 u1 u2 u3 u4 u5) y1 y2 y3 y4 y5 s10

def fX11_ribbons (x1 : Int32) (x2 : Int32) (s : mS) : Option (Int32 × mS) :=
  bO (fX11_rowIs x1 (nI 1) s) fun r1 =>
  if r1 = (-1) then
    some ((-1), s)
  else
    bO (fX11_within (Int32.toInt64 x2) 0 1 s) fun r2 =>
    if r2 = 0 then
      some ((-1), s)
    else
      bO (fX11_rowIs x1 (nI 1) s) fun r3 =>
      if 0 ≤ r3 then
        bnd (nI 0) fun v4 =>
        bnd (-2) fun v5 =>
        bnd (nI 0) fun v6 =>
        fX11_ribbons_b47 mFu x1 x2 v4 v5 v6 s
      else
        bO (fX11_rowIs x1 (nI 1) s) fun r14 =>
        some (r14, s)

set_option maxRecDepth 20000 in
theorem wX11_ribbons_b92 {ρ : mRo} {d : Nat} {P : mPo} {V : mS → List mE} (hV : mView LX V)  {res : (Int32 × mS)} {K47 : Int32 → Int32 → Int32 → Int32 → Int32 → mS → Option (Int32 × mS)} (hK47 : ∀ (y1 : Int32) (y2 : Int32) (y3 : Int32) (y4 : Int32) (y5 : Int32) (s : mS), K47 y1 y2 y3 y4 y5 s = some res → mG ρ (mC ρ (d + 67)) 11 6 cX11_ribbons (some .int) P 47 [(0, .ref qX), (1, .int y1), (2, .int y2), (3, .int y3), (4, .int y4), (5, .int y5)] [] (V s)) (hP : P (some (.int res.1)) (V res.2)) (y1 : Int32) (y2 : Int32) (y3 : Int32) (y4 : Int32) (y5 : Int32) (s : mS) (hf : fX11_ribbons_b92 K47 y1 y2 y3 y4 y5 s = some res) : mG ρ (mC ρ (d + 67)) 11 6 cX11_ribbons (some .int) P 92 [(0, .ref qX), (1, .int y1), (2, .int y2), (3, .int y3), (4, .int y4), (5, .int y5)] [] (V s) := by
  unfold fX11_ribbons_b92 at hf
  refine e_iinc 5 dX11_ribbons_92 (by decide) rfl hf (fun v11 hf => ?_)
  refine e_goto 47 dX11_ribbons_95 (by decide) ?_
  refine e_pick [1, 2, 3, 4, 5, 0] rfl ?_
  exact hK47 y1 y2 y3 y4 v11 s hf
set_option maxRecDepth 20000 in
theorem wX11_ribbons_b87 {ρ : mRo} {d : Nat} {P : mPo} {V : mS → List mE} (hV : mView LX V)  {res : (Int32 × mS)} {K47 : Int32 → Int32 → Int32 → Int32 → Int32 → mS → Option (Int32 × mS)} (hK47 : ∀ (y1 : Int32) (y2 : Int32) (y3 : Int32) (y4 : Int32) (y5 : Int32) (s : mS), K47 y1 y2 y3 y4 y5 s = some res → mG ρ (mC ρ (d + 67)) 11 6 cX11_ribbons (some .int) P 47 [(0, .ref qX), (1, .int y1), (2, .int y2), (3, .int y3), (4, .int y4), (5, .int y5)] [] (V s)) (hP : P (some (.int res.1)) (V res.2)) (y1 : Int32) (y2 : Int32) (y3 : Int32) (y5 : Int32) (z0 : Int32) (s : mS) (hf : fX11_ribbons_b87 K47 y1 y2 y3 y5 z0 s = some res) : mG ρ (mC ρ (d + 67)) 11 6 cX11_ribbons (some .int) P 87 [(0, .ref qX), (1, .int y1), (2, .int y2), (3, .int y3), (5, .int y5)] [.int z0] (V s) := by
  unfold fX11_ribbons_b87 at hf
  refine e_istore dX11_ribbons_87 (by decide) hf (fun v12 hf => ?_)
  refine e_iinc 4 dX11_ribbons_89 (by decide) rfl hf (fun v13 hf => ?_)
  refine e_pick [2, 3, 4, 0, 1, 5] rfl ?_
  exact wX11_ribbons_b92 hV hK47 hP y1 y2 v13 v12 y5 s hf
set_option maxRecDepth 20000 in
theorem wX11_ribbons_b47 {ρ : mRo} {d : Nat} {P : mPo} {V : mS → List mE} (hV : mView LX V)  {res : (Int32 × mS)} (hP : P (some (.int res.1)) (V res.2)) : ∀ (k : Nat) (y1 : Int32) (y2 : Int32) (y3 : Int32) (y4 : Int32) (y5 : Int32) (s : mS), fX11_ribbons_b47 k y1 y2 y3 y4 y5 s = some res → mG ρ (mC ρ (d + 67)) 11 6 cX11_ribbons (some .int) P 47 [(0, .ref qX), (1, .int y1), (2, .int y2), (3, .int y3), (4, .int y4), (5, .int y5)] [] (V s) := by
  intro k
  induction k with
  | zero => intro y1 y2 y3 y4 y5 s hf; rw [fX11_ribbons_b47] at hf; cases hf
  | succ k ih =>
    intro y1 y2 y3 y4 y5 s hf
    rw [fX11_ribbons_b47] at hf
    refine e_iload 5 dX11_ribbons_47 rfl ?_
    refine e_bipush (w := (nI 9)) dX11_ribbons_49 (by decide) ?_
    refine e_icmp_gt 98 dX11_ribbons_51 (by decide) hf (fun hf => ?_) (fun hf => ?_)
    · refine e_iload_n 2 dX11_ribbons_98 rfl rfl ?_
      refine e_if_ne 106 dX11_ribbons_99 (by decide) hf (fun hf => ?_) (fun hf => ?_)
      · refine e_iload 4 dX11_ribbons_106 rfl ?_
        obtain rfl := Option.some.inj hf
        exact e_iret dX11_ribbons_108 trivial hP
      · refine e_iload_n 3 dX11_ribbons_102 rfl rfl ?_
        refine e_goto 108 dX11_ribbons_103 (by decide) ?_
        obtain rfl := Option.some.inj hf
        exact e_iret dX11_ribbons_108 trivial hP
    · refine e_aload_n 0 dX11_ribbons_54 rfl rfl ?_
      obtain ⟨s7, hg, hf⟩ := bO_some hf
      refine e_callV (as := []) (v := none) (s' := s7) hV dX11_ribbons_55 (Or.inl rfl) rfl rfl rfl rfl (Nat.le_of_ble_eq_true rfl) lx_X rfl rfl (fun Q hQ => tX11_begins (d := (d + 66)) hV  hg hQ) ?_
      refine e_aload_n 0 dX11_ribbons_58 rfl rfl ?_
      refine e_iload 5 dX11_ribbons_59 rfl ?_
      refine e_puti hV dX11_ribbons_61 rfl rfl rfl (Or.inl rfl) lx_X rfl hf (fun s8 hf => ?_)
      refine e_aload_n 0 dX11_ribbons_64 rfl rfl ?_
      refine e_iload_n 1 dX11_ribbons_65 rfl rfl ?_
      refine e_iconst (w := (-1)) dX11_ribbons_66 (by decide) ?_
      refine e_iconst (w := (nI 0)) dX11_ribbons_67 (by decide) ?_
      obtain ⟨r9, s10, hg, hf⟩ := bP_some hf
      refine e_callV (as := [.int y1, .int (-1), .int (nI 0)]) (v := (some (.int r9))) (s' := s10) hV dX11_ribbons_68 (Or.inl rfl) rfl rfl rfl rfl (Nat.le_of_ble_eq_true rfl) lx_X rfl rfl (fun Q hQ => tX11_firstFalse (d := d) hV  hg hQ) ?_
      refine e_bipush (w := (-2)) dX11_ribbons_71 (by decide) ?_
      refine e_icmp_ne 92 dX11_ribbons_73 (by decide) hf (fun hf => ?_) (fun hf => ?_)
      · refine e_pick [0, 1, 2, 3, 4, 5] rfl ?_
        exact wX11_ribbons_b92 hV ih hP y1 y2 y3 y4 y5 s10 hf
      · refine e_iload_n 3 dX11_ribbons_76 rfl rfl ?_
        refine e_if_ne 85 dX11_ribbons_77 (by decide) hf (fun hf => ?_) (fun hf => ?_)
        · refine e_iload 4 dX11_ribbons_85 rfl ?_
          refine e_pick [0, 1, 2, 3, 5] rfl ?_
          exact wX11_ribbons_b87 hV ih hP y1 y2 y3 y5 y4 s10 hf
        · refine e_iload 5 dX11_ribbons_80 rfl ?_
          refine e_goto 87 dX11_ribbons_82 (by decide) ?_
          refine e_pick [0, 1, 2, 3, 5] rfl ?_
          exact wX11_ribbons_b87 hV ih hP y1 y2 y3 y5 y5 s10 hf
set_option maxRecDepth 20000 in
theorem tX11_ribbons {ρ : mRo} {d : Nat} {P : mPo} {V : mS → List mE} (hV : mView LX V)  {x1 : Int32} {x2 : Int32} {s : mS} {res : (Int32 × mS)} (hf : fX11_ribbons x1 x2 s = some res) (hP : P (some (.int res.1)) (V res.2)) : mC ρ (d + 68) 197 [.ref qX, .int x1, .int x2] (V s) P := by
  refine ⟨_, rfl, Nat.le_of_ble_eq_true rfl, by decide, ?_⟩
  show mG ρ (mC ρ (d + 67)) 11 6 cX11_ribbons (some .int) P 0 [(0, .ref qX), (1, .int x1), (2, .int x2)] [] (V s)
  unfold fX11_ribbons at hf
  refine e_aload_n 0 dX11_ribbons_0 rfl rfl ?_
  refine e_iload_n 1 dX11_ribbons_1 rfl rfl ?_
  refine e_iconst (w := (nI 1)) dX11_ribbons_2 (by decide) ?_
  obtain ⟨r1, hg, hf⟩ := bO_some hf
  refine e_callV (as := [.int x1, .int (nI 1)]) (v := (some (.int r1))) (s' := s) hV dX11_ribbons_3 (Or.inl rfl) rfl rfl rfl rfl (Nat.le_of_ble_eq_true rfl) lx_X rfl rfl (fun Q hQ => tX11_rowIs (d := (d + 64)) hV  hg hQ) ?_
  refine e_iconst (w := (-1)) dX11_ribbons_6 (by decide) ?_
  refine e_icmp_eq 20 dX11_ribbons_7 (by decide) hf (fun hf => ?_) (fun hf => ?_)
  · refine e_iconst (w := (-1)) dX11_ribbons_20 (by decide) ?_
    obtain rfl := Option.some.inj hf
    exact e_iret dX11_ribbons_21 trivial hP
  · refine e_iload_n 2 dX11_ribbons_10 rfl rfl ?_
    refine e_i2l dX11_ribbons_11 ?_
    refine e_lconst (w := 0) dX11_ribbons_12 (by decide) ?_
    refine e_lconst (w := 1) dX11_ribbons_13 (by decide) ?_
    obtain ⟨r2, hg, hf⟩ := bO_some hf
    refine e_callS (as := [.long (Int32.toInt64 x2), .long 0, .long 1]) (v := (some (.int r2))) (s' := s) dX11_ribbons_14 rfl rfl rfl rfl rfl (Nat.le_of_ble_eq_true rfl) (fun Q hQ => tX11_within (d := (d + 66)) hV  hg hQ) ?_
    refine e_if_ne 22 dX11_ribbons_17 (by decide) hf (fun hf => ?_) (fun hf => ?_)
    · refine e_aload_n 0 dX11_ribbons_22 rfl rfl ?_
      refine e_iload_n 1 dX11_ribbons_23 rfl rfl ?_
      refine e_iconst (w := (nI 1)) dX11_ribbons_24 (by decide) ?_
      obtain ⟨r3, hg, hf⟩ := bO_some hf
      refine e_callV (as := [.int x1, .int (nI 1)]) (v := (some (.int r3))) (s' := s) hV dX11_ribbons_25 (Or.inl rfl) rfl rfl rfl rfl (Nat.le_of_ble_eq_true rfl) lx_X rfl rfl (fun Q hQ => tX11_rowIs (d := (d + 64)) hV  hg hQ) ?_
      refine e_if_ge 38 dX11_ribbons_28 (by decide) hf (fun hf => ?_) (fun hf => ?_)
      · refine e_iconst (w := (nI 0)) dX11_ribbons_38 (by decide) ?_
        refine e_istore_n dX11_ribbons_39 rfl (by decide) hf (fun v4 hf => ?_)
        refine e_bipush (w := (-2)) dX11_ribbons_40 (by decide) ?_
        refine e_istore dX11_ribbons_42 (by decide) hf (fun v5 hf => ?_)
        refine e_iconst (w := (nI 0)) dX11_ribbons_44 (by decide) ?_
        refine e_istore dX11_ribbons_45 (by decide) hf (fun v6 hf => ?_)
        refine e_pick [3, 4, 5, 2, 1, 0] rfl ?_
        exact wX11_ribbons_b47 hV hP mFu x1 x2 v4 v5 v6 s hf
      · refine e_aload_n 0 dX11_ribbons_31 rfl rfl ?_
        refine e_iload_n 1 dX11_ribbons_32 rfl rfl ?_
        refine e_iconst (w := (nI 1)) dX11_ribbons_33 (by decide) ?_
        obtain ⟨r14, hg, hf⟩ := bO_some hf
        refine e_callV (as := [.int x1, .int (nI 1)]) (v := (some (.int r14))) (s' := s) hV dX11_ribbons_34 (Or.inl rfl) rfl rfl rfl rfl (Nat.le_of_ble_eq_true rfl) lx_X rfl rfl (fun Q hQ => tX11_rowIs (d := (d + 64)) hV  hg hQ) ?_
        obtain rfl := Option.some.inj hf
        exact e_iret dX11_ribbons_37 trivial hP
    · refine e_iconst (w := (-1)) dX11_ribbons_20 (by decide) ?_
      obtain rfl := Option.some.inj hf
      exact e_iret dX11_ribbons_21 trivial hP

theorem dX11_sleeps_0 : decode cX11_sleeps 0 = .ok (.iconst 0, 1) := by decide +kernel
theorem dX11_sleeps_1 : decode cX11_sleeps 1 = .ok (.istore_n 1, 1) := by decide +kernel
theorem dX11_sleeps_2 : decode cX11_sleeps 2 = .ok (.iload_n 1, 1) := by decide +kernel
theorem dX11_sleeps_3 : decode cX11_sleeps 3 = .ok (.bipush 24, 2) := by decide +kernel
theorem dX11_sleeps_5 : decode cX11_sleeps 5 = .ok (.if_icmp .ge 21, 3) := by decide +kernel
theorem dX11_sleeps_8 : decode cX11_sleeps 8 = .ok (.aload_n 0, 1) := by decide +kernel
theorem dX11_sleeps_9 : decode cX11_sleeps 9 = .ok (.getfield 37, 3) := by decide +kernel
theorem dX11_sleeps_12 : decode cX11_sleeps 12 = .ok (.iload_n 1, 1) := by decide +kernel
theorem dX11_sleeps_13 : decode cX11_sleeps 13 = .ok (.aload_n 0, 1) := by decide +kernel
theorem dX11_sleeps_14 : decode cX11_sleeps 14 = .ok (.getfield 31, 3) := by decide +kernel
theorem dX11_sleeps_17 : decode cX11_sleeps 17 = .ok (.iload_n 1, 1) := by decide +kernel
theorem dX11_sleeps_18 : decode cX11_sleeps 18 = .ok (.iaload, 1) := by decide +kernel
theorem dX11_sleeps_19 : decode cX11_sleeps 19 = .ok (.iastore, 1) := by decide +kernel
theorem dX11_sleeps_20 : decode cX11_sleeps 20 = .ok (.iinc 1 1, 3) := by decide +kernel
theorem dX11_sleeps_23 : decode cX11_sleeps 23 = .ok (.goto (-21), 3) := by decide +kernel
theorem dX11_sleeps_26 : decode cX11_sleeps 26 = .ok (.iconst 0, 1) := by decide +kernel
theorem dX11_sleeps_27 : decode cX11_sleeps 27 = .ok (.istore_n 1, 1) := by decide +kernel
theorem dX11_sleeps_28 : decode cX11_sleeps 28 = .ok (.iload_n 1, 1) := by decide +kernel
theorem dX11_sleeps_29 : decode cX11_sleeps 29 = .ok (.aload_n 0, 1) := by decide +kernel
theorem dX11_sleeps_30 : decode cX11_sleeps 30 = .ok (.getfield 90, 3) := by decide +kernel
theorem dX11_sleeps_33 : decode cX11_sleeps 33 = .ok (.if_icmp .ge 73, 3) := by decide +kernel
theorem dX11_sleeps_36 : decode cX11_sleeps 36 = .ok (.iload_n 1, 1) := by decide +kernel
theorem dX11_sleeps_37 : decode cX11_sleeps 37 = .ok (.iconst 1, 1) := by decide +kernel
theorem dX11_sleeps_38 : decode cX11_sleeps 38 = .ok (.iadd, 1) := by decide +kernel
theorem dX11_sleeps_39 : decode cX11_sleeps 39 = .ok (.aload_n 0, 1) := by decide +kernel
theorem dX11_sleeps_40 : decode cX11_sleeps 40 = .ok (.getfield 90, 3) := by decide +kernel
theorem dX11_sleeps_43 : decode cX11_sleeps 43 = .ok (.if_icmp .ge 9, 3) := by decide +kernel
theorem dX11_sleeps_46 : decode cX11_sleeps 46 = .ok (.iload_n 1, 1) := by decide +kernel
theorem dX11_sleeps_47 : decode cX11_sleeps 47 = .ok (.iconst 1, 1) := by decide +kernel
theorem dX11_sleeps_48 : decode cX11_sleeps 48 = .ok (.iadd, 1) := by decide +kernel
theorem dX11_sleeps_49 : decode cX11_sleeps 49 = .ok (.goto 4, 3) := by decide +kernel
theorem dX11_sleeps_52 : decode cX11_sleeps 52 = .ok (.iconst 0, 1) := by decide +kernel
theorem dX11_sleeps_53 : decode cX11_sleeps 53 = .ok (.istore_n 2, 1) := by decide +kernel
theorem dX11_sleeps_54 : decode cX11_sleeps 54 = .ok (.iconst 0, 1) := by decide +kernel
theorem dX11_sleeps_55 : decode cX11_sleeps 55 = .ok (.istore_n 3, 1) := by decide +kernel
theorem dX11_sleeps_56 : decode cX11_sleeps 56 = .ok (.iload_n 3, 1) := by decide +kernel
theorem dX11_sleeps_57 : decode cX11_sleeps 57 = .ok (.iconst 3, 1) := by decide +kernel
theorem dX11_sleeps_58 : decode cX11_sleeps 58 = .ok (.if_icmp .ge 42, 3) := by decide +kernel
theorem dX11_sleeps_61 : decode cX11_sleeps 61 = .ok (.aload_n 0, 1) := by decide +kernel
theorem dX11_sleeps_62 : decode cX11_sleeps 62 = .ok (.getfield 31, 3) := by decide +kernel
theorem dX11_sleeps_65 : decode cX11_sleeps 65 = .ok (.iconst 3, 1) := by decide +kernel
theorem dX11_sleeps_66 : decode cX11_sleeps 66 = .ok (.iload_n 1, 1) := by decide +kernel
theorem dX11_sleeps_67 : decode cX11_sleeps 67 = .ok (.imul, 1) := by decide +kernel
theorem dX11_sleeps_68 : decode cX11_sleeps 68 = .ok (.iload_n 3, 1) := by decide +kernel
theorem dX11_sleeps_69 : decode cX11_sleeps 69 = .ok (.iadd, 1) := by decide +kernel
theorem dX11_sleeps_70 : decode cX11_sleeps 70 = .ok (.aload_n 0, 1) := by decide +kernel
theorem dX11_sleeps_71 : decode cX11_sleeps 71 = .ok (.getfield 37, 3) := by decide +kernel
theorem dX11_sleeps_74 : decode cX11_sleeps 74 = .ok (.iconst 3, 1) := by decide +kernel
theorem dX11_sleeps_75 : decode cX11_sleeps 75 = .ok (.iload_n 1, 1) := by decide +kernel
theorem dX11_sleeps_76 : decode cX11_sleeps 76 = .ok (.imul, 1) := by decide +kernel
theorem dX11_sleeps_77 : decode cX11_sleeps 77 = .ok (.iload_n 3, 1) := by decide +kernel
theorem dX11_sleeps_78 : decode cX11_sleeps 78 = .ok (.iadd, 1) := by decide +kernel
theorem dX11_sleeps_79 : decode cX11_sleeps 79 = .ok (.iaload, 1) := by decide +kernel
theorem dX11_sleeps_80 : decode cX11_sleeps 80 = .ok (.aload_n 0, 1) := by decide +kernel
theorem dX11_sleeps_81 : decode cX11_sleeps 81 = .ok (.getfield 37, 3) := by decide +kernel
theorem dX11_sleeps_84 : decode cX11_sleeps 84 = .ok (.iconst 3, 1) := by decide +kernel
theorem dX11_sleeps_85 : decode cX11_sleeps 85 = .ok (.iload_n 2, 1) := by decide +kernel
theorem dX11_sleeps_86 : decode cX11_sleeps 86 = .ok (.imul, 1) := by decide +kernel
theorem dX11_sleeps_87 : decode cX11_sleeps 87 = .ok (.iload_n 3, 1) := by decide +kernel
theorem dX11_sleeps_88 : decode cX11_sleeps 88 = .ok (.iadd, 1) := by decide +kernel
theorem dX11_sleeps_89 : decode cX11_sleeps 89 = .ok (.iaload, 1) := by decide +kernel
theorem dX11_sleeps_90 : decode cX11_sleeps 90 = .ok (.invokestatic 211, 3) := by decide +kernel
theorem dX11_sleeps_93 : decode cX11_sleeps 93 = .ok (.iastore, 1) := by decide +kernel
theorem dX11_sleeps_94 : decode cX11_sleeps 94 = .ok (.iinc 3 1, 3) := by decide +kernel
theorem dX11_sleeps_97 : decode cX11_sleeps 97 = .ok (.goto (-41), 3) := by decide +kernel
theorem dX11_sleeps_100 : decode cX11_sleeps 100 = .ok (.iinc 1 1, 3) := by decide +kernel
theorem dX11_sleeps_103 : decode cX11_sleeps 103 = .ok (.goto (-75), 3) := by decide +kernel
theorem dX11_sleeps_106 : decode cX11_sleeps 106 = .ok (.return_, 1) := by decide +kernel
def fX11_sleeps_b56 (K28 : Int32 → mS → Option mS) : Nat → Int32 → Int32 → Int32 → mS → Option mS
  | 0, _, _, _, _ => none
  | k + 1, y1, y2, y3, s =>
    if (nI 3) ≤ y3 then
      bnd (y1 + (nI 1)) fun v5 =>
      K28 v5 s
    else
      ldA s aX_hadPull 24 (((nI 3) * y1) + y3) fun v6 =>
      ldA s aX_hadPull 24 (((nI 3) * y2) + y3) fun v7 =>
      bO (fX11_nearer v6 v7 s) fun r8 =>
      stA s aX_pull 24 (((nI 3) * y1) + y3) r8 fun s9 =>
      bnd (y3 + (nI 1)) fun v10 =>
      fX11_sleeps_b56 K28 k y1 y2 v10 s9

def fX11_sleeps_b53 (K28 : Int32 → mS → Option mS) (y1 : Int32) (z0 : Int32) (s : mS) : Option mS :=
  bnd z0 fun v3 =>
  bnd (nI 0) fun v4 =>
  fX11_sleeps_b56 K28 mFu y1 v3 v4 s

def fX11_sleeps_b28 : Nat → Int32 → mS → Option mS
  | 0, _, _ => none
  | k + 1, y1, s =>
    if (gI s iX_machines) ≤ y1 then
      some s
    else
      if (gI s iX_machines) ≤ (y1 + (nI 1)) then
        fX11_sleeps_b53 (fun u0 u1 => fX11_sleeps_b28 k u0 u1) y1 (nI 0) s
      else
        fX11_sleeps_b53 (fun u0 u1 => fX11_sleeps_b28 k u0 u1) y1 (y1 + (nI 1)) s

def fX11_sleeps_b2 : Nat → Int32 → mS → Option mS
  | 0, _, _ => none
  | k + 1, y1, s =>
    if (nI 24) ≤ y1 then
      bnd (nI 0) fun v2 =>
      fX11_sleeps_b28 mFu v2 s
    else
      ldA s aX_pull 24 y1 fun v11 =>
      stA s aX_hadPull 24 y1 v11 fun s12 =>
      bnd (y1 + (nI 1)) fun v13 =>
      fX11_sleeps_b2 k v13 s12

def fX11_sleeps (s : mS) : Option mS :=
  bnd (nI 0) fun v1 =>
  fX11_sleeps_b2 mFu v1 s

set_option maxRecDepth 20000 in
theorem wX11_sleeps_b56 {ρ : mRo} {d : Nat} {P : mPo} {V : mS → List mE} (hV : mView LX V)  {res : mS} {K28 : Int32 → mS → Option mS} (hK28 : ∀ (y1 : Int32) (s : mS), K28 y1 s = some res → mG ρ (mC ρ (d + 1)) 11 4 cX11_sleeps none P 28 [(0, .ref qX), (1, .int y1)] [] (V s)) (hP : P none (V res)) : ∀ (k : Nat) (y1 : Int32) (y2 : Int32) (y3 : Int32) (s : mS), fX11_sleeps_b56 K28 k y1 y2 y3 s = some res → mG ρ (mC ρ (d + 1)) 11 4 cX11_sleeps none P 56 [(0, .ref qX), (1, .int y1), (2, .int y2), (3, .int y3)] [] (V s) := by
  intro k
  induction k with
  | zero => intro y1 y2 y3 s hf; rw [fX11_sleeps_b56] at hf; cases hf
  | succ k ih =>
    intro y1 y2 y3 s hf
    rw [fX11_sleeps_b56] at hf
    refine e_iload_n 3 dX11_sleeps_56 rfl rfl ?_
    refine e_iconst (w := (nI 3)) dX11_sleeps_57 (by decide) ?_
    refine e_icmp_ge 100 dX11_sleeps_58 (by decide) hf (fun hf => ?_) (fun hf => ?_)
    · refine e_iinc 1 dX11_sleeps_100 (by decide) rfl hf (fun v5 hf => ?_)
      refine e_goto 28 dX11_sleeps_103 (by decide) ?_
      refine e_pick [1, 0] rfl ?_
      exact hK28 v5 s hf
    · refine e_aload_n 0 dX11_sleeps_61 rfl rfl ?_
      refine e_getr hV dX11_sleeps_62 rfl lx_X rfl ?_
      refine e_iconst (w := (nI 3)) dX11_sleeps_65 (by decide) ?_
      refine e_iload_n 1 dX11_sleeps_66 rfl rfl ?_
      refine e_imul dX11_sleeps_67 ?_
      refine e_iload_n 3 dX11_sleeps_68 rfl rfl ?_
      refine e_iadd dX11_sleeps_69 ?_
      refine e_aload_n 0 dX11_sleeps_70 rfl rfl ?_
      refine e_getr hV dX11_sleeps_71 rfl lx_X rfl ?_
      refine e_iconst (w := (nI 3)) dX11_sleeps_74 (by decide) ?_
      refine e_iload_n 1 dX11_sleeps_75 rfl rfl ?_
      refine e_imul dX11_sleeps_76 ?_
      refine e_iload_n 3 dX11_sleeps_77 rfl rfl ?_
      refine e_iadd dX11_sleeps_78 ?_
      refine e_iald hV dX11_sleeps_79 lx_X_hadPull hf (fun v6 hf => ?_)
      refine e_aload_n 0 dX11_sleeps_80 rfl rfl ?_
      refine e_getr hV dX11_sleeps_81 rfl lx_X rfl ?_
      refine e_iconst (w := (nI 3)) dX11_sleeps_84 (by decide) ?_
      refine e_iload_n 2 dX11_sleeps_85 rfl rfl ?_
      refine e_imul dX11_sleeps_86 ?_
      refine e_iload_n 3 dX11_sleeps_87 rfl rfl ?_
      refine e_iadd dX11_sleeps_88 ?_
      refine e_iald hV dX11_sleeps_89 lx_X_hadPull hf (fun v7 hf => ?_)
      obtain ⟨r8, hg, hf⟩ := bO_some hf
      refine e_callS (as := [.int v6, .int v7]) (v := (some (.int r8))) (s' := s) dX11_sleeps_90 rfl rfl rfl rfl rfl (Nat.le_of_ble_eq_true rfl) (fun Q hQ => tX11_nearer (d := d) hV  hg hQ) ?_
      refine e_iast hV dX11_sleeps_93 lx_X_pull hf (fun s9 hf => ?_)
      refine e_iinc 3 dX11_sleeps_94 (by decide) rfl hf (fun v10 hf => ?_)
      refine e_goto 56 dX11_sleeps_97 (by decide) ?_
      refine e_pick [1, 2, 3, 0] rfl ?_
      exact ih y1 y2 v10 s9 hf
set_option maxRecDepth 20000 in
theorem wX11_sleeps_b53 {ρ : mRo} {d : Nat} {P : mPo} {V : mS → List mE} (hV : mView LX V)  {res : mS} {K28 : Int32 → mS → Option mS} (hK28 : ∀ (y1 : Int32) (s : mS), K28 y1 s = some res → mG ρ (mC ρ (d + 1)) 11 4 cX11_sleeps none P 28 [(0, .ref qX), (1, .int y1)] [] (V s)) (hP : P none (V res)) (y1 : Int32) (z0 : Int32) (s : mS) (hf : fX11_sleeps_b53 K28 y1 z0 s = some res) : mG ρ (mC ρ (d + 1)) 11 4 cX11_sleeps none P 53 [(0, .ref qX), (1, .int y1)] [.int z0] (V s) := by
  unfold fX11_sleeps_b53 at hf
  refine e_istore_n dX11_sleeps_53 rfl (by decide) hf (fun v3 hf => ?_)
  refine e_iconst (w := (nI 0)) dX11_sleeps_54 (by decide) ?_
  refine e_istore_n dX11_sleeps_55 rfl (by decide) hf (fun v4 hf => ?_)
  refine e_pick [2, 3, 1, 0] rfl ?_
  exact wX11_sleeps_b56 hV hK28 hP mFu y1 v3 v4 s hf
set_option maxRecDepth 20000 in
theorem wX11_sleeps_b28 {ρ : mRo} {d : Nat} {P : mPo} {V : mS → List mE} (hV : mView LX V)  {res : mS} (hP : P none (V res)) : ∀ (k : Nat) (y1 : Int32) (s : mS), fX11_sleeps_b28 k y1 s = some res → mG ρ (mC ρ (d + 1)) 11 4 cX11_sleeps none P 28 [(0, .ref qX), (1, .int y1)] [] (V s) := by
  intro k
  induction k with
  | zero => intro y1 s hf; rw [fX11_sleeps_b28] at hf; cases hf
  | succ k ih =>
    intro y1 s hf
    rw [fX11_sleeps_b28] at hf
    refine e_iload_n 1 dX11_sleeps_28 rfl rfl ?_
    refine e_aload_n 0 dX11_sleeps_29 rfl rfl ?_
    refine e_geti hV dX11_sleeps_30 rfl lx_X rfl ?_
    refine e_icmp_ge 106 dX11_sleeps_33 (by decide) hf (fun hf => ?_) (fun hf => ?_)
    · obtain rfl := Option.some.inj hf
      exact e_ret dX11_sleeps_106 rfl hP
    · refine e_iload_n 1 dX11_sleeps_36 rfl rfl ?_
      refine e_iconst (w := (nI 1)) dX11_sleeps_37 (by decide) ?_
      refine e_iadd dX11_sleeps_38 ?_
      refine e_aload_n 0 dX11_sleeps_39 rfl rfl ?_
      refine e_geti hV dX11_sleeps_40 rfl lx_X rfl ?_
      refine e_icmp_ge 52 dX11_sleeps_43 (by decide) hf (fun hf => ?_) (fun hf => ?_)
      · refine e_iconst (w := (nI 0)) dX11_sleeps_52 (by decide) ?_
        refine e_pick [0, 1] rfl ?_
        exact wX11_sleeps_b53 hV ih hP y1 (nI 0) s hf
      · refine e_iload_n 1 dX11_sleeps_46 rfl rfl ?_
        refine e_iconst (w := (nI 1)) dX11_sleeps_47 (by decide) ?_
        refine e_iadd dX11_sleeps_48 ?_
        refine e_goto 53 dX11_sleeps_49 (by decide) ?_
        refine e_pick [0, 1] rfl ?_
        exact wX11_sleeps_b53 hV ih hP y1 (y1 + (nI 1)) s hf
set_option maxRecDepth 20000 in
theorem wX11_sleeps_b2 {ρ : mRo} {d : Nat} {P : mPo} {V : mS → List mE} (hV : mView LX V)  {res : mS} (hP : P none (V res)) : ∀ (k : Nat) (y1 : Int32) (s : mS), fX11_sleeps_b2 k y1 s = some res → mG ρ (mC ρ (d + 1)) 11 4 cX11_sleeps none P 2 [(0, .ref qX), (1, .int y1)] [] (V s) := by
  intro k
  induction k with
  | zero => intro y1 s hf; rw [fX11_sleeps_b2] at hf; cases hf
  | succ k ih =>
    intro y1 s hf
    rw [fX11_sleeps_b2] at hf
    refine e_iload_n 1 dX11_sleeps_2 rfl rfl ?_
    refine e_bipush (w := (nI 24)) dX11_sleeps_3 (by decide) ?_
    refine e_icmp_ge 26 dX11_sleeps_5 (by decide) hf (fun hf => ?_) (fun hf => ?_)
    · refine e_iconst (w := (nI 0)) dX11_sleeps_26 (by decide) ?_
      refine e_istore_n dX11_sleeps_27 rfl (by decide) hf (fun v2 hf => ?_)
      refine e_pick [1, 0] rfl ?_
      exact wX11_sleeps_b28 hV hP mFu v2 s hf
    · refine e_aload_n 0 dX11_sleeps_8 rfl rfl ?_
      refine e_getr hV dX11_sleeps_9 rfl lx_X rfl ?_
      refine e_iload_n 1 dX11_sleeps_12 rfl rfl ?_
      refine e_aload_n 0 dX11_sleeps_13 rfl rfl ?_
      refine e_getr hV dX11_sleeps_14 rfl lx_X rfl ?_
      refine e_iload_n 1 dX11_sleeps_17 rfl rfl ?_
      refine e_iald hV dX11_sleeps_18 lx_X_pull hf (fun v11 hf => ?_)
      refine e_iast hV dX11_sleeps_19 lx_X_hadPull hf (fun s12 hf => ?_)
      refine e_iinc 1 dX11_sleeps_20 (by decide) rfl hf (fun v13 hf => ?_)
      refine e_goto 2 dX11_sleeps_23 (by decide) ?_
      refine e_pick [1, 0] rfl ?_
      exact ih v13 s12 hf
set_option maxRecDepth 20000 in
theorem tX11_sleeps {ρ : mRo} {d : Nat} {P : mPo} {V : mS → List mE} (hV : mView LX V)  {s : mS} {res : mS} (hf : fX11_sleeps s = some res) (hP : P none (V res)) : mC ρ (d + 2) 198 [.ref qX] (V s) P := by
  refine ⟨_, rfl, Nat.le_of_ble_eq_true rfl, by decide, ?_⟩
  show mG ρ (mC ρ (d + 1)) 11 4 cX11_sleeps none P 0 [(0, .ref qX)] [] (V s)
  unfold fX11_sleeps at hf
  refine e_iconst (w := (nI 0)) dX11_sleeps_0 (by decide) ?_
  refine e_istore_n dX11_sleeps_1 rfl (by decide) hf (fun v1 hf => ?_)
  refine e_pick [1, 0] rfl ?_
  exact wX11_sleeps_b2 hV hP mFu v1 s hf

theorem dX11_morning_0 : decode cX11_morning 0 = .ok (.aload_n 0, 1) := by decide +kernel
theorem dX11_morning_1 : decode cX11_morning 1 = .ok (.iload_n 1, 1) := by decide +kernel
theorem dX11_morning_2 : decode cX11_morning 2 = .ok (.i2l, 1) := by decide +kernel
theorem dX11_morning_3 : decode cX11_morning 3 = .ok (.invokevirtual 104, 3) := by decide +kernel
theorem dX11_morning_6 : decode cX11_morning 6 = .ok (.ifCond .eq 27, 3) := by decide +kernel
theorem dX11_morning_9 : decode cX11_morning 9 = .ok (.iload_n 2, 1) := by decide +kernel
theorem dX11_morning_10 : decode cX11_morning 10 = .ok (.i2l, 1) := by decide +kernel
theorem dX11_morning_11 : decode cX11_morning 11 = .ok (.lconst 0, 1) := by decide +kernel
theorem dX11_morning_12 : decode cX11_morning 12 = .ok (.ldc2_w 255, 3) := by decide +kernel
theorem dX11_morning_15 : decode cX11_morning 15 = .ok (.invokestatic 93, 3) := by decide +kernel
theorem dX11_morning_18 : decode cX11_morning 18 = .ok (.ifCond .eq 15, 3) := by decide +kernel
theorem dX11_morning_21 : decode cX11_morning 21 = .ok (.iload_n 3, 1) := by decide +kernel
theorem dX11_morning_22 : decode cX11_morning 22 = .ok (.i2l, 1) := by decide +kernel
theorem dX11_morning_23 : decode cX11_morning 23 = .ok (.lconst 0, 1) := by decide +kernel
theorem dX11_morning_24 : decode cX11_morning 24 = .ok (.ldc2_w 128, 3) := by decide +kernel
theorem dX11_morning_27 : decode cX11_morning 27 = .ok (.invokestatic 93, 3) := by decide +kernel
theorem dX11_morning_30 : decode cX11_morning 30 = .ok (.ifCond .ne 5, 3) := by decide +kernel
theorem dX11_morning_33 : decode cX11_morning 33 = .ok (.iconst (-1), 1) := by decide +kernel
theorem dX11_morning_34 : decode cX11_morning 34 = .ok (.ireturn, 1) := by decide +kernel
theorem dX11_morning_35 : decode cX11_morning 35 = .ok (.aload_n 0, 1) := by decide +kernel
theorem dX11_morning_36 : decode cX11_morning 36 = .ok (.invokevirtual 217, 3) := by decide +kernel
theorem dX11_morning_39 : decode cX11_morning 39 = .ok (.iconst 0, 1) := by decide +kernel
theorem dX11_morning_40 : decode cX11_morning 40 = .ok (.istore 4, 2) := by decide +kernel
theorem dX11_morning_42 : decode cX11_morning 42 = .ok (.iload 4, 2) := by decide +kernel
theorem dX11_morning_44 : decode cX11_morning 44 = .ok (.iload_n 2, 1) := by decide +kernel
theorem dX11_morning_45 : decode cX11_morning 45 = .ok (.if_icmp .ge 13, 3) := by decide +kernel
theorem dX11_morning_48 : decode cX11_morning 48 = .ok (.aload_n 0, 1) := by decide +kernel
theorem dX11_morning_49 : decode cX11_morning 49 = .ok (.invokevirtual 257, 3) := by decide +kernel
theorem dX11_morning_52 : decode cX11_morning 52 = .ok (.iinc 4 1, 3) := by decide +kernel
theorem dX11_morning_55 : decode cX11_morning 55 = .ok (.goto (-13), 3) := by decide +kernel
theorem dX11_morning_58 : decode cX11_morning 58 = .ok (.aload_n 0, 1) := by decide +kernel
theorem dX11_morning_59 : decode cX11_morning 59 = .ok (.getfield 31, 3) := by decide +kernel
theorem dX11_morning_62 : decode cX11_morning 62 = .ok (.iconst 3, 1) := by decide +kernel
theorem dX11_morning_63 : decode cX11_morning 63 = .ok (.iload_n 1, 1) := by decide +kernel
theorem dX11_morning_64 : decode cX11_morning 64 = .ok (.imul, 1) := by decide +kernel
theorem dX11_morning_65 : decode cX11_morning 65 = .ok (.iload_n 3, 1) := by decide +kernel
theorem dX11_morning_66 : decode cX11_morning 66 = .ok (.iadd, 1) := by decide +kernel
theorem dX11_morning_67 : decode cX11_morning 67 = .ok (.iaload, 1) := by decide +kernel
theorem dX11_morning_68 : decode cX11_morning 68 = .ok (.ireturn, 1) := by decide +kernel
def fX11_morning_b42 : Nat → Int32 → Int32 → Int32 → Int32 → mS → Option (Int32 × mS)
  | 0, _, _, _, _, _ => none
  | k + 1, y1, y2, y3, y4, s =>
    if y2 ≤ y4 then
      ldA s aX_pull 24 (((nI 3) * y1) + y3) fun v6 =>
      some (v6, s)
    else
      bO (fX11_sleeps s) fun s7 =>
      bnd (y4 + (nI 1)) fun v8 =>
      fX11_morning_b42 k y1 y2 y3 v8 s7

def fX11_morning (x1 : Int32) (x2 : Int32) (x3 : Int32) (s : mS) : Option (Int32 × mS) :=
  bO (fX11_isMachine (Int32.toInt64 x1) s) fun r1 =>
  if r1 = 0 then
    some ((-1), s)
  else
    bO (fX11_within (Int32.toInt64 x2) 0 60 s) fun r2 =>
    if r2 = 0 then
      some ((-1), s)
    else
      bO (fX11_within (Int32.toInt64 x3) 0 2 s) fun r3 =>
      if r3 = 0 then
        some ((-1), s)
      else
        bO (fX11_begins s) fun s4 =>
        bnd (nI 0) fun v5 =>
        fX11_morning_b42 mFu x1 x2 x3 v5 s4

set_option maxRecDepth 20000 in
theorem wX11_morning_b42 {ρ : mRo} {d : Nat} {P : mPo} {V : mS → List mE} (hV : mView LX V)  {res : (Int32 × mS)} (hP : P (some (.int res.1)) (V res.2)) : ∀ (k : Nat) (y1 : Int32) (y2 : Int32) (y3 : Int32) (y4 : Int32) (s : mS), fX11_morning_b42 k y1 y2 y3 y4 s = some res → mG ρ (mC ρ (d + 2)) 11 5 cX11_morning (some .int) P 42 [(0, .ref qX), (1, .int y1), (2, .int y2), (3, .int y3), (4, .int y4)] [] (V s) := by
  intro k
  induction k with
  | zero => intro y1 y2 y3 y4 s hf; rw [fX11_morning_b42] at hf; cases hf
  | succ k ih =>
    intro y1 y2 y3 y4 s hf
    rw [fX11_morning_b42] at hf
    refine e_iload 4 dX11_morning_42 rfl ?_
    refine e_iload_n 2 dX11_morning_44 rfl rfl ?_
    refine e_icmp_ge 58 dX11_morning_45 (by decide) hf (fun hf => ?_) (fun hf => ?_)
    · refine e_aload_n 0 dX11_morning_58 rfl rfl ?_
      refine e_getr hV dX11_morning_59 rfl lx_X rfl ?_
      refine e_iconst (w := (nI 3)) dX11_morning_62 (by decide) ?_
      refine e_iload_n 1 dX11_morning_63 rfl rfl ?_
      refine e_imul dX11_morning_64 ?_
      refine e_iload_n 3 dX11_morning_65 rfl rfl ?_
      refine e_iadd dX11_morning_66 ?_
      refine e_iald hV dX11_morning_67 lx_X_pull hf (fun v6 hf => ?_)
      obtain rfl := Option.some.inj hf
      exact e_iret dX11_morning_68 trivial hP
    · refine e_aload_n 0 dX11_morning_48 rfl rfl ?_
      obtain ⟨s7, hg, hf⟩ := bO_some hf
      refine e_callV (as := []) (v := none) (s' := s7) hV dX11_morning_49 (Or.inl rfl) rfl rfl rfl rfl (Nat.le_of_ble_eq_true rfl) lx_X rfl rfl (fun Q hQ => tX11_sleeps (d := d) hV  hg hQ) ?_
      refine e_iinc 4 dX11_morning_52 (by decide) rfl hf (fun v8 hf => ?_)
      refine e_goto 42 dX11_morning_55 (by decide) ?_
      refine e_pick [1, 2, 3, 4, 0] rfl ?_
      exact ih y1 y2 y3 v8 s7 hf
set_option maxRecDepth 20000 in
theorem tX11_morning {ρ : mRo} {d : Nat} {P : mPo} {V : mS → List mE} (hV : mView LX V)  {x1 : Int32} {x2 : Int32} {x3 : Int32} {s : mS} {res : (Int32 × mS)} (hf : fX11_morning x1 x2 x3 s = some res) (hP : P (some (.int res.1)) (V res.2)) : mC ρ (d + 3) 199 [.ref qX, .int x1, .int x2, .int x3] (V s) P := by
  refine ⟨_, rfl, Nat.le_of_ble_eq_true rfl, by decide, ?_⟩
  show mG ρ (mC ρ (d + 2)) 11 5 cX11_morning (some .int) P 0 [(0, .ref qX), (1, .int x1), (2, .int x2), (3, .int x3)] [] (V s)
  unfold fX11_morning at hf
  refine e_aload_n 0 dX11_morning_0 rfl rfl ?_
  refine e_iload_n 1 dX11_morning_1 rfl rfl ?_
  refine e_i2l dX11_morning_2 ?_
  obtain ⟨r1, hg, hf⟩ := bO_some hf
  refine e_callV (as := [.long (Int32.toInt64 x1)]) (v := (some (.int r1))) (s' := s) hV dX11_morning_3 (Or.inl rfl) rfl rfl rfl rfl (Nat.le_of_ble_eq_true rfl) lx_X rfl rfl (fun Q hQ => tX11_isMachine (d := d) hV  hg hQ) ?_
  refine e_if_eq 33 dX11_morning_6 (by decide) hf (fun hf => ?_) (fun hf => ?_)
  · refine e_iconst (w := (-1)) dX11_morning_33 (by decide) ?_
    obtain rfl := Option.some.inj hf
    exact e_iret dX11_morning_34 trivial hP
  · refine e_iload_n 2 dX11_morning_9 rfl rfl ?_
    refine e_i2l dX11_morning_10 ?_
    refine e_lconst (w := 0) dX11_morning_11 (by decide) ?_
    refine e_ldc2_w (w := 60) dX11_morning_12 rfl ?_
    obtain ⟨r2, hg, hf⟩ := bO_some hf
    refine e_callS (as := [.long (Int32.toInt64 x2), .long 0, .long 60]) (v := (some (.int r2))) (s' := s) dX11_morning_15 rfl rfl rfl rfl rfl (Nat.le_of_ble_eq_true rfl) (fun Q hQ => tX11_within (d := (d + 1)) hV  hg hQ) ?_
    refine e_if_eq 33 dX11_morning_18 (by decide) hf (fun hf => ?_) (fun hf => ?_)
    · refine e_iconst (w := (-1)) dX11_morning_33 (by decide) ?_
      obtain rfl := Option.some.inj hf
      exact e_iret dX11_morning_34 trivial hP
    · refine e_iload_n 3 dX11_morning_21 rfl rfl ?_
      refine e_i2l dX11_morning_22 ?_
      refine e_lconst (w := 0) dX11_morning_23 (by decide) ?_
      refine e_ldc2_w (w := 2) dX11_morning_24 rfl ?_
      obtain ⟨r3, hg, hf⟩ := bO_some hf
      refine e_callS (as := [.long (Int32.toInt64 x3), .long 0, .long 2]) (v := (some (.int r3))) (s' := s) dX11_morning_27 rfl rfl rfl rfl rfl (Nat.le_of_ble_eq_true rfl) (fun Q hQ => tX11_within (d := (d + 1)) hV  hg hQ) ?_
      refine e_if_ne 35 dX11_morning_30 (by decide) hf (fun hf => ?_) (fun hf => ?_)
      · refine e_aload_n 0 dX11_morning_35 rfl rfl ?_
        obtain ⟨s4, hg, hf⟩ := bO_some hf
        refine e_callV (as := []) (v := none) (s' := s4) hV dX11_morning_36 (Or.inl rfl) rfl rfl rfl rfl (Nat.le_of_ble_eq_true rfl) lx_X rfl rfl (fun Q hQ => tX11_begins (d := (d + 1)) hV  hg hQ) ?_
        refine e_iconst (w := (nI 0)) dX11_morning_39 (by decide) ?_
        refine e_istore dX11_morning_40 (by decide) hf (fun v5 hf => ?_)
        refine e_pick [1, 2, 3, 4, 0] rfl ?_
        exact wX11_morning_b42 hV hP mFu x1 x2 x3 v5 s4 hf
      · refine e_iconst (w := (-1)) dX11_morning_33 (by decide) ?_
        obtain rfl := Option.some.inj hf
        exact e_iret dX11_morning_34 trivial hP

theorem dX11_alike_0 : decode cX11_alike 0 = .ok (.aload_n 0, 1) := by decide +kernel
theorem dX11_alike_1 : decode cX11_alike 1 = .ok (.invokevirtual 217, 3) := by decide +kernel
theorem dX11_alike_4 : decode cX11_alike 4 = .ok (.iconst 0, 1) := by decide +kernel
theorem dX11_alike_5 : decode cX11_alike 5 = .ok (.istore_n 1, 1) := by decide +kernel
theorem dX11_alike_6 : decode cX11_alike 6 = .ok (.iload_n 1, 1) := by decide +kernel
theorem dX11_alike_7 : decode cX11_alike 7 = .ok (.bipush 99, 2) := by decide +kernel
theorem dX11_alike_9 : decode cX11_alike 9 = .ok (.if_icmp .gt 66, 3) := by decide +kernel
theorem dX11_alike_12 : decode cX11_alike 12 = .ok (.iconst 1, 1) := by decide +kernel
theorem dX11_alike_13 : decode cX11_alike 13 = .ok (.istore_n 2, 1) := by decide +kernel
theorem dX11_alike_14 : decode cX11_alike 14 = .ok (.iconst 3, 1) := by decide +kernel
theorem dX11_alike_15 : decode cX11_alike 15 = .ok (.istore_n 3, 1) := by decide +kernel
theorem dX11_alike_16 : decode cX11_alike 16 = .ok (.iload_n 3, 1) := by decide +kernel
theorem dX11_alike_17 : decode cX11_alike 17 = .ok (.iconst 3, 1) := by decide +kernel
theorem dX11_alike_18 : decode cX11_alike 18 = .ok (.aload_n 0, 1) := by decide +kernel
theorem dX11_alike_19 : decode cX11_alike 19 = .ok (.getfield 90, 3) := by decide +kernel
theorem dX11_alike_22 : decode cX11_alike 22 = .ok (.imul, 1) := by decide +kernel
theorem dX11_alike_23 : decode cX11_alike 23 = .ok (.if_icmp .ge 36, 3) := by decide +kernel
theorem dX11_alike_26 : decode cX11_alike 26 = .ok (.iload_n 2, 1) := by decide +kernel
theorem dX11_alike_27 : decode cX11_alike 27 = .ok (.ifCond .eq 24, 3) := by decide +kernel
theorem dX11_alike_30 : decode cX11_alike 30 = .ok (.aload_n 0, 1) := by decide +kernel
theorem dX11_alike_31 : decode cX11_alike 31 = .ok (.getfield 31, 3) := by decide +kernel
theorem dX11_alike_34 : decode cX11_alike 34 = .ok (.iload_n 3, 1) := by decide +kernel
theorem dX11_alike_35 : decode cX11_alike 35 = .ok (.iaload, 1) := by decide +kernel
theorem dX11_alike_36 : decode cX11_alike 36 = .ok (.aload_n 0, 1) := by decide +kernel
theorem dX11_alike_37 : decode cX11_alike 37 = .ok (.getfield 31, 3) := by decide +kernel
theorem dX11_alike_40 : decode cX11_alike 40 = .ok (.iload_n 3, 1) := by decide +kernel
theorem dX11_alike_41 : decode cX11_alike 41 = .ok (.iconst 3, 1) := by decide +kernel
theorem dX11_alike_42 : decode cX11_alike 42 = .ok (.irem, 1) := by decide +kernel
theorem dX11_alike_43 : decode cX11_alike 43 = .ok (.iaload, 1) := by decide +kernel
theorem dX11_alike_44 : decode cX11_alike 44 = .ok (.if_icmp .ne 7, 3) := by decide +kernel
theorem dX11_alike_47 : decode cX11_alike 47 = .ok (.iconst 1, 1) := by decide +kernel
theorem dX11_alike_48 : decode cX11_alike 48 = .ok (.goto 4, 3) := by decide +kernel
theorem dX11_alike_51 : decode cX11_alike 51 = .ok (.iconst 0, 1) := by decide +kernel
theorem dX11_alike_52 : decode cX11_alike 52 = .ok (.istore_n 2, 1) := by decide +kernel
theorem dX11_alike_53 : decode cX11_alike 53 = .ok (.iinc 3 1, 3) := by decide +kernel
theorem dX11_alike_56 : decode cX11_alike 56 = .ok (.goto (-40), 3) := by decide +kernel
theorem dX11_alike_59 : decode cX11_alike 59 = .ok (.iload_n 2, 1) := by decide +kernel
theorem dX11_alike_60 : decode cX11_alike 60 = .ok (.ifCond .eq 5, 3) := by decide +kernel
theorem dX11_alike_63 : decode cX11_alike 63 = .ok (.iload_n 1, 1) := by decide +kernel
theorem dX11_alike_64 : decode cX11_alike 64 = .ok (.ireturn, 1) := by decide +kernel
theorem dX11_alike_65 : decode cX11_alike 65 = .ok (.aload_n 0, 1) := by decide +kernel
theorem dX11_alike_66 : decode cX11_alike 66 = .ok (.invokevirtual 257, 3) := by decide +kernel
theorem dX11_alike_69 : decode cX11_alike 69 = .ok (.iinc 1 1, 3) := by decide +kernel
theorem dX11_alike_72 : decode cX11_alike 72 = .ok (.goto (-66), 3) := by decide +kernel
theorem dX11_alike_75 : decode cX11_alike 75 = .ok (.bipush (-2), 2) := by decide +kernel
theorem dX11_alike_77 : decode cX11_alike 77 = .ok (.ireturn, 1) := by decide +kernel
def fX11_alike_b52 (K6 : Int32 → mS → Option (Int32 × mS)) (K16 : Int32 → Int32 → Int32 → mS → Option (Int32 × mS)) (y1 : Int32) (y3 : Int32) (z0 : Int32) (s : mS) : Option (Int32 × mS) :=
  bnd z0 fun v7 =>
  bnd (y3 + (nI 1)) fun v8 =>
  K16 y1 v7 v8 s

def fX11_alike_b51 (K6 : Int32 → mS → Option (Int32 × mS)) (K16 : Int32 → Int32 → Int32 → mS → Option (Int32 × mS)) (y1 : Int32) (y3 : Int32) (s : mS) : Option (Int32 × mS) :=
  fX11_alike_b52 K6 K16 y1 y3 (nI 0) s

def fX11_alike_b16 (K6 : Int32 → mS → Option (Int32 × mS)) : Nat → Int32 → Int32 → Int32 → mS → Option (Int32 × mS)
  | 0, _, _, _, _ => none
  | k + 1, y1, y2, y3, s =>
    if ((nI 3) * (gI s iX_machines)) ≤ y3 then
      if y2 = 0 then
        bO (fX11_sleeps s) fun s5 =>
        bnd (y1 + (nI 1)) fun v6 =>
        K6 v6 s5
      else
        some (y1, s)
    else
      if y2 = 0 then
        fX11_alike_b51 K6 (fun u0 u1 u2 u3 => fX11_alike_b16 K6 k u0 u1 u2 u3) y1 y3 s
      else
        ldA s aX_pull 24 y3 fun v9 =>
        ldA s aX_pull 24 (y3 - y3 / (nI 3) * (nI 3)) fun v10 =>
        if v9 = v10 then
          fX11_alike_b52 K6 (fun u0 u1 u2 u3 => fX11_alike_b16 K6 k u0 u1 u2 u3) y1 y3 (nI 1) s
        else
          fX11_alike_b51 K6 (fun u0 u1 u2 u3 => fX11_alike_b16 K6 k u0 u1 u2 u3) y1 y3 s

def fX11_alike_b6 : Nat → Int32 → mS → Option (Int32 × mS)
  | 0, _, _ => none
  | k + 1, y1, s =>
    if (nI 99) < y1 then
      some ((-2), s)
    else
      bnd (nI 1) fun v3 =>
      bnd (nI 3) fun v4 =>
      fX11_alike_b16 (fun u0 u1 => fX11_alike_b6 k u0 u1) mFu y1 v3 v4 s

def fX11_alike (s : mS) : Option (Int32 × mS) :=
  bO (fX11_begins s) fun s1 =>
  bnd (nI 0) fun v2 =>
  fX11_alike_b6 mFu v2 s1

set_option maxRecDepth 20000 in
theorem wX11_alike_b52 {ρ : mRo} {d : Nat} {P : mPo} {V : mS → List mE} (hV : mView LX V)  {res : (Int32 × mS)} {K6 : Int32 → mS → Option (Int32 × mS)} (hK6 : ∀ (y1 : Int32) (s : mS), K6 y1 s = some res → mG ρ (mC ρ (d + 2)) 11 4 cX11_alike (some .int) P 6 [(0, .ref qX), (1, .int y1)] [] (V s)) {K16 : Int32 → Int32 → Int32 → mS → Option (Int32 × mS)} (hK16 : ∀ (y1 : Int32) (y2 : Int32) (y3 : Int32) (s : mS), K16 y1 y2 y3 s = some res → mG ρ (mC ρ (d + 2)) 11 4 cX11_alike (some .int) P 16 [(0, .ref qX), (1, .int y1), (2, .int y2), (3, .int y3)] [] (V s)) (hP : P (some (.int res.1)) (V res.2)) (y1 : Int32) (y3 : Int32) (z0 : Int32) (s : mS) (hf : fX11_alike_b52 K6 K16 y1 y3 z0 s = some res) : mG ρ (mC ρ (d + 2)) 11 4 cX11_alike (some .int) P 52 [(0, .ref qX), (1, .int y1), (3, .int y3)] [.int z0] (V s) := by
  unfold fX11_alike_b52 at hf
  refine e_istore_n dX11_alike_52 rfl (by decide) hf (fun v7 hf => ?_)
  refine e_iinc 3 dX11_alike_53 (by decide) rfl hf (fun v8 hf => ?_)
  refine e_goto 16 dX11_alike_56 (by decide) ?_
  refine e_pick [2, 3, 1, 0] rfl ?_
  exact hK16 y1 v7 v8 s hf
set_option maxRecDepth 20000 in
theorem wX11_alike_b51 {ρ : mRo} {d : Nat} {P : mPo} {V : mS → List mE} (hV : mView LX V)  {res : (Int32 × mS)} {K6 : Int32 → mS → Option (Int32 × mS)} (hK6 : ∀ (y1 : Int32) (s : mS), K6 y1 s = some res → mG ρ (mC ρ (d + 2)) 11 4 cX11_alike (some .int) P 6 [(0, .ref qX), (1, .int y1)] [] (V s)) {K16 : Int32 → Int32 → Int32 → mS → Option (Int32 × mS)} (hK16 : ∀ (y1 : Int32) (y2 : Int32) (y3 : Int32) (s : mS), K16 y1 y2 y3 s = some res → mG ρ (mC ρ (d + 2)) 11 4 cX11_alike (some .int) P 16 [(0, .ref qX), (1, .int y1), (2, .int y2), (3, .int y3)] [] (V s)) (hP : P (some (.int res.1)) (V res.2)) (y1 : Int32) (y3 : Int32) (s : mS) (hf : fX11_alike_b51 K6 K16 y1 y3 s = some res) : mG ρ (mC ρ (d + 2)) 11 4 cX11_alike (some .int) P 51 [(0, .ref qX), (1, .int y1), (3, .int y3)] [] (V s) := by
  unfold fX11_alike_b51 at hf
  refine e_iconst (w := (nI 0)) dX11_alike_51 (by decide) ?_
  refine e_pick [0, 1, 2] rfl ?_
  exact wX11_alike_b52 hV hK6 hK16 hP y1 y3 (nI 0) s hf
set_option maxRecDepth 20000 in
theorem wX11_alike_b16 {ρ : mRo} {d : Nat} {P : mPo} {V : mS → List mE} (hV : mView LX V)  {res : (Int32 × mS)} {K6 : Int32 → mS → Option (Int32 × mS)} (hK6 : ∀ (y1 : Int32) (s : mS), K6 y1 s = some res → mG ρ (mC ρ (d + 2)) 11 4 cX11_alike (some .int) P 6 [(0, .ref qX), (1, .int y1)] [] (V s)) (hP : P (some (.int res.1)) (V res.2)) : ∀ (k : Nat) (y1 : Int32) (y2 : Int32) (y3 : Int32) (s : mS), fX11_alike_b16 K6 k y1 y2 y3 s = some res → mG ρ (mC ρ (d + 2)) 11 4 cX11_alike (some .int) P 16 [(0, .ref qX), (1, .int y1), (2, .int y2), (3, .int y3)] [] (V s) := by
  intro k
  induction k with
  | zero => intro y1 y2 y3 s hf; rw [fX11_alike_b16] at hf; cases hf
  | succ k ih =>
    intro y1 y2 y3 s hf
    rw [fX11_alike_b16] at hf
    refine e_iload_n 3 dX11_alike_16 rfl rfl ?_
    refine e_iconst (w := (nI 3)) dX11_alike_17 (by decide) ?_
    refine e_aload_n 0 dX11_alike_18 rfl rfl ?_
    refine e_geti hV dX11_alike_19 rfl lx_X rfl ?_
    refine e_imul dX11_alike_22 ?_
    refine e_icmp_ge 59 dX11_alike_23 (by decide) hf (fun hf => ?_) (fun hf => ?_)
    · refine e_iload_n 2 dX11_alike_59 rfl rfl ?_
      refine e_if_eq 65 dX11_alike_60 (by decide) hf (fun hf => ?_) (fun hf => ?_)
      · refine e_aload_n 0 dX11_alike_65 rfl rfl ?_
        obtain ⟨s5, hg, hf⟩ := bO_some hf
        refine e_callV (as := []) (v := none) (s' := s5) hV dX11_alike_66 (Or.inl rfl) rfl rfl rfl rfl (Nat.le_of_ble_eq_true rfl) lx_X rfl rfl (fun Q hQ => tX11_sleeps (d := d) hV  hg hQ) ?_
        refine e_iinc 1 dX11_alike_69 (by decide) rfl hf (fun v6 hf => ?_)
        refine e_goto 6 dX11_alike_72 (by decide) ?_
        refine e_pick [1, 0] rfl ?_
        exact hK6 v6 s5 hf
      · refine e_iload_n 1 dX11_alike_63 rfl rfl ?_
        obtain rfl := Option.some.inj hf
        exact e_iret dX11_alike_64 trivial hP
    · refine e_iload_n 2 dX11_alike_26 rfl rfl ?_
      refine e_if_eq 51 dX11_alike_27 (by decide) hf (fun hf => ?_) (fun hf => ?_)
      · refine e_pick [0, 1, 3] rfl ?_
        exact wX11_alike_b51 hV hK6 ih hP y1 y3 s hf
      · refine e_aload_n 0 dX11_alike_30 rfl rfl ?_
        refine e_getr hV dX11_alike_31 rfl lx_X rfl ?_
        refine e_iload_n 3 dX11_alike_34 rfl rfl ?_
        refine e_iald hV dX11_alike_35 lx_X_pull hf (fun v9 hf => ?_)
        refine e_aload_n 0 dX11_alike_36 rfl rfl ?_
        refine e_getr hV dX11_alike_37 rfl lx_X rfl ?_
        refine e_iload_n 3 dX11_alike_40 rfl rfl ?_
        refine e_iconst (w := (nI 3)) dX11_alike_41 (by decide) ?_
        refine e_irem dX11_alike_42 (by decide) ?_
        refine e_iald hV dX11_alike_43 lx_X_pull hf (fun v10 hf => ?_)
        refine e_icmp_ne 51 dX11_alike_44 (by decide) hf (fun hf => ?_) (fun hf => ?_)
        · refine e_pick [0, 1, 3] rfl ?_
          exact wX11_alike_b51 hV hK6 ih hP y1 y3 s hf
        · refine e_iconst (w := (nI 1)) dX11_alike_47 (by decide) ?_
          refine e_goto 52 dX11_alike_48 (by decide) ?_
          refine e_pick [0, 1, 3] rfl ?_
          exact wX11_alike_b52 hV hK6 ih hP y1 y3 (nI 1) s hf
set_option maxRecDepth 20000 in
theorem wX11_alike_b6 {ρ : mRo} {d : Nat} {P : mPo} {V : mS → List mE} (hV : mView LX V)  {res : (Int32 × mS)} (hP : P (some (.int res.1)) (V res.2)) : ∀ (k : Nat) (y1 : Int32) (s : mS), fX11_alike_b6 k y1 s = some res → mG ρ (mC ρ (d + 2)) 11 4 cX11_alike (some .int) P 6 [(0, .ref qX), (1, .int y1)] [] (V s) := by
  intro k
  induction k with
  | zero => intro y1 s hf; rw [fX11_alike_b6] at hf; cases hf
  | succ k ih =>
    intro y1 s hf
    rw [fX11_alike_b6] at hf
    refine e_iload_n 1 dX11_alike_6 rfl rfl ?_
    refine e_bipush (w := (nI 99)) dX11_alike_7 (by decide) ?_
    refine e_icmp_gt 75 dX11_alike_9 (by decide) hf (fun hf => ?_) (fun hf => ?_)
    · refine e_bipush (w := (-2)) dX11_alike_75 (by decide) ?_
      obtain rfl := Option.some.inj hf
      exact e_iret dX11_alike_77 trivial hP
    · refine e_iconst (w := (nI 1)) dX11_alike_12 (by decide) ?_
      refine e_istore_n dX11_alike_13 rfl (by decide) hf (fun v3 hf => ?_)
      refine e_iconst (w := (nI 3)) dX11_alike_14 (by decide) ?_
      refine e_istore_n dX11_alike_15 rfl (by decide) hf (fun v4 hf => ?_)
      refine e_pick [2, 3, 1, 0] rfl ?_
      exact wX11_alike_b16 hV ih hP mFu y1 v3 v4 s hf
set_option maxRecDepth 20000 in
theorem tX11_alike {ρ : mRo} {d : Nat} {P : mPo} {V : mS → List mE} (hV : mView LX V)  {s : mS} {res : (Int32 × mS)} (hf : fX11_alike s = some res) (hP : P (some (.int res.1)) (V res.2)) : mC ρ (d + 3) 200 [.ref qX] (V s) P := by
  refine ⟨_, rfl, Nat.le_of_ble_eq_true rfl, by decide, ?_⟩
  show mG ρ (mC ρ (d + 2)) 11 4 cX11_alike (some .int) P 0 [(0, .ref qX)] [] (V s)
  unfold fX11_alike at hf
  refine e_aload_n 0 dX11_alike_0 rfl rfl ?_
  obtain ⟨s1, hg, hf⟩ := bO_some hf
  refine e_callV (as := []) (v := none) (s' := s1) hV dX11_alike_1 (Or.inl rfl) rfl rfl rfl rfl (Nat.le_of_ble_eq_true rfl) lx_X rfl rfl (fun Q hQ => tX11_begins (d := (d + 1)) hV  hg hQ) ?_
  refine e_iconst (w := (nI 0)) dX11_alike_4 (by decide) ?_
  refine e_istore_n dX11_alike_5 rfl (by decide) hf (fun v2 hf => ?_)
  refine e_pick [1, 0] rfl ?_
  exact wX11_alike_b6 hV hP mFu v2 s1 hf

theorem dX11_priceOf_0 : decode cX11_priceOf 0 = .ok (.iconst (-1), 1) := by decide +kernel
theorem dX11_priceOf_1 : decode cX11_priceOf 1 = .ok (.istore_n 2, 1) := by decide +kernel
theorem dX11_priceOf_2 : decode cX11_priceOf 2 = .ok (.iconst 0, 1) := by decide +kernel
theorem dX11_priceOf_3 : decode cX11_priceOf 3 = .ok (.istore_n 3, 1) := by decide +kernel
theorem dX11_priceOf_4 : decode cX11_priceOf 4 = .ok (.iload_n 3, 1) := by decide +kernel
theorem dX11_priceOf_5 : decode cX11_priceOf 5 = .ok (.aload_n 0, 1) := by decide +kernel
theorem dX11_priceOf_6 : decode cX11_priceOf 6 = .ok (.getfield 97, 3) := by decide +kernel
theorem dX11_priceOf_9 : decode cX11_priceOf 9 = .ok (.if_icmp .ge 34, 3) := by decide +kernel
theorem dX11_priceOf_12 : decode cX11_priceOf 12 = .ok (.aload_n 0, 1) := by decide +kernel
theorem dX11_priceOf_13 : decode cX11_priceOf 13 = .ok (.iload_n 3, 1) := by decide +kernel
theorem dX11_priceOf_14 : decode cX11_priceOf 14 = .ok (.iload_n 1, 1) := by decide +kernel
theorem dX11_priceOf_15 : decode cX11_priceOf 15 = .ok (.invokevirtual 240, 3) := by decide +kernel
theorem dX11_priceOf_18 : decode cX11_priceOf 18 = .ok (.istore 4, 2) := by decide +kernel
theorem dX11_priceOf_20 : decode cX11_priceOf 20 = .ok (.iload_n 2, 1) := by decide +kernel
theorem dX11_priceOf_21 : decode cX11_priceOf 21 = .ok (.ifCond .lt 9, 3) := by decide +kernel
theorem dX11_priceOf_24 : decode cX11_priceOf 24 = .ok (.iload 4, 2) := by decide +kernel
theorem dX11_priceOf_26 : decode cX11_priceOf 26 = .ok (.iload_n 2, 1) := by decide +kernel
theorem dX11_priceOf_27 : decode cX11_priceOf 27 = .ok (.if_icmp .ge 8, 3) := by decide +kernel
theorem dX11_priceOf_30 : decode cX11_priceOf 30 = .ok (.iload 4, 2) := by decide +kernel
theorem dX11_priceOf_32 : decode cX11_priceOf 32 = .ok (.goto 4, 3) := by decide +kernel
theorem dX11_priceOf_35 : decode cX11_priceOf 35 = .ok (.iload_n 2, 1) := by decide +kernel
theorem dX11_priceOf_36 : decode cX11_priceOf 36 = .ok (.istore_n 2, 1) := by decide +kernel
theorem dX11_priceOf_37 : decode cX11_priceOf 37 = .ok (.iinc 3 1, 3) := by decide +kernel
theorem dX11_priceOf_40 : decode cX11_priceOf 40 = .ok (.goto (-36), 3) := by decide +kernel
theorem dX11_priceOf_43 : decode cX11_priceOf 43 = .ok (.bipush 100, 2) := by decide +kernel
theorem dX11_priceOf_45 : decode cX11_priceOf 45 = .ok (.iload_n 2, 1) := by decide +kernel
theorem dX11_priceOf_46 : decode cX11_priceOf 46 = .ok (.ifCond .ge 8, 3) := by decide +kernel
theorem dX11_priceOf_49 : decode cX11_priceOf 49 = .ok (.bipush 50, 2) := by decide +kernel
theorem dX11_priceOf_51 : decode cX11_priceOf 51 = .ok (.goto 6, 3) := by decide +kernel
theorem dX11_priceOf_54 : decode cX11_priceOf 54 = .ok (.iconst 3, 1) := by decide +kernel
theorem dX11_priceOf_55 : decode cX11_priceOf 55 = .ok (.iload_n 2, 1) := by decide +kernel
theorem dX11_priceOf_56 : decode cX11_priceOf 56 = .ok (.imul, 1) := by decide +kernel
theorem dX11_priceOf_57 : decode cX11_priceOf 57 = .ok (.isub, 1) := by decide +kernel
theorem dX11_priceOf_58 : decode cX11_priceOf 58 = .ok (.aload_n 0, 1) := by decide +kernel
theorem dX11_priceOf_59 : decode cX11_priceOf 59 = .ok (.getfield 34, 3) := by decide +kernel
theorem dX11_priceOf_62 : decode cX11_priceOf 62 = .ok (.iload_n 1, 1) := by decide +kernel
theorem dX11_priceOf_63 : decode cX11_priceOf 63 = .ok (.iaload, 1) := by decide +kernel
theorem dX11_priceOf_64 : decode cX11_priceOf 64 = .ok (.iconst 2, 1) := by decide +kernel
theorem dX11_priceOf_65 : decode cX11_priceOf 65 = .ok (.idiv, 1) := by decide +kernel
theorem dX11_priceOf_66 : decode cX11_priceOf 66 = .ok (.isub, 1) := by decide +kernel
theorem dX11_priceOf_67 : decode cX11_priceOf 67 = .ok (.istore_n 3, 1) := by decide +kernel
theorem dX11_priceOf_68 : decode cX11_priceOf 68 = .ok (.iload_n 3, 1) := by decide +kernel
theorem dX11_priceOf_69 : decode cX11_priceOf 69 = .ok (.ifCond .le 7, 3) := by decide +kernel
theorem dX11_priceOf_72 : decode cX11_priceOf 72 = .ok (.iload_n 3, 1) := by decide +kernel
theorem dX11_priceOf_73 : decode cX11_priceOf 73 = .ok (.goto 4, 3) := by decide +kernel
theorem dX11_priceOf_76 : decode cX11_priceOf 76 = .ok (.iconst 0, 1) := by decide +kernel
theorem dX11_priceOf_77 : decode cX11_priceOf 77 = .ok (.ireturn, 1) := by decide +kernel
def fX11_priceOf_b57 (y1 : Int32) (z0 : Int32) (z1 : Int32) (s : mS) : Option Int32 :=
  ldA s aX_age 8 y1 fun v3 =>
  bnd ((z1 - z0) - (v3 / (nI 2))) fun v4 =>
  if v4 ≤ 0 then
    some (nI 0)
  else
    some v4

def fX11_priceOf_b36 (K4 : Int32 → Int32 → Int32 → mS → Option Int32) (y1 : Int32) (y3 : Int32) (z0 : Int32) (s : mS) : Option Int32 :=
  bnd z0 fun v7 =>
  bnd (y3 + (nI 1)) fun v8 =>
  K4 y1 v7 v8 s

def fX11_priceOf_b30 (K4 : Int32 → Int32 → Int32 → mS → Option Int32) (y1 : Int32) (y3 : Int32) (y4 : Int32) (s : mS) : Option Int32 :=
  fX11_priceOf_b36 K4 y1 y3 y4 s

def fX11_priceOf_b4 : Nat → Int32 → Int32 → Int32 → mS → Option Int32
  | 0, _, _, _, _ => none
  | k + 1, y1, y2, y3, s =>
    if (gI s iX_writers) ≤ y3 then
      if 0 ≤ y2 then
        fX11_priceOf_b57 y1 ((nI 3) * y2) (nI 100) s
      else
        fX11_priceOf_b57 y1 (nI 50) (nI 100) s
    else
      bO (fX11_farOf y3 y1 s) fun r5 =>
      bnd r5 fun v6 =>
      if y2 < 0 then
        fX11_priceOf_b30 (fun u0 u1 u2 u3 => fX11_priceOf_b4 k u0 u1 u2 u3) y1 y3 v6 s
      else
        if y2 ≤ v6 then
          fX11_priceOf_b36 (fun u0 u1 u2 u3 => fX11_priceOf_b4 k u0 u1 u2 u3) y1 y3 y2 s
        else
          fX11_priceOf_b30 (fun u0 u1 u2 u3 => fX11_priceOf_b4 k u0 u1 u2 u3) y1 y3 v6 s

def fX11_priceOf (x1 : Int32) (s : mS) : Option Int32 :=
  bnd (-1) fun v1 =>
  bnd (nI 0) fun v2 =>
  fX11_priceOf_b4 mFu x1 v1 v2 s

set_option maxRecDepth 20000 in
theorem wX11_priceOf_b57 {ρ : mRo} {d : Nat} {P : mPo} {V : mS → List mE} (hV : mView LX V)  {res : Int32} {s : mS} (hP : P (some (.int res)) (V s)) (y1 : Int32) (z0 : Int32) (z1 : Int32) (hf : fX11_priceOf_b57 y1 z0 z1 s = some res) : mG ρ (mC ρ (d + 2)) 11 5 cX11_priceOf (some .int) P 57 [(0, .ref qX), (1, .int y1)] [.int z0, .int z1] (V s) := by
  unfold fX11_priceOf_b57 at hf
  refine e_isub dX11_priceOf_57 ?_
  refine e_aload_n 0 dX11_priceOf_58 rfl rfl ?_
  refine e_getr hV dX11_priceOf_59 rfl lx_X rfl ?_
  refine e_iload_n 1 dX11_priceOf_62 rfl rfl ?_
  refine e_iald hV dX11_priceOf_63 lx_X_age hf (fun v3 hf => ?_)
  refine e_iconst (w := (nI 2)) dX11_priceOf_64 (by decide) ?_
  refine e_idiv dX11_priceOf_65 (by decide) ?_
  refine e_isub dX11_priceOf_66 ?_
  refine e_istore_n dX11_priceOf_67 rfl (by decide) hf (fun v4 hf => ?_)
  refine e_iload_n 0 dX11_priceOf_68 rfl rfl ?_
  refine e_if_le 76 dX11_priceOf_69 (by decide) hf (fun hf => ?_) (fun hf => ?_)
  · refine e_iconst (w := (nI 0)) dX11_priceOf_76 (by decide) ?_
    obtain rfl := Option.some.inj hf
    exact e_iret dX11_priceOf_77 trivial hP
  · refine e_iload_n 0 dX11_priceOf_72 rfl rfl ?_
    refine e_goto 77 dX11_priceOf_73 (by decide) ?_
    obtain rfl := Option.some.inj hf
    exact e_iret dX11_priceOf_77 trivial hP
set_option maxRecDepth 20000 in
theorem wX11_priceOf_b36 {ρ : mRo} {d : Nat} {P : mPo} {V : mS → List mE} (hV : mView LX V)  {res : Int32} {s : mS} {K4 : Int32 → Int32 → Int32 → mS → Option Int32} (hK4 : ∀ (y1 : Int32) (y2 : Int32) (y3 : Int32), K4 y1 y2 y3 s = some res → mG ρ (mC ρ (d + 2)) 11 5 cX11_priceOf (some .int) P 4 [(0, .ref qX), (1, .int y1), (2, .int y2), (3, .int y3)] [] (V s)) (hP : P (some (.int res)) (V s)) (y1 : Int32) (y3 : Int32) (z0 : Int32) (hf : fX11_priceOf_b36 K4 y1 y3 z0 s = some res) : mG ρ (mC ρ (d + 2)) 11 5 cX11_priceOf (some .int) P 36 [(0, .ref qX), (1, .int y1), (3, .int y3)] [.int z0] (V s) := by
  unfold fX11_priceOf_b36 at hf
  refine e_istore_n dX11_priceOf_36 rfl (by decide) hf (fun v7 hf => ?_)
  refine e_iinc 3 dX11_priceOf_37 (by decide) rfl hf (fun v8 hf => ?_)
  refine e_goto 4 dX11_priceOf_40 (by decide) ?_
  refine e_pick [2, 3, 1, 0] rfl ?_
  exact hK4 y1 v7 v8 hf
set_option maxRecDepth 20000 in
theorem wX11_priceOf_b30 {ρ : mRo} {d : Nat} {P : mPo} {V : mS → List mE} (hV : mView LX V)  {res : Int32} {s : mS} {K4 : Int32 → Int32 → Int32 → mS → Option Int32} (hK4 : ∀ (y1 : Int32) (y2 : Int32) (y3 : Int32), K4 y1 y2 y3 s = some res → mG ρ (mC ρ (d + 2)) 11 5 cX11_priceOf (some .int) P 4 [(0, .ref qX), (1, .int y1), (2, .int y2), (3, .int y3)] [] (V s)) (hP : P (some (.int res)) (V s)) (y1 : Int32) (y3 : Int32) (y4 : Int32) (hf : fX11_priceOf_b30 K4 y1 y3 y4 s = some res) : mG ρ (mC ρ (d + 2)) 11 5 cX11_priceOf (some .int) P 30 [(0, .ref qX), (1, .int y1), (3, .int y3), (4, .int y4)] [] (V s) := by
  unfold fX11_priceOf_b30 at hf
  refine e_iload 3 dX11_priceOf_30 rfl ?_
  refine e_goto 36 dX11_priceOf_32 (by decide) ?_
  refine e_pick [0, 1, 2] rfl ?_
  exact wX11_priceOf_b36 hV hK4 hP y1 y3 y4 hf
set_option maxRecDepth 20000 in
theorem wX11_priceOf_b4 {ρ : mRo} {d : Nat} {P : mPo} {V : mS → List mE} (hV : mView LX V)  {res : Int32} {s : mS} (hP : P (some (.int res)) (V s)) : ∀ (k : Nat) (y1 : Int32) (y2 : Int32) (y3 : Int32), fX11_priceOf_b4 k y1 y2 y3 s = some res → mG ρ (mC ρ (d + 2)) 11 5 cX11_priceOf (some .int) P 4 [(0, .ref qX), (1, .int y1), (2, .int y2), (3, .int y3)] [] (V s) := by
  intro k
  induction k with
  | zero => intro y1 y2 y3 hf; rw [fX11_priceOf_b4] at hf; cases hf
  | succ k ih =>
    intro y1 y2 y3 hf
    rw [fX11_priceOf_b4] at hf
    refine e_iload_n 3 dX11_priceOf_4 rfl rfl ?_
    refine e_aload_n 0 dX11_priceOf_5 rfl rfl ?_
    refine e_geti hV dX11_priceOf_6 rfl lx_X rfl ?_
    refine e_icmp_ge 43 dX11_priceOf_9 (by decide) hf (fun hf => ?_) (fun hf => ?_)
    · refine e_bipush (w := (nI 100)) dX11_priceOf_43 (by decide) ?_
      refine e_iload_n 2 dX11_priceOf_45 rfl rfl ?_
      refine e_if_ge 54 dX11_priceOf_46 (by decide) hf (fun hf => ?_) (fun hf => ?_)
      · refine e_iconst (w := (nI 3)) dX11_priceOf_54 (by decide) ?_
        refine e_iload_n 2 dX11_priceOf_55 rfl rfl ?_
        refine e_imul dX11_priceOf_56 ?_
        refine e_pick [0, 1] rfl ?_
        exact wX11_priceOf_b57 hV hP y1 ((nI 3) * y2) (nI 100) hf
      · refine e_bipush (w := (nI 50)) dX11_priceOf_49 (by decide) ?_
        refine e_goto 57 dX11_priceOf_51 (by decide) ?_
        refine e_pick [0, 1] rfl ?_
        exact wX11_priceOf_b57 hV hP y1 (nI 50) (nI 100) hf
    · refine e_aload_n 0 dX11_priceOf_12 rfl rfl ?_
      refine e_iload_n 3 dX11_priceOf_13 rfl rfl ?_
      refine e_iload_n 1 dX11_priceOf_14 rfl rfl ?_
      obtain ⟨r5, hg, hf⟩ := bO_some hf
      refine e_callV (as := [.int y3, .int y1]) (v := (some (.int r5))) (s' := s) hV dX11_priceOf_15 (Or.inl rfl) rfl rfl rfl rfl (Nat.le_of_ble_eq_true rfl) lx_X rfl rfl (fun Q hQ => tX11_farOf (d := d) hV  hg hQ) ?_
      refine e_istore dX11_priceOf_18 (by decide) hf (fun v6 hf => ?_)
      refine e_iload_n 3 dX11_priceOf_20 rfl rfl ?_
      refine e_if_lt 30 dX11_priceOf_21 (by decide) hf (fun hf => ?_) (fun hf => ?_)
      · refine e_pick [1, 2, 4, 0] rfl ?_
        exact wX11_priceOf_b30 hV ih hP y1 y3 v6 hf
      · refine e_iload 0 dX11_priceOf_24 rfl ?_
        refine e_iload_n 3 dX11_priceOf_26 rfl rfl ?_
        refine e_icmp_ge 35 dX11_priceOf_27 (by decide) hf (fun hf => ?_) (fun hf => ?_)
        · refine e_iload_n 3 dX11_priceOf_35 rfl rfl ?_
          refine e_pick [1, 2, 4] rfl ?_
          exact wX11_priceOf_b36 hV ih hP y1 y3 y2 hf
        · refine e_pick [1, 2, 4, 0] rfl ?_
          exact wX11_priceOf_b30 hV ih hP y1 y3 v6 hf
set_option maxRecDepth 20000 in
theorem tX11_priceOf {ρ : mRo} {d : Nat} {P : mPo} {V : mS → List mE} (hV : mView LX V)  {x1 : Int32} {s : mS} {res : Int32} (hf : fX11_priceOf x1 s = some res) (hP : P (some (.int res)) (V s)) : mC ρ (d + 3) 201 [.ref qX, .int x1] (V s) P := by
  refine ⟨_, rfl, Nat.le_of_ble_eq_true rfl, by decide, ?_⟩
  show mG ρ (mC ρ (d + 2)) 11 5 cX11_priceOf (some .int) P 0 [(0, .ref qX), (1, .int x1)] [] (V s)
  unfold fX11_priceOf at hf
  refine e_iconst (w := (-1)) dX11_priceOf_0 (by decide) ?_
  refine e_istore_n dX11_priceOf_1 rfl (by decide) hf (fun v1 hf => ?_)
  refine e_iconst (w := (nI 0)) dX11_priceOf_2 (by decide) ?_
  refine e_istore_n dX11_priceOf_3 rfl (by decide) hf (fun v2 hf => ?_)
  refine e_pick [2, 3, 1, 0] rfl ?_
  exact wX11_priceOf_b4 hV hP mFu x1 v1 v2 hf

theorem dX11_price_0 : decode cX11_price 0 = .ok (.aload_n 0, 1) := by decide +kernel
theorem dX11_price_1 : decode cX11_price 1 = .ok (.iload_n 1, 1) := by decide +kernel
theorem dX11_price_2 : decode cX11_price 2 = .ok (.i2l, 1) := by decide +kernel
theorem dX11_price_3 : decode cX11_price 3 = .ok (.invokevirtual 104, 3) := by decide +kernel
theorem dX11_price_6 : decode cX11_price 6 = .ok (.ifCond .ne 5, 3) := by decide +kernel
theorem dX11_price_9 : decode cX11_price 9 = .ok (.iconst (-1), 1) := by decide +kernel
theorem dX11_price_10 : decode cX11_price 10 = .ok (.ireturn, 1) := by decide +kernel
theorem dX11_price_11 : decode cX11_price 11 = .ok (.aload_n 0, 1) := by decide +kernel
theorem dX11_price_12 : decode cX11_price 12 = .ok (.invokevirtual 217, 3) := by decide +kernel
theorem dX11_price_15 : decode cX11_price 15 = .ok (.aload_n 0, 1) := by decide +kernel
theorem dX11_price_16 : decode cX11_price 16 = .ok (.iload_n 1, 1) := by decide +kernel
theorem dX11_price_17 : decode cX11_price 17 = .ok (.invokevirtual 260, 3) := by decide +kernel
theorem dX11_price_20 : decode cX11_price 20 = .ok (.ireturn, 1) := by decide +kernel
def fX11_price (x1 : Int32) (s : mS) : Option (Int32 × mS) :=
  bO (fX11_isMachine (Int32.toInt64 x1) s) fun r1 =>
  if r1 = 0 then
    some ((-1), s)
  else
    bO (fX11_begins s) fun s2 =>
    bO (fX11_priceOf x1 s2) fun r3 =>
    some (r3, s2)

set_option maxRecDepth 20000 in
theorem tX11_price {ρ : mRo} {d : Nat} {P : mPo} {V : mS → List mE} (hV : mView LX V)  {x1 : Int32} {s : mS} {res : (Int32 × mS)} (hf : fX11_price x1 s = some res) (hP : P (some (.int res.1)) (V res.2)) : mC ρ (d + 4) 202 [.ref qX, .int x1] (V s) P := by
  refine ⟨_, rfl, Nat.le_of_ble_eq_true rfl, by decide, ?_⟩
  show mG ρ (mC ρ (d + 3)) 11 2 cX11_price (some .int) P 0 [(0, .ref qX), (1, .int x1)] [] (V s)
  unfold fX11_price at hf
  refine e_aload_n 0 dX11_price_0 rfl rfl ?_
  refine e_iload_n 1 dX11_price_1 rfl rfl ?_
  refine e_i2l dX11_price_2 ?_
  obtain ⟨r1, hg, hf⟩ := bO_some hf
  refine e_callV (as := [.long (Int32.toInt64 x1)]) (v := (some (.int r1))) (s' := s) hV dX11_price_3 (Or.inl rfl) rfl rfl rfl rfl (Nat.le_of_ble_eq_true rfl) lx_X rfl rfl (fun Q hQ => tX11_isMachine (d := (d + 1)) hV  hg hQ) ?_
  refine e_if_ne 11 dX11_price_6 (by decide) hf (fun hf => ?_) (fun hf => ?_)
  · refine e_aload_n 0 dX11_price_11 rfl rfl ?_
    obtain ⟨s2, hg, hf⟩ := bO_some hf
    refine e_callV (as := []) (v := none) (s' := s2) hV dX11_price_12 (Or.inl rfl) rfl rfl rfl rfl (Nat.le_of_ble_eq_true rfl) lx_X rfl rfl (fun Q hQ => tX11_begins (d := (d + 2)) hV  hg hQ) ?_
    refine e_aload_n 0 dX11_price_15 rfl rfl ?_
    refine e_iload_n 1 dX11_price_16 rfl rfl ?_
    obtain ⟨r3, hg, hf⟩ := bO_some hf
    refine e_callV (as := [.int x1]) (v := (some (.int r3))) (s' := s2) hV dX11_price_17 (Or.inl rfl) rfl rfl rfl rfl (Nat.le_of_ble_eq_true rfl) lx_X rfl rfl (fun Q hQ => tX11_priceOf (d := d) hV  hg hQ) ?_
    obtain rfl := Option.some.inj hf
    exact e_iret dX11_price_20 trivial hP
  · refine e_iconst (w := (-1)) dX11_price_9 (by decide) ?_
    obtain rfl := Option.some.inj hf
    exact e_iret dX11_price_10 trivial hP

theorem dX11_buy_0 : decode cX11_buy 0 = .ok (.iload_n 1, 1) := by decide +kernel
theorem dX11_buy_1 : decode cX11_buy 1 = .ok (.i2l, 1) := by decide +kernel
theorem dX11_buy_2 : decode cX11_buy 2 = .ok (.lconst 0, 1) := by decide +kernel
theorem dX11_buy_3 : decode cX11_buy 3 = .ok (.ldc2_w 263, 3) := by decide +kernel
theorem dX11_buy_6 : decode cX11_buy 6 = .ok (.invokestatic 93, 3) := by decide +kernel
theorem dX11_buy_9 : decode cX11_buy 9 = .ok (.ifCond .eq 13, 3) := by decide +kernel
theorem dX11_buy_12 : decode cX11_buy 12 = .ok (.iload_n 2, 1) := by decide +kernel
theorem dX11_buy_13 : decode cX11_buy 13 = .ok (.i2l, 1) := by decide +kernel
theorem dX11_buy_14 : decode cX11_buy 14 = .ok (.lconst 0, 1) := by decide +kernel
theorem dX11_buy_15 : decode cX11_buy 15 = .ok (.lconst 1, 1) := by decide +kernel
theorem dX11_buy_16 : decode cX11_buy 16 = .ok (.invokestatic 93, 3) := by decide +kernel
theorem dX11_buy_19 : decode cX11_buy 19 = .ok (.ifCond .ne 5, 3) := by decide +kernel
theorem dX11_buy_22 : decode cX11_buy 22 = .ok (.iconst (-1), 1) := by decide +kernel
theorem dX11_buy_23 : decode cX11_buy 23 = .ok (.ireturn, 1) := by decide +kernel
theorem dX11_buy_24 : decode cX11_buy 24 = .ok (.aload_n 0, 1) := by decide +kernel
theorem dX11_buy_25 : decode cX11_buy 25 = .ok (.invokevirtual 217, 3) := by decide +kernel
theorem dX11_buy_28 : decode cX11_buy 28 = .ok (.iconst 0, 1) := by decide +kernel
theorem dX11_buy_29 : decode cX11_buy 29 = .ok (.istore_n 3, 1) := by decide +kernel
theorem dX11_buy_30 : decode cX11_buy 30 = .ok (.iconst 0, 1) := by decide +kernel
theorem dX11_buy_31 : decode cX11_buy 31 = .ok (.istore 4, 2) := by decide +kernel
theorem dX11_buy_33 : decode cX11_buy 33 = .ok (.iconst 1, 1) := by decide +kernel
theorem dX11_buy_34 : decode cX11_buy 34 = .ok (.istore 5, 2) := by decide +kernel
theorem dX11_buy_36 : decode cX11_buy 36 = .ok (.iload 5, 2) := by decide +kernel
theorem dX11_buy_38 : decode cX11_buy 38 = .ok (.iconst 1, 1) := by decide +kernel
theorem dX11_buy_39 : decode cX11_buy 39 = .ok (.aload_n 0, 1) := by decide +kernel
theorem dX11_buy_40 : decode cX11_buy 40 = .ok (.getfield 90, 3) := by decide +kernel
theorem dX11_buy_43 : decode cX11_buy 43 = .ok (.ishl, 1) := by decide +kernel
theorem dX11_buy_44 : decode cX11_buy 44 = .ok (.if_icmp .ge 100, 3) := by decide +kernel
theorem dX11_buy_47 : decode cX11_buy 47 = .ok (.iconst 0, 1) := by decide +kernel
theorem dX11_buy_48 : decode cX11_buy 48 = .ok (.istore 6, 2) := by decide +kernel
theorem dX11_buy_50 : decode cX11_buy 50 = .ok (.iconst 0, 1) := by decide +kernel
theorem dX11_buy_51 : decode cX11_buy 51 = .ok (.istore 7, 2) := by decide +kernel
theorem dX11_buy_53 : decode cX11_buy 53 = .ok (.iload 7, 2) := by decide +kernel
theorem dX11_buy_55 : decode cX11_buy 55 = .ok (.aload_n 0, 1) := by decide +kernel
theorem dX11_buy_56 : decode cX11_buy 56 = .ok (.getfield 90, 3) := by decide +kernel
theorem dX11_buy_59 : decode cX11_buy 59 = .ok (.if_icmp .ge 35, 3) := by decide +kernel
theorem dX11_buy_62 : decode cX11_buy 62 = .ok (.iload 6, 2) := by decide +kernel
theorem dX11_buy_64 : decode cX11_buy 64 = .ok (.iload 5, 2) := by decide +kernel
theorem dX11_buy_66 : decode cX11_buy 66 = .ok (.iload 7, 2) := by decide +kernel
theorem dX11_buy_68 : decode cX11_buy 68 = .ok (.ishr, 1) := by decide +kernel
theorem dX11_buy_69 : decode cX11_buy 69 = .ok (.iconst 1, 1) := by decide +kernel
theorem dX11_buy_70 : decode cX11_buy 70 = .ok (.iand, 1) := by decide +kernel
theorem dX11_buy_71 : decode cX11_buy 71 = .ok (.iconst 1, 1) := by decide +kernel
theorem dX11_buy_72 : decode cX11_buy 72 = .ok (.if_icmp .ne 12, 3) := by decide +kernel
theorem dX11_buy_75 : decode cX11_buy 75 = .ok (.aload_n 0, 1) := by decide +kernel
theorem dX11_buy_76 : decode cX11_buy 76 = .ok (.iload 7, 2) := by decide +kernel
theorem dX11_buy_78 : decode cX11_buy 78 = .ok (.invokevirtual 260, 3) := by decide +kernel
theorem dX11_buy_81 : decode cX11_buy 81 = .ok (.goto 4, 3) := by decide +kernel
theorem dX11_buy_84 : decode cX11_buy 84 = .ok (.iconst 0, 1) := by decide +kernel
theorem dX11_buy_85 : decode cX11_buy 85 = .ok (.iadd, 1) := by decide +kernel
theorem dX11_buy_86 : decode cX11_buy 86 = .ok (.istore 6, 2) := by decide +kernel
theorem dX11_buy_88 : decode cX11_buy 88 = .ok (.iinc 7 1, 3) := by decide +kernel
theorem dX11_buy_91 : decode cX11_buy 91 = .ok (.goto (-38), 3) := by decide +kernel
theorem dX11_buy_94 : decode cX11_buy 94 = .ok (.iload 6, 2) := by decide +kernel
theorem dX11_buy_96 : decode cX11_buy 96 = .ok (.iload_n 1, 1) := by decide +kernel
theorem dX11_buy_97 : decode cX11_buy 97 = .ok (.if_icmp .gt 41, 3) := by decide +kernel
theorem dX11_buy_100 : decode cX11_buy 100 = .ok (.iload 5, 2) := by decide +kernel
theorem dX11_buy_102 : decode cX11_buy 102 = .ok (.invokestatic 265, 3) := by decide +kernel
theorem dX11_buy_105 : decode cX11_buy 105 = .ok (.iload_n 3, 1) := by decide +kernel
theorem dX11_buy_106 : decode cX11_buy 106 = .ok (.invokestatic 265, 3) := by decide +kernel
theorem dX11_buy_109 : decode cX11_buy 109 = .ok (.if_icmp .gt 22, 3) := by decide +kernel
theorem dX11_buy_112 : decode cX11_buy 112 = .ok (.iload 5, 2) := by decide +kernel
theorem dX11_buy_114 : decode cX11_buy 114 = .ok (.invokestatic 265, 3) := by decide +kernel
theorem dX11_buy_117 : decode cX11_buy 117 = .ok (.iload_n 3, 1) := by decide +kernel
theorem dX11_buy_118 : decode cX11_buy 118 = .ok (.invokestatic 265, 3) := by decide +kernel
theorem dX11_buy_121 : decode cX11_buy 121 = .ok (.if_icmp .ne 17, 3) := by decide +kernel
theorem dX11_buy_124 : decode cX11_buy 124 = .ok (.iload 6, 2) := by decide +kernel
theorem dX11_buy_126 : decode cX11_buy 126 = .ok (.iload 4, 2) := by decide +kernel
theorem dX11_buy_128 : decode cX11_buy 128 = .ok (.if_icmp .ge 10, 3) := by decide +kernel
theorem dX11_buy_131 : decode cX11_buy 131 = .ok (.iload 5, 2) := by decide +kernel
theorem dX11_buy_133 : decode cX11_buy 133 = .ok (.istore_n 3, 1) := by decide +kernel
theorem dX11_buy_134 : decode cX11_buy 134 = .ok (.iload 6, 2) := by decide +kernel
theorem dX11_buy_136 : decode cX11_buy 136 = .ok (.istore 4, 2) := by decide +kernel
theorem dX11_buy_138 : decode cX11_buy 138 = .ok (.iinc 5 1, 3) := by decide +kernel
theorem dX11_buy_141 : decode cX11_buy 141 = .ok (.goto (-105), 3) := by decide +kernel
theorem dX11_buy_144 : decode cX11_buy 144 = .ok (.iload_n 2, 1) := by decide +kernel
theorem dX11_buy_145 : decode cX11_buy 145 = .ok (.ifCond .ne 10, 3) := by decide +kernel
theorem dX11_buy_148 : decode cX11_buy 148 = .ok (.iload_n 3, 1) := by decide +kernel
theorem dX11_buy_149 : decode cX11_buy 149 = .ok (.invokestatic 265, 3) := by decide +kernel
theorem dX11_buy_152 : decode cX11_buy 152 = .ok (.goto 4, 3) := by decide +kernel
theorem dX11_buy_155 : decode cX11_buy 155 = .ok (.iload_n 3, 1) := by decide +kernel
theorem dX11_buy_156 : decode cX11_buy 156 = .ok (.ireturn, 1) := by decide +kernel
def fX11_buy_b138 (K36 : Int32 → Int32 → Int32 → Int32 → Int32 → mS → Option (Int32 × mS)) (y1 : Int32) (y2 : Int32) (y3 : Int32) (y4 : Int32) (y5 : Int32) (s : mS) : Option (Int32 × mS) :=
  bnd (y5 + (nI 1)) fun v10 =>
  K36 y1 y2 y3 y4 v10 s

def fX11_buy_b131 (K36 : Int32 → Int32 → Int32 → Int32 → Int32 → mS → Option (Int32 × mS)) (y1 : Int32) (y2 : Int32) (y5 : Int32) (y6 : Int32) (s : mS) : Option (Int32 × mS) :=
  bnd y5 fun v13 =>
  bnd y6 fun v14 =>
  fX11_buy_b138 K36 y1 y2 v13 v14 y5 s

def fX11_buy_b85 (K36 : Int32 → Int32 → Int32 → Int32 → Int32 → mS → Option (Int32 × mS)) (K53 : Int32 → Int32 → Int32 → Int32 → Int32 → Int32 → Int32 → mS → Option (Int32 × mS)) (y1 : Int32) (y2 : Int32) (y3 : Int32) (y4 : Int32) (y5 : Int32) (y7 : Int32) (z0 : Int32) (z1 : Int32) (s : mS) : Option (Int32 × mS) :=
  bnd (z1 + z0) fun v17 =>
  bnd (y7 + (nI 1)) fun v18 =>
  K53 y1 y2 y3 y4 y5 v17 v18 s

def fX11_buy_b53 (K36 : Int32 → Int32 → Int32 → Int32 → Int32 → mS → Option (Int32 × mS)) : Nat → Int32 → Int32 → Int32 → Int32 → Int32 → Int32 → Int32 → mS → Option (Int32 × mS)
  | 0, _, _, _, _, _, _, _, _ => none
  | k + 1, y1, y2, y3, y4, y5, y6, y7, s =>
    if (gI s iX_machines) ≤ y7 then
      if y1 < y6 then
        fX11_buy_b138 K36 y1 y2 y3 y4 y5 s
      else
        bO (fX11_bitsOf y5 s) fun r11 =>
        bO (fX11_bitsOf y3 s) fun r12 =>
        if r12 < r11 then
          fX11_buy_b131 K36 y1 y2 y5 y6 s
        else
          bO (fX11_bitsOf y5 s) fun r15 =>
          bO (fX11_bitsOf y3 s) fun r16 =>
          if r15 = r16 then
            if y4 ≤ y6 then
              fX11_buy_b138 K36 y1 y2 y3 y4 y5 s
            else
              fX11_buy_b131 K36 y1 y2 y5 y6 s
          else
            fX11_buy_b138 K36 y1 y2 y3 y4 y5 s
    else
      if ((y5 >>> (y7 &&& 31)) &&& (nI 1)) = (nI 1) then
        bO (fX11_priceOf y7 s) fun r19 =>
        fX11_buy_b85 K36 (fun u0 u1 u2 u3 u4 u5 u6 u7 => fX11_buy_b53 K36 k u0 u1 u2 u3 u4 u5 u6 u7) y1 y2 y3 y4 y5 y7 r19 y6 s
      else
        fX11_buy_b85 K36 (fun u0 u1 u2 u3 u4 u5 u6 u7 => fX11_buy_b53 K36 k u0 u1 u2 u3 u4 u5 u6 u7) y1 y2 y3 y4 y5 y7 (nI 0) y6 s

def fX11_buy_b36 : Nat → Int32 → Int32 → Int32 → Int32 → Int32 → mS → Option (Int32 × mS)
  | 0, _, _, _, _, _, _ => none
  | k + 1, y1, y2, y3, y4, y5, s =>
    if ((nI 1) <<< ((gI s iX_machines) &&& 31)) ≤ y5 then
      if y2 = 0 then
        bO (fX11_bitsOf y3 s) fun r7 =>
        some (r7, s)
      else
        some (y3, s)
    else
      bnd (nI 0) fun v8 =>
      bnd (nI 0) fun v9 =>
      fX11_buy_b53 (fun u0 u1 u2 u3 u4 u5 => fX11_buy_b36 k u0 u1 u2 u3 u4 u5) mFu y1 y2 y3 y4 y5 v8 v9 s

def fX11_buy (x1 : Int32) (x2 : Int32) (s : mS) : Option (Int32 × mS) :=
  bO (fX11_within (Int32.toInt64 x1) 0 999 s) fun r1 =>
  if r1 = 0 then
    some ((-1), s)
  else
    bO (fX11_within (Int32.toInt64 x2) 0 1 s) fun r2 =>
    if r2 = 0 then
      some ((-1), s)
    else
      bO (fX11_begins s) fun s3 =>
      bnd (nI 0) fun v4 =>
      bnd (nI 0) fun v5 =>
      bnd (nI 1) fun v6 =>
      fX11_buy_b36 mFu x1 x2 v4 v5 v6 s3

set_option maxRecDepth 20000 in
theorem wX11_buy_b138 {ρ : mRo} {d : Nat} {P : mPo} {V : mS → List mE} (hV : mView LX V)  {res : (Int32 × mS)} {K36 : Int32 → Int32 → Int32 → Int32 → Int32 → mS → Option (Int32 × mS)} (hK36 : ∀ (y1 : Int32) (y2 : Int32) (y3 : Int32) (y4 : Int32) (y5 : Int32) (s : mS), K36 y1 y2 y3 y4 y5 s = some res → mG ρ (mC ρ (d + 3)) 11 8 cX11_buy (some .int) P 36 [(0, .ref qX), (1, .int y1), (2, .int y2), (3, .int y3), (4, .int y4), (5, .int y5)] [] (V s)) (hP : P (some (.int res.1)) (V res.2)) (y1 : Int32) (y2 : Int32) (y3 : Int32) (y4 : Int32) (y5 : Int32) (s : mS) (hf : fX11_buy_b138 K36 y1 y2 y3 y4 y5 s = some res) : mG ρ (mC ρ (d + 3)) 11 8 cX11_buy (some .int) P 138 [(0, .ref qX), (1, .int y1), (2, .int y2), (3, .int y3), (4, .int y4), (5, .int y5)] [] (V s) := by
  unfold fX11_buy_b138 at hf
  refine e_iinc 5 dX11_buy_138 (by decide) rfl hf (fun v10 hf => ?_)
  refine e_goto 36 dX11_buy_141 (by decide) ?_
  refine e_pick [1, 2, 3, 4, 5, 0] rfl ?_
  exact hK36 y1 y2 y3 y4 v10 s hf
set_option maxRecDepth 20000 in
theorem wX11_buy_b131 {ρ : mRo} {d : Nat} {P : mPo} {V : mS → List mE} (hV : mView LX V)  {res : (Int32 × mS)} {K36 : Int32 → Int32 → Int32 → Int32 → Int32 → mS → Option (Int32 × mS)} (hK36 : ∀ (y1 : Int32) (y2 : Int32) (y3 : Int32) (y4 : Int32) (y5 : Int32) (s : mS), K36 y1 y2 y3 y4 y5 s = some res → mG ρ (mC ρ (d + 3)) 11 8 cX11_buy (some .int) P 36 [(0, .ref qX), (1, .int y1), (2, .int y2), (3, .int y3), (4, .int y4), (5, .int y5)] [] (V s)) (hP : P (some (.int res.1)) (V res.2)) (y1 : Int32) (y2 : Int32) (y5 : Int32) (y6 : Int32) (s : mS) (hf : fX11_buy_b131 K36 y1 y2 y5 y6 s = some res) : mG ρ (mC ρ (d + 3)) 11 8 cX11_buy (some .int) P 131 [(0, .ref qX), (1, .int y1), (2, .int y2), (5, .int y5), (6, .int y6)] [] (V s) := by
  unfold fX11_buy_b131 at hf
  refine e_iload 3 dX11_buy_131 rfl ?_
  refine e_istore_n dX11_buy_133 rfl (by decide) hf (fun v13 hf => ?_)
  refine e_iload 5 dX11_buy_134 rfl ?_
  refine e_istore dX11_buy_136 (by decide) hf (fun v14 hf => ?_)
  refine e_pick [2, 3, 4, 1, 0, 5] rfl ?_
  exact wX11_buy_b138 hV hK36 hP y1 y2 v13 v14 y5 s hf
set_option maxRecDepth 20000 in
theorem wX11_buy_b85 {ρ : mRo} {d : Nat} {P : mPo} {V : mS → List mE} (hV : mView LX V)  {res : (Int32 × mS)} {K36 : Int32 → Int32 → Int32 → Int32 → Int32 → mS → Option (Int32 × mS)} (hK36 : ∀ (y1 : Int32) (y2 : Int32) (y3 : Int32) (y4 : Int32) (y5 : Int32) (s : mS), K36 y1 y2 y3 y4 y5 s = some res → mG ρ (mC ρ (d + 3)) 11 8 cX11_buy (some .int) P 36 [(0, .ref qX), (1, .int y1), (2, .int y2), (3, .int y3), (4, .int y4), (5, .int y5)] [] (V s)) {K53 : Int32 → Int32 → Int32 → Int32 → Int32 → Int32 → Int32 → mS → Option (Int32 × mS)} (hK53 : ∀ (y1 : Int32) (y2 : Int32) (y3 : Int32) (y4 : Int32) (y5 : Int32) (y6 : Int32) (y7 : Int32) (s : mS), K53 y1 y2 y3 y4 y5 y6 y7 s = some res → mG ρ (mC ρ (d + 3)) 11 8 cX11_buy (some .int) P 53 [(0, .ref qX), (1, .int y1), (2, .int y2), (3, .int y3), (4, .int y4), (5, .int y5), (6, .int y6), (7, .int y7)] [] (V s)) (hP : P (some (.int res.1)) (V res.2)) (y1 : Int32) (y2 : Int32) (y3 : Int32) (y4 : Int32) (y5 : Int32) (y7 : Int32) (z0 : Int32) (z1 : Int32) (s : mS) (hf : fX11_buy_b85 K36 K53 y1 y2 y3 y4 y5 y7 z0 z1 s = some res) : mG ρ (mC ρ (d + 3)) 11 8 cX11_buy (some .int) P 85 [(0, .ref qX), (1, .int y1), (2, .int y2), (3, .int y3), (4, .int y4), (5, .int y5), (7, .int y7)] [.int z0, .int z1] (V s) := by
  unfold fX11_buy_b85 at hf
  refine e_iadd dX11_buy_85 ?_
  refine e_istore dX11_buy_86 (by decide) hf (fun v17 hf => ?_)
  refine e_iinc 7 dX11_buy_88 (by decide) rfl hf (fun v18 hf => ?_)
  refine e_goto 53 dX11_buy_91 (by decide) ?_
  refine e_pick [2, 3, 4, 5, 6, 7, 1, 0] rfl ?_
  exact hK53 y1 y2 y3 y4 y5 v17 v18 s hf
set_option maxRecDepth 20000 in
theorem wX11_buy_b53 {ρ : mRo} {d : Nat} {P : mPo} {V : mS → List mE} (hV : mView LX V)  {res : (Int32 × mS)} {K36 : Int32 → Int32 → Int32 → Int32 → Int32 → mS → Option (Int32 × mS)} (hK36 : ∀ (y1 : Int32) (y2 : Int32) (y3 : Int32) (y4 : Int32) (y5 : Int32) (s : mS), K36 y1 y2 y3 y4 y5 s = some res → mG ρ (mC ρ (d + 3)) 11 8 cX11_buy (some .int) P 36 [(0, .ref qX), (1, .int y1), (2, .int y2), (3, .int y3), (4, .int y4), (5, .int y5)] [] (V s)) (hP : P (some (.int res.1)) (V res.2)) : ∀ (k : Nat) (y1 : Int32) (y2 : Int32) (y3 : Int32) (y4 : Int32) (y5 : Int32) (y6 : Int32) (y7 : Int32) (s : mS), fX11_buy_b53 K36 k y1 y2 y3 y4 y5 y6 y7 s = some res → mG ρ (mC ρ (d + 3)) 11 8 cX11_buy (some .int) P 53 [(0, .ref qX), (1, .int y1), (2, .int y2), (3, .int y3), (4, .int y4), (5, .int y5), (6, .int y6), (7, .int y7)] [] (V s) := by
  intro k
  induction k with
  | zero => intro y1 y2 y3 y4 y5 y6 y7 s hf; rw [fX11_buy_b53] at hf; cases hf
  | succ k ih =>
    intro y1 y2 y3 y4 y5 y6 y7 s hf
    rw [fX11_buy_b53] at hf
    refine e_iload 7 dX11_buy_53 rfl ?_
    refine e_aload_n 0 dX11_buy_55 rfl rfl ?_
    refine e_geti hV dX11_buy_56 rfl lx_X rfl ?_
    refine e_icmp_ge 94 dX11_buy_59 (by decide) hf (fun hf => ?_) (fun hf => ?_)
    · refine e_iload 6 dX11_buy_94 rfl ?_
      refine e_iload_n 1 dX11_buy_96 rfl rfl ?_
      refine e_icmp_gt 138 dX11_buy_97 (by decide) hf (fun hf => ?_) (fun hf => ?_)
      · refine e_pick [0, 1, 2, 3, 4, 5] rfl ?_
        exact wX11_buy_b138 hV hK36 hP y1 y2 y3 y4 y5 s hf
      · refine e_iload 5 dX11_buy_100 rfl ?_
        obtain ⟨r11, hg, hf⟩ := bO_some hf
        refine e_callS (as := [.int y5]) (v := (some (.int r11))) (s' := s) dX11_buy_102 rfl rfl rfl rfl rfl (Nat.le_of_ble_eq_true rfl) (fun Q hQ => tX11_bitsOf (d := (d + 2)) hV  hg hQ) ?_
        refine e_iload_n 3 dX11_buy_105 rfl rfl ?_
        obtain ⟨r12, hg, hf⟩ := bO_some hf
        refine e_callS (as := [.int y3]) (v := (some (.int r12))) (s' := s) dX11_buy_106 rfl rfl rfl rfl rfl (Nat.le_of_ble_eq_true rfl) (fun Q hQ => tX11_bitsOf (d := (d + 2)) hV  hg hQ) ?_
        refine e_icmp_gt 131 dX11_buy_109 (by decide) hf (fun hf => ?_) (fun hf => ?_)
        · refine e_pick [0, 1, 2, 5, 6] rfl ?_
          exact wX11_buy_b131 hV hK36 hP y1 y2 y5 y6 s hf
        · refine e_iload 5 dX11_buy_112 rfl ?_
          obtain ⟨r15, hg, hf⟩ := bO_some hf
          refine e_callS (as := [.int y5]) (v := (some (.int r15))) (s' := s) dX11_buy_114 rfl rfl rfl rfl rfl (Nat.le_of_ble_eq_true rfl) (fun Q hQ => tX11_bitsOf (d := (d + 2)) hV  hg hQ) ?_
          refine e_iload_n 3 dX11_buy_117 rfl rfl ?_
          obtain ⟨r16, hg, hf⟩ := bO_some hf
          refine e_callS (as := [.int y3]) (v := (some (.int r16))) (s' := s) dX11_buy_118 rfl rfl rfl rfl rfl (Nat.le_of_ble_eq_true rfl) (fun Q hQ => tX11_bitsOf (d := (d + 2)) hV  hg hQ) ?_
          refine e_icmp_ne 138 dX11_buy_121 (by decide) hf (fun hf => ?_) (fun hf => ?_)
          · refine e_pick [0, 1, 2, 3, 4, 5] rfl ?_
            exact wX11_buy_b138 hV hK36 hP y1 y2 y3 y4 y5 s hf
          · refine e_iload 6 dX11_buy_124 rfl ?_
            refine e_iload 4 dX11_buy_126 rfl ?_
            refine e_icmp_ge 138 dX11_buy_128 (by decide) hf (fun hf => ?_) (fun hf => ?_)
            · refine e_pick [0, 1, 2, 3, 4, 5] rfl ?_
              exact wX11_buy_b138 hV hK36 hP y1 y2 y3 y4 y5 s hf
            · refine e_pick [0, 1, 2, 5, 6] rfl ?_
              exact wX11_buy_b131 hV hK36 hP y1 y2 y5 y6 s hf
    · refine e_iload 6 dX11_buy_62 rfl ?_
      refine e_iload 5 dX11_buy_64 rfl ?_
      refine e_iload 7 dX11_buy_66 rfl ?_
      refine e_ishr dX11_buy_68 ?_
      refine e_iconst (w := (nI 1)) dX11_buy_69 (by decide) ?_
      refine e_iand dX11_buy_70 ?_
      refine e_iconst (w := (nI 1)) dX11_buy_71 (by decide) ?_
      refine e_icmp_ne 84 dX11_buy_72 (by decide) hf (fun hf => ?_) (fun hf => ?_)
      · refine e_iconst (w := (nI 0)) dX11_buy_84 (by decide) ?_
        refine e_pick [0, 1, 2, 3, 4, 5, 7] rfl ?_
        exact wX11_buy_b85 hV hK36 ih hP y1 y2 y3 y4 y5 y7 (nI 0) y6 s hf
      · refine e_aload_n 0 dX11_buy_75 rfl rfl ?_
        refine e_iload 7 dX11_buy_76 rfl ?_
        obtain ⟨r19, hg, hf⟩ := bO_some hf
        refine e_callV (as := [.int y7]) (v := (some (.int r19))) (s' := s) hV dX11_buy_78 (Or.inl rfl) rfl rfl rfl rfl (Nat.le_of_ble_eq_true rfl) lx_X rfl rfl (fun Q hQ => tX11_priceOf (d := d) hV  hg hQ) ?_
        refine e_goto 85 dX11_buy_81 (by decide) ?_
        refine e_pick [0, 1, 2, 3, 4, 5, 7] rfl ?_
        exact wX11_buy_b85 hV hK36 ih hP y1 y2 y3 y4 y5 y7 r19 y6 s hf
set_option maxRecDepth 20000 in
theorem wX11_buy_b36 {ρ : mRo} {d : Nat} {P : mPo} {V : mS → List mE} (hV : mView LX V)  {res : (Int32 × mS)} (hP : P (some (.int res.1)) (V res.2)) : ∀ (k : Nat) (y1 : Int32) (y2 : Int32) (y3 : Int32) (y4 : Int32) (y5 : Int32) (s : mS), fX11_buy_b36 k y1 y2 y3 y4 y5 s = some res → mG ρ (mC ρ (d + 3)) 11 8 cX11_buy (some .int) P 36 [(0, .ref qX), (1, .int y1), (2, .int y2), (3, .int y3), (4, .int y4), (5, .int y5)] [] (V s) := by
  intro k
  induction k with
  | zero => intro y1 y2 y3 y4 y5 s hf; rw [fX11_buy_b36] at hf; cases hf
  | succ k ih =>
    intro y1 y2 y3 y4 y5 s hf
    rw [fX11_buy_b36] at hf
    refine e_iload 5 dX11_buy_36 rfl ?_
    refine e_iconst (w := (nI 1)) dX11_buy_38 (by decide) ?_
    refine e_aload_n 0 dX11_buy_39 rfl rfl ?_
    refine e_geti hV dX11_buy_40 rfl lx_X rfl ?_
    refine e_ishl dX11_buy_43 ?_
    refine e_icmp_ge 144 dX11_buy_44 (by decide) hf (fun hf => ?_) (fun hf => ?_)
    · refine e_iload_n 2 dX11_buy_144 rfl rfl ?_
      refine e_if_ne 155 dX11_buy_145 (by decide) hf (fun hf => ?_) (fun hf => ?_)
      · refine e_iload_n 3 dX11_buy_155 rfl rfl ?_
        obtain rfl := Option.some.inj hf
        exact e_iret dX11_buy_156 trivial hP
      · refine e_iload_n 3 dX11_buy_148 rfl rfl ?_
        obtain ⟨r7, hg, hf⟩ := bO_some hf
        refine e_callS (as := [.int y3]) (v := (some (.int r7))) (s' := s) dX11_buy_149 rfl rfl rfl rfl rfl (Nat.le_of_ble_eq_true rfl) (fun Q hQ => tX11_bitsOf (d := (d + 2)) hV  hg hQ) ?_
        refine e_goto 156 dX11_buy_152 (by decide) ?_
        obtain rfl := Option.some.inj hf
        exact e_iret dX11_buy_156 trivial hP
    · refine e_iconst (w := (nI 0)) dX11_buy_47 (by decide) ?_
      refine e_istore dX11_buy_48 (by decide) hf (fun v8 hf => ?_)
      refine e_iconst (w := (nI 0)) dX11_buy_50 (by decide) ?_
      refine e_istore dX11_buy_51 (by decide) hf (fun v9 hf => ?_)
      refine e_pick [2, 3, 4, 5, 6, 7, 1, 0] rfl ?_
      exact wX11_buy_b53 hV ih hP mFu y1 y2 y3 y4 y5 v8 v9 s hf
set_option maxRecDepth 20000 in
theorem tX11_buy {ρ : mRo} {d : Nat} {P : mPo} {V : mS → List mE} (hV : mView LX V)  {x1 : Int32} {x2 : Int32} {s : mS} {res : (Int32 × mS)} (hf : fX11_buy x1 x2 s = some res) (hP : P (some (.int res.1)) (V res.2)) : mC ρ (d + 4) 203 [.ref qX, .int x1, .int x2] (V s) P := by
  refine ⟨_, rfl, Nat.le_of_ble_eq_true rfl, by decide, ?_⟩
  show mG ρ (mC ρ (d + 3)) 11 8 cX11_buy (some .int) P 0 [(0, .ref qX), (1, .int x1), (2, .int x2)] [] (V s)
  unfold fX11_buy at hf
  refine e_iload_n 1 dX11_buy_0 rfl rfl ?_
  refine e_i2l dX11_buy_1 ?_
  refine e_lconst (w := 0) dX11_buy_2 (by decide) ?_
  refine e_ldc2_w (w := 999) dX11_buy_3 rfl ?_
  obtain ⟨r1, hg, hf⟩ := bO_some hf
  refine e_callS (as := [.long (Int32.toInt64 x1), .long 0, .long 999]) (v := (some (.int r1))) (s' := s) dX11_buy_6 rfl rfl rfl rfl rfl (Nat.le_of_ble_eq_true rfl) (fun Q hQ => tX11_within (d := (d + 2)) hV  hg hQ) ?_
  refine e_if_eq 22 dX11_buy_9 (by decide) hf (fun hf => ?_) (fun hf => ?_)
  · refine e_iconst (w := (-1)) dX11_buy_22 (by decide) ?_
    obtain rfl := Option.some.inj hf
    exact e_iret dX11_buy_23 trivial hP
  · refine e_iload_n 2 dX11_buy_12 rfl rfl ?_
    refine e_i2l dX11_buy_13 ?_
    refine e_lconst (w := 0) dX11_buy_14 (by decide) ?_
    refine e_lconst (w := 1) dX11_buy_15 (by decide) ?_
    obtain ⟨r2, hg, hf⟩ := bO_some hf
    refine e_callS (as := [.long (Int32.toInt64 x2), .long 0, .long 1]) (v := (some (.int r2))) (s' := s) dX11_buy_16 rfl rfl rfl rfl rfl (Nat.le_of_ble_eq_true rfl) (fun Q hQ => tX11_within (d := (d + 2)) hV  hg hQ) ?_
    refine e_if_ne 24 dX11_buy_19 (by decide) hf (fun hf => ?_) (fun hf => ?_)
    · refine e_aload_n 0 dX11_buy_24 rfl rfl ?_
      obtain ⟨s3, hg, hf⟩ := bO_some hf
      refine e_callV (as := []) (v := none) (s' := s3) hV dX11_buy_25 (Or.inl rfl) rfl rfl rfl rfl (Nat.le_of_ble_eq_true rfl) lx_X rfl rfl (fun Q hQ => tX11_begins (d := (d + 2)) hV  hg hQ) ?_
      refine e_iconst (w := (nI 0)) dX11_buy_28 (by decide) ?_
      refine e_istore_n dX11_buy_29 rfl (by decide) hf (fun v4 hf => ?_)
      refine e_iconst (w := (nI 0)) dX11_buy_30 (by decide) ?_
      refine e_istore dX11_buy_31 (by decide) hf (fun v5 hf => ?_)
      refine e_iconst (w := (nI 1)) dX11_buy_33 (by decide) ?_
      refine e_istore dX11_buy_34 (by decide) hf (fun v6 hf => ?_)
      refine e_pick [3, 4, 5, 2, 1, 0] rfl ?_
      exact wX11_buy_b36 hV hP mFu x1 x2 v4 v5 v6 s3 hf
    · refine e_iconst (w := (-1)) dX11_buy_22 (by decide) ?_
      obtain rfl := Option.some.inj hf
      exact e_iret dX11_buy_23 trivial hP

theorem dX11_drawn_0 : decode cX11_drawn 0 = .ok (.iload_n 2, 1) := by decide +kernel
theorem dX11_drawn_1 : decode cX11_drawn 1 = .ok (.ifCond .lt 47, 3) := by decide +kernel
theorem dX11_drawn_4 : decode cX11_drawn 4 = .ok (.iload_n 2, 1) := by decide +kernel
theorem dX11_drawn_5 : decode cX11_drawn 5 = .ok (.bipush 100, 2) := by decide +kernel
theorem dX11_drawn_7 : decode cX11_drawn 7 = .ok (.idiv, 1) := by decide +kernel
theorem dX11_drawn_8 : decode cX11_drawn 8 = .ok (.i2l, 1) := by decide +kernel
theorem dX11_drawn_9 : decode cX11_drawn 9 = .ok (.lconst 1, 1) := by decide +kernel
theorem dX11_drawn_10 : decode cX11_drawn 10 = .ok (.ldc2_w 230, 3) := by decide +kernel
theorem dX11_drawn_13 : decode cX11_drawn 13 = .ok (.invokestatic 93, 3) := by decide +kernel
theorem dX11_drawn_16 : decode cX11_drawn 16 = .ok (.ifCond .eq 32, 3) := by decide +kernel
theorem dX11_drawn_19 : decode cX11_drawn 19 = .ok (.iload_n 2, 1) := by decide +kernel
theorem dX11_drawn_20 : decode cX11_drawn 20 = .ok (.bipush 100, 2) := by decide +kernel
theorem dX11_drawn_22 : decode cX11_drawn 22 = .ok (.irem, 1) := by decide +kernel
theorem dX11_drawn_23 : decode cX11_drawn 23 = .ok (.i2l, 1) := by decide +kernel
theorem dX11_drawn_24 : decode cX11_drawn 24 = .ok (.lconst 1, 1) := by decide +kernel
theorem dX11_drawn_25 : decode cX11_drawn 25 = .ok (.ldc2_w 230, 3) := by decide +kernel
theorem dX11_drawn_28 : decode cX11_drawn 28 = .ok (.invokestatic 93, 3) := by decide +kernel
theorem dX11_drawn_31 : decode cX11_drawn 31 = .ok (.ifCond .eq 17, 3) := by decide +kernel
theorem dX11_drawn_34 : decode cX11_drawn 34 = .ok (.iload_n 3, 1) := by decide +kernel
theorem dX11_drawn_35 : decode cX11_drawn 35 = .ok (.iconst (-1), 1) := by decide +kernel
theorem dX11_drawn_36 : decode cX11_drawn 36 = .ok (.if_icmp .eq 14, 3) := by decide +kernel
theorem dX11_drawn_39 : decode cX11_drawn 39 = .ok (.aload_n 0, 1) := by decide +kernel
theorem dX11_drawn_40 : decode cX11_drawn 40 = .ok (.iload_n 3, 1) := by decide +kernel
theorem dX11_drawn_41 : decode cX11_drawn 41 = .ok (.i2l, 1) := by decide +kernel
theorem dX11_drawn_42 : decode cX11_drawn 42 = .ok (.invokevirtual 104, 3) := by decide +kernel
theorem dX11_drawn_45 : decode cX11_drawn 45 = .ok (.ifCond .ne 5, 3) := by decide +kernel
theorem dX11_drawn_48 : decode cX11_drawn 48 = .ok (.iconst (-1), 1) := by decide +kernel
theorem dX11_drawn_49 : decode cX11_drawn 49 = .ok (.ireturn, 1) := by decide +kernel
theorem dX11_drawn_50 : decode cX11_drawn 50 = .ok (.aload_n 0, 1) := by decide +kernel
theorem dX11_drawn_51 : decode cX11_drawn 51 = .ok (.getfield 90, 3) := by decide +kernel
theorem dX11_drawn_54 : decode cX11_drawn 54 = .ok (.ifCond .eq 10, 3) := by decide +kernel
theorem dX11_drawn_57 : decode cX11_drawn 57 = .ok (.aload_n 0, 1) := by decide +kernel
theorem dX11_drawn_58 : decode cX11_drawn 58 = .ok (.getfield 97, 3) := by decide +kernel
theorem dX11_drawn_61 : decode cX11_drawn 61 = .ok (.ifCond .ne 5, 3) := by decide +kernel
theorem dX11_drawn_64 : decode cX11_drawn 64 = .ok (.iconst 0, 1) := by decide +kernel
theorem dX11_drawn_65 : decode cX11_drawn 65 = .ok (.ireturn, 1) := by decide +kernel
theorem dX11_drawn_66 : decode cX11_drawn 66 = .ok (.iload_n 1, 1) := by decide +kernel
theorem dX11_drawn_67 : decode cX11_drawn 67 = .ok (.istore 4, 2) := by decide +kernel
theorem dX11_drawn_69 : decode cX11_drawn 69 = .ok (.iconst 0, 1) := by decide +kernel
theorem dX11_drawn_70 : decode cX11_drawn 70 = .ok (.istore 5, 2) := by decide +kernel
theorem dX11_drawn_72 : decode cX11_drawn 72 = .ok (.iconst 0, 1) := by decide +kernel
theorem dX11_drawn_73 : decode cX11_drawn 73 = .ok (.istore 6, 2) := by decide +kernel
theorem dX11_drawn_75 : decode cX11_drawn 75 = .ok (.iconst 0, 1) := by decide +kernel
theorem dX11_drawn_76 : decode cX11_drawn 76 = .ok (.istore 7, 2) := by decide +kernel
theorem dX11_drawn_78 : decode cX11_drawn 78 = .ok (.iload 7, 2) := by decide +kernel
theorem dX11_drawn_80 : decode cX11_drawn 80 = .ok (.iload_n 2, 1) := by decide +kernel
theorem dX11_drawn_81 : decode cX11_drawn 81 = .ok (.bipush 100, 2) := by decide +kernel
theorem dX11_drawn_83 : decode cX11_drawn 83 = .ok (.idiv, 1) := by decide +kernel
theorem dX11_drawn_84 : decode cX11_drawn 84 = .ok (.if_icmp .ge 136, 3) := by decide +kernel
theorem dX11_drawn_87 : decode cX11_drawn 87 = .ok (.aload_n 0, 1) := by decide +kernel
theorem dX11_drawn_88 : decode cX11_drawn 88 = .ok (.invokevirtual 217, 3) := by decide +kernel
theorem dX11_drawn_91 : decode cX11_drawn 91 = .ok (.iconst 0, 1) := by decide +kernel
theorem dX11_drawn_92 : decode cX11_drawn 92 = .ok (.istore 8, 2) := by decide +kernel
theorem dX11_drawn_94 : decode cX11_drawn 94 = .ok (.iload 8, 2) := by decide +kernel
theorem dX11_drawn_96 : decode cX11_drawn 96 = .ok (.iload_n 2, 1) := by decide +kernel
theorem dX11_drawn_97 : decode cX11_drawn 97 = .ok (.bipush 100, 2) := by decide +kernel
theorem dX11_drawn_99 : decode cX11_drawn 99 = .ok (.irem, 1) := by decide +kernel
theorem dX11_drawn_100 : decode cX11_drawn 100 = .ok (.if_icmp .ge 65, 3) := by decide +kernel
theorem dX11_drawn_103 : decode cX11_drawn 103 = .ok (.iload 4, 2) := by decide +kernel
theorem dX11_drawn_105 : decode cX11_drawn 105 = .ok (.ldc_w 268, 3) := by decide +kernel
theorem dX11_drawn_108 : decode cX11_drawn 108 = .ok (.imul, 1) := by decide +kernel
theorem dX11_drawn_109 : decode cX11_drawn 109 = .ok (.sipush 12345, 3) := by decide +kernel
theorem dX11_drawn_112 : decode cX11_drawn 112 = .ok (.iadd, 1) := by decide +kernel
theorem dX11_drawn_113 : decode cX11_drawn 113 = .ok (.istore 4, 2) := by decide +kernel
theorem dX11_drawn_115 : decode cX11_drawn 115 = .ok (.iload 4, 2) := by decide +kernel
theorem dX11_drawn_117 : decode cX11_drawn 117 = .ok (.bipush 16, 2) := by decide +kernel
theorem dX11_drawn_119 : decode cX11_drawn 119 = .ok (.iushr, 1) := by decide +kernel
theorem dX11_drawn_120 : decode cX11_drawn 120 = .ok (.aload_n 0, 1) := by decide +kernel
theorem dX11_drawn_121 : decode cX11_drawn 121 = .ok (.getfield 90, 3) := by decide +kernel
theorem dX11_drawn_124 : decode cX11_drawn 124 = .ok (.irem, 1) := by decide +kernel
theorem dX11_drawn_125 : decode cX11_drawn 125 = .ok (.istore 9, 2) := by decide +kernel
theorem dX11_drawn_127 : decode cX11_drawn 127 = .ok (.aload_n 0, 1) := by decide +kernel
theorem dX11_drawn_128 : decode cX11_drawn 128 = .ok (.iload 4, 2) := by decide +kernel
theorem dX11_drawn_130 : decode cX11_drawn 130 = .ok (.bipush 8, 2) := by decide +kernel
theorem dX11_drawn_132 : decode cX11_drawn 132 = .ok (.iushr, 1) := by decide +kernel
theorem dX11_drawn_133 : decode cX11_drawn 133 = .ok (.aload_n 0, 1) := by decide +kernel
theorem dX11_drawn_134 : decode cX11_drawn 134 = .ok (.getfield 97, 3) := by decide +kernel
theorem dX11_drawn_137 : decode cX11_drawn 137 = .ok (.irem, 1) := by decide +kernel
theorem dX11_drawn_138 : decode cX11_drawn 138 = .ok (.iload 9, 2) := by decide +kernel
theorem dX11_drawn_140 : decode cX11_drawn 140 = .ok (.invokevirtual 223, 3) := by decide +kernel
theorem dX11_drawn_143 : decode cX11_drawn 143 = .ok (.iload 6, 2) := by decide +kernel
theorem dX11_drawn_145 : decode cX11_drawn 145 = .ok (.iload 9, 2) := by decide +kernel
theorem dX11_drawn_147 : decode cX11_drawn 147 = .ok (.iload_n 3, 1) := by decide +kernel
theorem dX11_drawn_148 : decode cX11_drawn 148 = .ok (.if_icmp .ne 7, 3) := by decide +kernel
theorem dX11_drawn_151 : decode cX11_drawn 151 = .ok (.iconst 1, 1) := by decide +kernel
theorem dX11_drawn_152 : decode cX11_drawn 152 = .ok (.goto 4, 3) := by decide +kernel
theorem dX11_drawn_155 : decode cX11_drawn 155 = .ok (.iconst 0, 1) := by decide +kernel
theorem dX11_drawn_156 : decode cX11_drawn 156 = .ok (.iadd, 1) := by decide +kernel
theorem dX11_drawn_157 : decode cX11_drawn 157 = .ok (.istore 6, 2) := by decide +kernel
theorem dX11_drawn_159 : decode cX11_drawn 159 = .ok (.iinc 8 1, 3) := by decide +kernel
theorem dX11_drawn_162 : decode cX11_drawn 162 = .ok (.goto (-68), 3) := by decide +kernel
theorem dX11_drawn_165 : decode cX11_drawn 165 = .ok (.iconst 0, 1) := by decide +kernel
theorem dX11_drawn_166 : decode cX11_drawn 166 = .ok (.istore 8, 2) := by decide +kernel
theorem dX11_drawn_168 : decode cX11_drawn 168 = .ok (.iload 8, 2) := by decide +kernel
theorem dX11_drawn_170 : decode cX11_drawn 170 = .ok (.aload_n 0, 1) := by decide +kernel
theorem dX11_drawn_171 : decode cX11_drawn 171 = .ok (.getfield 97, 3) := by decide +kernel
theorem dX11_drawn_174 : decode cX11_drawn 174 = .ok (.if_icmp .ge 40, 3) := by decide +kernel
theorem dX11_drawn_177 : decode cX11_drawn 177 = .ok (.iconst 0, 1) := by decide +kernel
theorem dX11_drawn_178 : decode cX11_drawn 178 = .ok (.istore 9, 2) := by decide +kernel
theorem dX11_drawn_180 : decode cX11_drawn 180 = .ok (.iload 9, 2) := by decide +kernel
theorem dX11_drawn_182 : decode cX11_drawn 182 = .ok (.aload_n 0, 1) := by decide +kernel
theorem dX11_drawn_183 : decode cX11_drawn 183 = .ok (.getfield 90, 3) := by decide +kernel
theorem dX11_drawn_186 : decode cX11_drawn 186 = .ok (.if_icmp .ge 22, 3) := by decide +kernel
theorem dX11_drawn_189 : decode cX11_drawn 189 = .ok (.iload 5, 2) := by decide +kernel
theorem dX11_drawn_191 : decode cX11_drawn 191 = .ok (.aload_n 0, 1) := by decide +kernel
theorem dX11_drawn_192 : decode cX11_drawn 192 = .ok (.iload 8, 2) := by decide +kernel
theorem dX11_drawn_194 : decode cX11_drawn 194 = .ok (.iload 9, 2) := by decide +kernel
theorem dX11_drawn_196 : decode cX11_drawn 196 = .ok (.invokevirtual 240, 3) := by decide +kernel
theorem dX11_drawn_199 : decode cX11_drawn 199 = .ok (.iadd, 1) := by decide +kernel
theorem dX11_drawn_200 : decode cX11_drawn 200 = .ok (.istore 5, 2) := by decide +kernel
theorem dX11_drawn_202 : decode cX11_drawn 202 = .ok (.iinc 9 1, 3) := by decide +kernel
theorem dX11_drawn_205 : decode cX11_drawn 205 = .ok (.goto (-25), 3) := by decide +kernel
theorem dX11_drawn_208 : decode cX11_drawn 208 = .ok (.iinc 8 1, 3) := by decide +kernel
theorem dX11_drawn_211 : decode cX11_drawn 211 = .ok (.goto (-43), 3) := by decide +kernel
theorem dX11_drawn_214 : decode cX11_drawn 214 = .ok (.iinc 7 1, 3) := by decide +kernel
theorem dX11_drawn_217 : decode cX11_drawn 217 = .ok (.goto (-139), 3) := by decide +kernel
theorem dX11_drawn_220 : decode cX11_drawn 220 = .ok (.iload_n 3, 1) := by decide +kernel
theorem dX11_drawn_221 : decode cX11_drawn 221 = .ok (.ifCond .ge 8, 3) := by decide +kernel
theorem dX11_drawn_224 : decode cX11_drawn 224 = .ok (.iload 5, 2) := by decide +kernel
theorem dX11_drawn_226 : decode cX11_drawn 226 = .ok (.goto 5, 3) := by decide +kernel
theorem dX11_drawn_229 : decode cX11_drawn 229 = .ok (.iload 6, 2) := by decide +kernel
theorem dX11_drawn_231 : decode cX11_drawn 231 = .ok (.ireturn, 1) := by decide +kernel
def fX11_drawn_b180 (K78 : Int32 → Int32 → Int32 → Int32 → Int32 → Int32 → mS → Option (Int32 × mS)) (K168 : Int32 → Int32 → Int32 → Int32 → Int32 → Int32 → Int32 → mS → Option (Int32 × mS)) : Nat → Int32 → Int32 → Int32 → Int32 → Int32 → Int32 → Int32 → Int32 → mS → Option (Int32 × mS)
  | 0, _, _, _, _, _, _, _, _, _ => none
  | k + 1, y2, y3, y4, y5, y6, y7, y8, y9, s =>
    if (gI s iX_machines) ≤ y9 then
      bnd (y8 + (nI 1)) fun v12 =>
      K168 y2 y3 y4 y5 y6 y7 v12 s
    else
      bO (fX11_farOf y8 y9 s) fun r13 =>
      bnd (y5 + r13) fun v14 =>
      bnd (y9 + (nI 1)) fun v15 =>
      fX11_drawn_b180 K78 K168 k y2 y3 y4 v14 y6 y7 y8 v15 s

def fX11_drawn_b168 (K78 : Int32 → Int32 → Int32 → Int32 → Int32 → Int32 → mS → Option (Int32 × mS)) : Nat → Int32 → Int32 → Int32 → Int32 → Int32 → Int32 → Int32 → mS → Option (Int32 × mS)
  | 0, _, _, _, _, _, _, _, _ => none
  | k + 1, y2, y3, y4, y5, y6, y7, y8, s =>
    if (gI s iX_writers) ≤ y8 then
      bnd (y7 + (nI 1)) fun v10 =>
      K78 y2 y3 y4 y5 y6 v10 s
    else
      bnd (nI 0) fun v11 =>
      fX11_drawn_b180 K78 (fun u0 u1 u2 u3 u4 u5 u6 u7 => fX11_drawn_b168 K78 k u0 u1 u2 u3 u4 u5 u6 u7) mFu y2 y3 y4 y5 y6 y7 y8 v11 s

def fX11_drawn_b156 (K78 : Int32 → Int32 → Int32 → Int32 → Int32 → Int32 → mS → Option (Int32 × mS)) (K94 : Int32 → Int32 → Int32 → Int32 → Int32 → Int32 → Int32 → mS → Option (Int32 × mS)) (y2 : Int32) (y3 : Int32) (y4 : Int32) (y5 : Int32) (y7 : Int32) (y8 : Int32) (z0 : Int32) (z1 : Int32) (s : mS) : Option (Int32 × mS) :=
  bnd (z1 + z0) fun v21 =>
  bnd (y8 + (nI 1)) fun v22 =>
  K94 y2 y3 y4 y5 v21 y7 v22 s

def fX11_drawn_b94 (K78 : Int32 → Int32 → Int32 → Int32 → Int32 → Int32 → mS → Option (Int32 × mS)) : Nat → Int32 → Int32 → Int32 → Int32 → Int32 → Int32 → Int32 → mS → Option (Int32 × mS)
  | 0, _, _, _, _, _, _, _, _ => none
  | k + 1, y2, y3, y4, y5, y6, y7, y8, s =>
    if (y2 - y2 / (nI 100) * (nI 100)) ≤ y8 then
      bnd (nI 0) fun v9 =>
      fX11_drawn_b168 K78 mFu y2 y3 y4 y5 y6 y7 v9 s
    else
      bnd ((y4 * (nI 1103515245)) + (nI 12345)) fun v16 =>
      rmI ((Int32.toUInt32 v16 >>> (Int32.toUInt32 (nI 16) &&& Int32.toUInt32 31)).toInt32) (gI s iX_machines) fun v17 =>
      bnd v17 fun v18 =>
      rmI ((Int32.toUInt32 v16 >>> (Int32.toUInt32 (nI 8) &&& Int32.toUInt32 31)).toInt32) (gI s iX_writers) fun v19 =>
      bO (fX11_typesOn v19 v18 s) fun s20 =>
      if v18 = y3 then
        fX11_drawn_b156 K78 (fun u0 u1 u2 u3 u4 u5 u6 u7 => fX11_drawn_b94 K78 k u0 u1 u2 u3 u4 u5 u6 u7) y2 y3 v16 y5 y7 y8 (nI 1) y6 s20
      else
        fX11_drawn_b156 K78 (fun u0 u1 u2 u3 u4 u5 u6 u7 => fX11_drawn_b94 K78 k u0 u1 u2 u3 u4 u5 u6 u7) y2 y3 v16 y5 y7 y8 (nI 0) y6 s20

def fX11_drawn_b78 : Nat → Int32 → Int32 → Int32 → Int32 → Int32 → Int32 → mS → Option (Int32 × mS)
  | 0, _, _, _, _, _, _, _ => none
  | k + 1, y2, y3, y4, y5, y6, y7, s =>
    if (y2 / (nI 100)) ≤ y7 then
      if 0 ≤ y3 then
        some (y6, s)
      else
        some (y5, s)
    else
      bO (fX11_begins s) fun s7 =>
      bnd (nI 0) fun v8 =>
      fX11_drawn_b94 (fun u0 u1 u2 u3 u4 u5 u6 => fX11_drawn_b78 k u0 u1 u2 u3 u4 u5 u6) mFu y2 y3 y4 y5 y6 y7 v8 s7

def fX11_drawn_b50 (y1 : Int32) (y2 : Int32) (y3 : Int32) (s : mS) : Option (Int32 × mS) :=
  if (gI s iX_machines) = 0 then
    some ((nI 0), s)
  else
    if (gI s iX_writers) = 0 then
      some ((nI 0), s)
    else
      bnd y1 fun v3 =>
      bnd (nI 0) fun v4 =>
      bnd (nI 0) fun v5 =>
      bnd (nI 0) fun v6 =>
      fX11_drawn_b78 mFu y2 y3 v3 v4 v5 v6 s

def fX11_drawn (x1 : Int32) (x2 : Int32) (x3 : Int32) (s : mS) : Option (Int32 × mS) :=
  if x2 < 0 then
    some ((-1), s)
  else
    bO (fX11_within (Int32.toInt64 (x2 / (nI 100))) 1 30 s) fun r1 =>
    if r1 = 0 then
      some ((-1), s)
    else
      bO (fX11_within (Int32.toInt64 (x2 - x2 / (nI 100) * (nI 100))) 1 30 s) fun r2 =>
      if r2 = 0 then
        some ((-1), s)
      else
        if x3 = (-1) then
          fX11_drawn_b50 x1 x2 x3 s
        else
          bO (fX11_isMachine (Int32.toInt64 x3) s) fun r23 =>
          if r23 = 0 then
            some ((-1), s)
          else
            fX11_drawn_b50 x1 x2 x3 s

set_option maxRecDepth 20000 in
theorem wX11_drawn_b180 {ρ : mRo} {d : Nat} {P : mPo} {V : mS → List mE} (hV : mView LX V)  {res : (Int32 × mS)} {K78 : Int32 → Int32 → Int32 → Int32 → Int32 → Int32 → mS → Option (Int32 × mS)} (hK78 : ∀ (y2 : Int32) (y3 : Int32) (y4 : Int32) (y5 : Int32) (y6 : Int32) (y7 : Int32) (s : mS), K78 y2 y3 y4 y5 y6 y7 s = some res → mG ρ (mC ρ (d + 2)) 11 10 cX11_drawn (some .int) P 78 [(0, .ref qX), (2, .int y2), (3, .int y3), (4, .int y4), (5, .int y5), (6, .int y6), (7, .int y7)] [] (V s)) {K168 : Int32 → Int32 → Int32 → Int32 → Int32 → Int32 → Int32 → mS → Option (Int32 × mS)} (hK168 : ∀ (y2 : Int32) (y3 : Int32) (y4 : Int32) (y5 : Int32) (y6 : Int32) (y7 : Int32) (y8 : Int32) (s : mS), K168 y2 y3 y4 y5 y6 y7 y8 s = some res → mG ρ (mC ρ (d + 2)) 11 10 cX11_drawn (some .int) P 168 [(0, .ref qX), (2, .int y2), (3, .int y3), (4, .int y4), (5, .int y5), (6, .int y6), (7, .int y7), (8, .int y8)] [] (V s)) (hP : P (some (.int res.1)) (V res.2)) : ∀ (k : Nat) (y2 : Int32) (y3 : Int32) (y4 : Int32) (y5 : Int32) (y6 : Int32) (y7 : Int32) (y8 : Int32) (y9 : Int32) (s : mS), fX11_drawn_b180 K78 K168 k y2 y3 y4 y5 y6 y7 y8 y9 s = some res → mG ρ (mC ρ (d + 2)) 11 10 cX11_drawn (some .int) P 180 [(0, .ref qX), (2, .int y2), (3, .int y3), (4, .int y4), (5, .int y5), (6, .int y6), (7, .int y7), (8, .int y8), (9, .int y9)] [] (V s) := by
  intro k
  induction k with
  | zero => intro y2 y3 y4 y5 y6 y7 y8 y9 s hf; rw [fX11_drawn_b180] at hf; cases hf
  | succ k ih =>
    intro y2 y3 y4 y5 y6 y7 y8 y9 s hf
    rw [fX11_drawn_b180] at hf
    refine e_iload 8 dX11_drawn_180 rfl ?_
    refine e_aload_n 0 dX11_drawn_182 rfl rfl ?_
    refine e_geti hV dX11_drawn_183 rfl lx_X rfl ?_
    refine e_icmp_ge 208 dX11_drawn_186 (by decide) hf (fun hf => ?_) (fun hf => ?_)
    · refine e_iinc 7 dX11_drawn_208 (by decide) rfl hf (fun v12 hf => ?_)
      refine e_goto 168 dX11_drawn_211 (by decide) ?_
      refine e_pick [1, 2, 3, 4, 5, 6, 7, 0] rfl ?_
      exact hK168 y2 y3 y4 y5 y6 y7 v12 s hf
    · refine e_iload 4 dX11_drawn_189 rfl ?_
      refine e_aload_n 0 dX11_drawn_191 rfl rfl ?_
      refine e_iload 7 dX11_drawn_192 rfl ?_
      refine e_iload 8 dX11_drawn_194 rfl ?_
      obtain ⟨r13, hg, hf⟩ := bO_some hf
      refine e_callV (as := [.int y8, .int y9]) (v := (some (.int r13))) (s' := s) hV dX11_drawn_196 (Or.inl rfl) rfl rfl rfl rfl (Nat.le_of_ble_eq_true rfl) lx_X rfl rfl (fun Q hQ => tX11_farOf (d := d) hV  hg hQ) ?_
      refine e_iadd dX11_drawn_199 ?_
      refine e_istore dX11_drawn_200 (by decide) hf (fun v14 hf => ?_)
      refine e_iinc 8 dX11_drawn_202 (by decide) rfl hf (fun v15 hf => ?_)
      refine e_goto 180 dX11_drawn_205 (by decide) ?_
      refine e_pick [2, 3, 4, 5, 1, 6, 7, 8, 0] rfl ?_
      exact ih y2 y3 y4 v14 y6 y7 y8 v15 s hf
set_option maxRecDepth 20000 in
theorem wX11_drawn_b168 {ρ : mRo} {d : Nat} {P : mPo} {V : mS → List mE} (hV : mView LX V)  {res : (Int32 × mS)} {K78 : Int32 → Int32 → Int32 → Int32 → Int32 → Int32 → mS → Option (Int32 × mS)} (hK78 : ∀ (y2 : Int32) (y3 : Int32) (y4 : Int32) (y5 : Int32) (y6 : Int32) (y7 : Int32) (s : mS), K78 y2 y3 y4 y5 y6 y7 s = some res → mG ρ (mC ρ (d + 2)) 11 10 cX11_drawn (some .int) P 78 [(0, .ref qX), (2, .int y2), (3, .int y3), (4, .int y4), (5, .int y5), (6, .int y6), (7, .int y7)] [] (V s)) (hP : P (some (.int res.1)) (V res.2)) : ∀ (k : Nat) (y2 : Int32) (y3 : Int32) (y4 : Int32) (y5 : Int32) (y6 : Int32) (y7 : Int32) (y8 : Int32) (s : mS), fX11_drawn_b168 K78 k y2 y3 y4 y5 y6 y7 y8 s = some res → mG ρ (mC ρ (d + 2)) 11 10 cX11_drawn (some .int) P 168 [(0, .ref qX), (2, .int y2), (3, .int y3), (4, .int y4), (5, .int y5), (6, .int y6), (7, .int y7), (8, .int y8)] [] (V s) := by
  intro k
  induction k with
  | zero => intro y2 y3 y4 y5 y6 y7 y8 s hf; rw [fX11_drawn_b168] at hf; cases hf
  | succ k ih =>
    intro y2 y3 y4 y5 y6 y7 y8 s hf
    rw [fX11_drawn_b168] at hf
    refine e_iload 7 dX11_drawn_168 rfl ?_
    refine e_aload_n 0 dX11_drawn_170 rfl rfl ?_
    refine e_geti hV dX11_drawn_171 rfl lx_X rfl ?_
    refine e_icmp_ge 214 dX11_drawn_174 (by decide) hf (fun hf => ?_) (fun hf => ?_)
    · refine e_iinc 6 dX11_drawn_214 (by decide) rfl hf (fun v10 hf => ?_)
      refine e_goto 78 dX11_drawn_217 (by decide) ?_
      refine e_pick [1, 2, 3, 4, 5, 6, 0] rfl ?_
      exact hK78 y2 y3 y4 y5 y6 v10 s hf
    · refine e_iconst (w := (nI 0)) dX11_drawn_177 (by decide) ?_
      refine e_istore dX11_drawn_178 (by decide) hf (fun v11 hf => ?_)
      refine e_pick [1, 2, 3, 4, 5, 6, 7, 8, 0] rfl ?_
      exact wX11_drawn_b180 hV hK78 ih hP mFu y2 y3 y4 y5 y6 y7 y8 v11 s hf
set_option maxRecDepth 20000 in
theorem wX11_drawn_b156 {ρ : mRo} {d : Nat} {P : mPo} {V : mS → List mE} (hV : mView LX V)  {res : (Int32 × mS)} {K78 : Int32 → Int32 → Int32 → Int32 → Int32 → Int32 → mS → Option (Int32 × mS)} (hK78 : ∀ (y2 : Int32) (y3 : Int32) (y4 : Int32) (y5 : Int32) (y6 : Int32) (y7 : Int32) (s : mS), K78 y2 y3 y4 y5 y6 y7 s = some res → mG ρ (mC ρ (d + 2)) 11 10 cX11_drawn (some .int) P 78 [(0, .ref qX), (2, .int y2), (3, .int y3), (4, .int y4), (5, .int y5), (6, .int y6), (7, .int y7)] [] (V s)) {K94 : Int32 → Int32 → Int32 → Int32 → Int32 → Int32 → Int32 → mS → Option (Int32 × mS)} (hK94 : ∀ (y2 : Int32) (y3 : Int32) (y4 : Int32) (y5 : Int32) (y6 : Int32) (y7 : Int32) (y8 : Int32) (s : mS), K94 y2 y3 y4 y5 y6 y7 y8 s = some res → mG ρ (mC ρ (d + 2)) 11 10 cX11_drawn (some .int) P 94 [(0, .ref qX), (2, .int y2), (3, .int y3), (4, .int y4), (5, .int y5), (6, .int y6), (7, .int y7), (8, .int y8)] [] (V s)) (hP : P (some (.int res.1)) (V res.2)) (y2 : Int32) (y3 : Int32) (y4 : Int32) (y5 : Int32) (y7 : Int32) (y8 : Int32) (z0 : Int32) (z1 : Int32) (s : mS) (hf : fX11_drawn_b156 K78 K94 y2 y3 y4 y5 y7 y8 z0 z1 s = some res) : mG ρ (mC ρ (d + 2)) 11 10 cX11_drawn (some .int) P 156 [(0, .ref qX), (2, .int y2), (3, .int y3), (4, .int y4), (5, .int y5), (7, .int y7), (8, .int y8)] [.int z0, .int z1] (V s) := by
  unfold fX11_drawn_b156 at hf
  refine e_iadd dX11_drawn_156 ?_
  refine e_istore dX11_drawn_157 (by decide) hf (fun v21 hf => ?_)
  refine e_iinc 7 dX11_drawn_159 (by decide) rfl hf (fun v22 hf => ?_)
  refine e_goto 94 dX11_drawn_162 (by decide) ?_
  refine e_pick [2, 3, 4, 5, 6, 1, 7, 0] rfl ?_
  exact hK94 y2 y3 y4 y5 v21 y7 v22 s hf
set_option maxRecDepth 20000 in
theorem wX11_drawn_b94 {ρ : mRo} {d : Nat} {P : mPo} {V : mS → List mE} (hV : mView LX V)  {res : (Int32 × mS)} {K78 : Int32 → Int32 → Int32 → Int32 → Int32 → Int32 → mS → Option (Int32 × mS)} (hK78 : ∀ (y2 : Int32) (y3 : Int32) (y4 : Int32) (y5 : Int32) (y6 : Int32) (y7 : Int32) (s : mS), K78 y2 y3 y4 y5 y6 y7 s = some res → mG ρ (mC ρ (d + 2)) 11 10 cX11_drawn (some .int) P 78 [(0, .ref qX), (2, .int y2), (3, .int y3), (4, .int y4), (5, .int y5), (6, .int y6), (7, .int y7)] [] (V s)) (hP : P (some (.int res.1)) (V res.2)) : ∀ (k : Nat) (y2 : Int32) (y3 : Int32) (y4 : Int32) (y5 : Int32) (y6 : Int32) (y7 : Int32) (y8 : Int32) (s : mS), fX11_drawn_b94 K78 k y2 y3 y4 y5 y6 y7 y8 s = some res → mG ρ (mC ρ (d + 2)) 11 10 cX11_drawn (some .int) P 94 [(0, .ref qX), (2, .int y2), (3, .int y3), (4, .int y4), (5, .int y5), (6, .int y6), (7, .int y7), (8, .int y8)] [] (V s) := by
  intro k
  induction k with
  | zero => intro y2 y3 y4 y5 y6 y7 y8 s hf; rw [fX11_drawn_b94] at hf; cases hf
  | succ k ih =>
    intro y2 y3 y4 y5 y6 y7 y8 s hf
    rw [fX11_drawn_b94] at hf
    refine e_iload 7 dX11_drawn_94 rfl ?_
    refine e_iload_n 1 dX11_drawn_96 rfl rfl ?_
    refine e_bipush (w := (nI 100)) dX11_drawn_97 (by decide) ?_
    refine e_irem dX11_drawn_99 (by decide) ?_
    refine e_icmp_ge 165 dX11_drawn_100 (by decide) hf (fun hf => ?_) (fun hf => ?_)
    · refine e_iconst (w := (nI 0)) dX11_drawn_165 (by decide) ?_
      refine e_istore dX11_drawn_166 (by decide) hf (fun v9 hf => ?_)
      refine e_pick [1, 2, 3, 4, 5, 6, 7, 0] rfl ?_
      exact wX11_drawn_b168 hV hK78 hP mFu y2 y3 y4 y5 y6 y7 v9 s hf
    · refine e_iload 3 dX11_drawn_103 rfl ?_
      refine e_ldc_w (w := (nI 1103515245)) dX11_drawn_105 rfl ?_
      refine e_imul dX11_drawn_108 ?_
      refine e_sipush (w := (nI 12345)) dX11_drawn_109 (by decide) ?_
      refine e_iadd dX11_drawn_112 ?_
      refine e_istore dX11_drawn_113 (by decide) hf (fun v16 hf => ?_)
      refine e_iload 0 dX11_drawn_115 rfl ?_
      refine e_bipush (w := (nI 16)) dX11_drawn_117 (by decide) ?_
      refine e_iushr dX11_drawn_119 ?_
      refine e_aload_n 1 dX11_drawn_120 rfl rfl ?_
      refine e_geti hV dX11_drawn_121 rfl lx_X rfl ?_
      refine e_iremb dX11_drawn_124 hf (fun v17 hf => ?_)
      refine e_istore dX11_drawn_125 (by decide) hf (fun v18 hf => ?_)
      refine e_aload_n 2 dX11_drawn_127 rfl rfl ?_
      refine e_iload 1 dX11_drawn_128 rfl ?_
      refine e_bipush (w := (nI 8)) dX11_drawn_130 (by decide) ?_
      refine e_iushr dX11_drawn_132 ?_
      refine e_aload_n 2 dX11_drawn_133 rfl rfl ?_
      refine e_geti hV dX11_drawn_134 rfl lx_X rfl ?_
      refine e_iremb dX11_drawn_137 hf (fun v19 hf => ?_)
      refine e_iload 0 dX11_drawn_138 rfl ?_
      obtain ⟨s20, hg, hf⟩ := bO_some hf
      refine e_callV (as := [.int v19, .int v18]) (v := none) (s' := s20) hV dX11_drawn_140 (Or.inl rfl) rfl rfl rfl rfl (Nat.le_of_ble_eq_true rfl) lx_X rfl rfl (fun Q hQ => tX11_typesOn (d := d) hV  hg hQ) ?_
      refine e_iload 6 dX11_drawn_143 rfl ?_
      refine e_iload 0 dX11_drawn_145 rfl ?_
      refine e_iload_n 4 dX11_drawn_147 rfl rfl ?_
      refine e_icmp_ne 155 dX11_drawn_148 (by decide) hf (fun hf => ?_) (fun hf => ?_)
      · refine e_iconst (w := (nI 0)) dX11_drawn_155 (by decide) ?_
        refine e_pick [2, 3, 4, 1, 5, 7, 8] rfl ?_
        exact wX11_drawn_b156 hV hK78 ih hP y2 y3 v16 y5 y7 y8 (nI 0) y6 s20 hf
      · refine e_iconst (w := (nI 1)) dX11_drawn_151 (by decide) ?_
        refine e_goto 156 dX11_drawn_152 (by decide) ?_
        refine e_pick [2, 3, 4, 1, 5, 7, 8] rfl ?_
        exact wX11_drawn_b156 hV hK78 ih hP y2 y3 v16 y5 y7 y8 (nI 1) y6 s20 hf
set_option maxRecDepth 20000 in
theorem wX11_drawn_b78 {ρ : mRo} {d : Nat} {P : mPo} {V : mS → List mE} (hV : mView LX V)  {res : (Int32 × mS)} (hP : P (some (.int res.1)) (V res.2)) : ∀ (k : Nat) (y2 : Int32) (y3 : Int32) (y4 : Int32) (y5 : Int32) (y6 : Int32) (y7 : Int32) (s : mS), fX11_drawn_b78 k y2 y3 y4 y5 y6 y7 s = some res → mG ρ (mC ρ (d + 2)) 11 10 cX11_drawn (some .int) P 78 [(0, .ref qX), (2, .int y2), (3, .int y3), (4, .int y4), (5, .int y5), (6, .int y6), (7, .int y7)] [] (V s) := by
  intro k
  induction k with
  | zero => intro y2 y3 y4 y5 y6 y7 s hf; rw [fX11_drawn_b78] at hf; cases hf
  | succ k ih =>
    intro y2 y3 y4 y5 y6 y7 s hf
    rw [fX11_drawn_b78] at hf
    refine e_iload 6 dX11_drawn_78 rfl ?_
    refine e_iload_n 1 dX11_drawn_80 rfl rfl ?_
    refine e_bipush (w := (nI 100)) dX11_drawn_81 (by decide) ?_
    refine e_idiv dX11_drawn_83 (by decide) ?_
    refine e_icmp_ge 220 dX11_drawn_84 (by decide) hf (fun hf => ?_) (fun hf => ?_)
    · refine e_iload_n 2 dX11_drawn_220 rfl rfl ?_
      refine e_if_ge 229 dX11_drawn_221 (by decide) hf (fun hf => ?_) (fun hf => ?_)
      · refine e_iload 5 dX11_drawn_229 rfl ?_
        obtain rfl := Option.some.inj hf
        exact e_iret dX11_drawn_231 trivial hP
      · refine e_iload 4 dX11_drawn_224 rfl ?_
        refine e_goto 231 dX11_drawn_226 (by decide) ?_
        obtain rfl := Option.some.inj hf
        exact e_iret dX11_drawn_231 trivial hP
    · refine e_aload_n 0 dX11_drawn_87 rfl rfl ?_
      obtain ⟨s7, hg, hf⟩ := bO_some hf
      refine e_callV (as := []) (v := none) (s' := s7) hV dX11_drawn_88 (Or.inl rfl) rfl rfl rfl rfl (Nat.le_of_ble_eq_true rfl) lx_X rfl rfl (fun Q hQ => tX11_begins (d := (d + 1)) hV  hg hQ) ?_
      refine e_iconst (w := (nI 0)) dX11_drawn_91 (by decide) ?_
      refine e_istore dX11_drawn_92 (by decide) hf (fun v8 hf => ?_)
      refine e_pick [1, 2, 3, 4, 5, 6, 7, 0] rfl ?_
      exact wX11_drawn_b94 hV ih hP mFu y2 y3 y4 y5 y6 y7 v8 s7 hf
set_option maxRecDepth 20000 in
theorem wX11_drawn_b50 {ρ : mRo} {d : Nat} {P : mPo} {V : mS → List mE} (hV : mView LX V)  {res : (Int32 × mS)} (hP : P (some (.int res.1)) (V res.2)) (y1 : Int32) (y2 : Int32) (y3 : Int32) (s : mS) (hf : fX11_drawn_b50 y1 y2 y3 s = some res) : mG ρ (mC ρ (d + 2)) 11 10 cX11_drawn (some .int) P 50 [(0, .ref qX), (1, .int y1), (2, .int y2), (3, .int y3)] [] (V s) := by
  unfold fX11_drawn_b50 at hf
  refine e_aload_n 0 dX11_drawn_50 rfl rfl ?_
  refine e_geti hV dX11_drawn_51 rfl lx_X rfl ?_
  refine e_if_eq 64 dX11_drawn_54 (by decide) hf (fun hf => ?_) (fun hf => ?_)
  · refine e_iconst (w := (nI 0)) dX11_drawn_64 (by decide) ?_
    obtain rfl := Option.some.inj hf
    exact e_iret dX11_drawn_65 trivial hP
  · refine e_aload_n 0 dX11_drawn_57 rfl rfl ?_
    refine e_geti hV dX11_drawn_58 rfl lx_X rfl ?_
    refine e_if_ne 66 dX11_drawn_61 (by decide) hf (fun hf => ?_) (fun hf => ?_)
    · refine e_iload_n 1 dX11_drawn_66 rfl rfl ?_
      refine e_istore dX11_drawn_67 (by decide) hf (fun v3 hf => ?_)
      refine e_iconst (w := (nI 0)) dX11_drawn_69 (by decide) ?_
      refine e_istore dX11_drawn_70 (by decide) hf (fun v4 hf => ?_)
      refine e_iconst (w := (nI 0)) dX11_drawn_72 (by decide) ?_
      refine e_istore dX11_drawn_73 (by decide) hf (fun v5 hf => ?_)
      refine e_iconst (w := (nI 0)) dX11_drawn_75 (by decide) ?_
      refine e_istore dX11_drawn_76 (by decide) hf (fun v6 hf => ?_)
      refine e_pick [4, 6, 7, 3, 2, 1, 0] rfl ?_
      exact wX11_drawn_b78 hV hP mFu y2 y3 v3 v4 v5 v6 s hf
    · refine e_iconst (w := (nI 0)) dX11_drawn_64 (by decide) ?_
      obtain rfl := Option.some.inj hf
      exact e_iret dX11_drawn_65 trivial hP
set_option maxRecDepth 20000 in
theorem tX11_drawn {ρ : mRo} {d : Nat} {P : mPo} {V : mS → List mE} (hV : mView LX V)  {x1 : Int32} {x2 : Int32} {x3 : Int32} {s : mS} {res : (Int32 × mS)} (hf : fX11_drawn x1 x2 x3 s = some res) (hP : P (some (.int res.1)) (V res.2)) : mC ρ (d + 3) 204 [.ref qX, .int x1, .int x2, .int x3] (V s) P := by
  refine ⟨_, rfl, Nat.le_of_ble_eq_true rfl, by decide, ?_⟩
  show mG ρ (mC ρ (d + 2)) 11 10 cX11_drawn (some .int) P 0 [(0, .ref qX), (1, .int x1), (2, .int x2), (3, .int x3)] [] (V s)
  unfold fX11_drawn at hf
  refine e_iload_n 2 dX11_drawn_0 rfl rfl ?_
  refine e_if_lt 48 dX11_drawn_1 (by decide) hf (fun hf => ?_) (fun hf => ?_)
  · refine e_iconst (w := (-1)) dX11_drawn_48 (by decide) ?_
    obtain rfl := Option.some.inj hf
    exact e_iret dX11_drawn_49 trivial hP
  · refine e_iload_n 2 dX11_drawn_4 rfl rfl ?_
    refine e_bipush (w := (nI 100)) dX11_drawn_5 (by decide) ?_
    refine e_idiv dX11_drawn_7 (by decide) ?_
    refine e_i2l dX11_drawn_8 ?_
    refine e_lconst (w := 1) dX11_drawn_9 (by decide) ?_
    refine e_ldc2_w (w := 30) dX11_drawn_10 rfl ?_
    obtain ⟨r1, hg, hf⟩ := bO_some hf
    refine e_callS (as := [.long (Int32.toInt64 (x2 / (nI 100))), .long 1, .long 30]) (v := (some (.int r1))) (s' := s) dX11_drawn_13 rfl rfl rfl rfl rfl (Nat.le_of_ble_eq_true rfl) (fun Q hQ => tX11_within (d := (d + 1)) hV  hg hQ) ?_
    refine e_if_eq 48 dX11_drawn_16 (by decide) hf (fun hf => ?_) (fun hf => ?_)
    · refine e_iconst (w := (-1)) dX11_drawn_48 (by decide) ?_
      obtain rfl := Option.some.inj hf
      exact e_iret dX11_drawn_49 trivial hP
    · refine e_iload_n 2 dX11_drawn_19 rfl rfl ?_
      refine e_bipush (w := (nI 100)) dX11_drawn_20 (by decide) ?_
      refine e_irem dX11_drawn_22 (by decide) ?_
      refine e_i2l dX11_drawn_23 ?_
      refine e_lconst (w := 1) dX11_drawn_24 (by decide) ?_
      refine e_ldc2_w (w := 30) dX11_drawn_25 rfl ?_
      obtain ⟨r2, hg, hf⟩ := bO_some hf
      refine e_callS (as := [.long (Int32.toInt64 (x2 - x2 / (nI 100) * (nI 100))), .long 1, .long 30]) (v := (some (.int r2))) (s' := s) dX11_drawn_28 rfl rfl rfl rfl rfl (Nat.le_of_ble_eq_true rfl) (fun Q hQ => tX11_within (d := (d + 1)) hV  hg hQ) ?_
      refine e_if_eq 48 dX11_drawn_31 (by decide) hf (fun hf => ?_) (fun hf => ?_)
      · refine e_iconst (w := (-1)) dX11_drawn_48 (by decide) ?_
        obtain rfl := Option.some.inj hf
        exact e_iret dX11_drawn_49 trivial hP
      · refine e_iload_n 3 dX11_drawn_34 rfl rfl ?_
        refine e_iconst (w := (-1)) dX11_drawn_35 (by decide) ?_
        refine e_icmp_eq 50 dX11_drawn_36 (by decide) hf (fun hf => ?_) (fun hf => ?_)
        · refine e_pick [0, 1, 2, 3] rfl ?_
          exact wX11_drawn_b50 hV hP x1 x2 x3 s hf
        · refine e_aload_n 0 dX11_drawn_39 rfl rfl ?_
          refine e_iload_n 3 dX11_drawn_40 rfl rfl ?_
          refine e_i2l dX11_drawn_41 ?_
          obtain ⟨r23, hg, hf⟩ := bO_some hf
          refine e_callV (as := [.long (Int32.toInt64 x3)]) (v := (some (.int r23))) (s' := s) hV dX11_drawn_42 (Or.inl rfl) rfl rfl rfl rfl (Nat.le_of_ble_eq_true rfl) lx_X rfl rfl (fun Q hQ => tX11_isMachine (d := d) hV  hg hQ) ?_
          refine e_if_ne 50 dX11_drawn_45 (by decide) hf (fun hf => ?_) (fun hf => ?_)
          · refine e_pick [0, 1, 2, 3] rfl ?_
            exact wX11_drawn_b50 hV hP x1 x2 x3 s hf
          · refine e_iconst (w := (-1)) dX11_drawn_48 (by decide) ?_
            obtain rfl := Option.some.inj hf
            exact e_iret dX11_drawn_49 trivial hP

theorem dX11_types_0 : decode cX11_types 0 = .ok (.aload_n 0, 1) := by decide +kernel
theorem dX11_types_1 : decode cX11_types 1 = .ok (.iload_n 1, 1) := by decide +kernel
theorem dX11_types_2 : decode cX11_types 2 = .ok (.invokevirtual 214, 3) := by decide +kernel
theorem dX11_types_5 : decode cX11_types 5 = .ok (.ifCond .ne 5, 3) := by decide +kernel
theorem dX11_types_8 : decode cX11_types 8 = .ok (.iconst (-1), 1) := by decide +kernel
theorem dX11_types_9 : decode cX11_types 9 = .ok (.ireturn, 1) := by decide +kernel
theorem dX11_types_10 : decode cX11_types 10 = .ok (.iload_n 1, 1) := by decide +kernel
theorem dX11_types_11 : decode cX11_types 11 = .ok (.bipush 10, 2) := by decide +kernel
theorem dX11_types_13 : decode cX11_types 13 = .ok (.irem, 1) := by decide +kernel
theorem dX11_types_14 : decode cX11_types 14 = .ok (.istore_n 2, 1) := by decide +kernel
theorem dX11_types_15 : decode cX11_types 15 = .ok (.aload_n 0, 1) := by decide +kernel
theorem dX11_types_16 : decode cX11_types 16 = .ok (.invokevirtual 217, 3) := by decide +kernel
theorem dX11_types_19 : decode cX11_types 19 = .ok (.aload_n 0, 1) := by decide +kernel
theorem dX11_types_20 : decode cX11_types 20 = .ok (.iload_n 1, 1) := by decide +kernel
theorem dX11_types_21 : decode cX11_types 21 = .ok (.bipush 10, 2) := by decide +kernel
theorem dX11_types_23 : decode cX11_types 23 = .ok (.idiv, 1) := by decide +kernel
theorem dX11_types_24 : decode cX11_types 24 = .ok (.iload_n 2, 1) := by decide +kernel
theorem dX11_types_25 : decode cX11_types 25 = .ok (.invokevirtual 237, 3) := by decide +kernel
theorem dX11_types_28 : decode cX11_types 28 = .ok (.istore_n 3, 1) := by decide +kernel
theorem dX11_types_29 : decode cX11_types 29 = .ok (.aload_n 0, 1) := by decide +kernel
theorem dX11_types_30 : decode cX11_types 30 = .ok (.iload_n 1, 1) := by decide +kernel
theorem dX11_types_31 : decode cX11_types 31 = .ok (.bipush 10, 2) := by decide +kernel
theorem dX11_types_33 : decode cX11_types 33 = .ok (.idiv, 1) := by decide +kernel
theorem dX11_types_34 : decode cX11_types 34 = .ok (.iload_n 2, 1) := by decide +kernel
theorem dX11_types_35 : decode cX11_types 35 = .ok (.invokevirtual 223, 3) := by decide +kernel
theorem dX11_types_38 : decode cX11_types 38 = .ok (.iconst 0, 1) := by decide +kernel
theorem dX11_types_39 : decode cX11_types 39 = .ok (.istore 4, 2) := by decide +kernel
theorem dX11_types_41 : decode cX11_types 41 = .ok (.iload 4, 2) := by decide +kernel
theorem dX11_types_43 : decode cX11_types 43 = .ok (.iconst 3, 1) := by decide +kernel
theorem dX11_types_44 : decode cX11_types 44 = .ok (.if_icmp .ge 46, 3) := by decide +kernel
theorem dX11_types_47 : decode cX11_types 47 = .ok (.aload_n 0, 1) := by decide +kernel
theorem dX11_types_48 : decode cX11_types 48 = .ok (.getfield 9, 3) := by decide +kernel
theorem dX11_types_51 : decode cX11_types 51 = .ok (.iconst 3, 1) := by decide +kernel
theorem dX11_types_52 : decode cX11_types 52 = .ok (.iload_n 2, 1) := by decide +kernel
theorem dX11_types_53 : decode cX11_types 53 = .ok (.imul, 1) := by decide +kernel
theorem dX11_types_54 : decode cX11_types 54 = .ok (.iload 4, 2) := by decide +kernel
theorem dX11_types_56 : decode cX11_types 56 = .ok (.iadd, 1) := by decide +kernel
theorem dX11_types_57 : decode cX11_types 57 = .ok (.aload_n 0, 1) := by decide +kernel
theorem dX11_types_58 : decode cX11_types 58 = .ok (.getfield 31, 3) := by decide +kernel
theorem dX11_types_61 : decode cX11_types 61 = .ok (.iconst 3, 1) := by decide +kernel
theorem dX11_types_62 : decode cX11_types 62 = .ok (.iload_n 2, 1) := by decide +kernel
theorem dX11_types_63 : decode cX11_types 63 = .ok (.imul, 1) := by decide +kernel
theorem dX11_types_64 : decode cX11_types 64 = .ok (.iload 4, 2) := by decide +kernel
theorem dX11_types_66 : decode cX11_types 66 = .ok (.iadd, 1) := by decide +kernel
theorem dX11_types_67 : decode cX11_types 67 = .ok (.iaload, 1) := by decide +kernel
theorem dX11_types_68 : decode cX11_types 68 = .ok (.iastore, 1) := by decide +kernel
theorem dX11_types_69 : decode cX11_types 69 = .ok (.aload_n 0, 1) := by decide +kernel
theorem dX11_types_70 : decode cX11_types 70 = .ok (.getfield 53, 3) := by decide +kernel
theorem dX11_types_73 : decode cX11_types 73 = .ok (.iconst 3, 1) := by decide +kernel
theorem dX11_types_74 : decode cX11_types 74 = .ok (.dup2, 1) := by decide +kernel
theorem dX11_types_75 : decode cX11_types 75 = .ok (.iaload, 1) := by decide +kernel
theorem dX11_types_76 : decode cX11_types 76 = .ok (.iload_n 3, 1) := by decide +kernel
theorem dX11_types_77 : decode cX11_types 77 = .ok (.iload 4, 2) := by decide +kernel
theorem dX11_types_79 : decode cX11_types 79 = .ok (.invokestatic 124, 3) := by decide +kernel
theorem dX11_types_82 : decode cX11_types 82 = .ok (.iadd, 1) := by decide +kernel
theorem dX11_types_83 : decode cX11_types 83 = .ok (.iastore, 1) := by decide +kernel
theorem dX11_types_84 : decode cX11_types 84 = .ok (.iinc 4 1, 3) := by decide +kernel
theorem dX11_types_87 : decode cX11_types 87 = .ok (.goto (-46), 3) := by decide +kernel
theorem dX11_types_90 : decode cX11_types 90 = .ok (.aload_n 0, 1) := by decide +kernel
theorem dX11_types_91 : decode cX11_types 91 = .ok (.getfield 9, 3) := by decide +kernel
theorem dX11_types_94 : decode cX11_types 94 = .ok (.bipush 24, 2) := by decide +kernel
theorem dX11_types_96 : decode cX11_types 96 = .ok (.iload_n 2, 1) := by decide +kernel
theorem dX11_types_97 : decode cX11_types 97 = .ok (.iadd, 1) := by decide +kernel
theorem dX11_types_98 : decode cX11_types 98 = .ok (.aload_n 0, 1) := by decide +kernel
theorem dX11_types_99 : decode cX11_types 99 = .ok (.getfield 34, 3) := by decide +kernel
theorem dX11_types_102 : decode cX11_types 102 = .ok (.iload_n 2, 1) := by decide +kernel
theorem dX11_types_103 : decode cX11_types 103 = .ok (.iaload, 1) := by decide +kernel
theorem dX11_types_104 : decode cX11_types 104 = .ok (.iastore, 1) := by decide +kernel
theorem dX11_types_105 : decode cX11_types 105 = .ok (.aload_n 0, 1) := by decide +kernel
theorem dX11_types_106 : decode cX11_types 106 = .ok (.getfield 53, 3) := by decide +kernel
theorem dX11_types_109 : decode cX11_types 109 = .ok (.iconst 0, 1) := by decide +kernel
theorem dX11_types_110 : decode cX11_types 110 = .ok (.dup2, 1) := by decide +kernel
theorem dX11_types_111 : decode cX11_types 111 = .ok (.iaload, 1) := by decide +kernel
theorem dX11_types_112 : decode cX11_types 112 = .ok (.iconst 1, 1) := by decide +kernel
theorem dX11_types_113 : decode cX11_types 113 = .ok (.iadd, 1) := by decide +kernel
theorem dX11_types_114 : decode cX11_types 114 = .ok (.iastore, 1) := by decide +kernel
theorem dX11_types_115 : decode cX11_types 115 = .ok (.aload_n 0, 1) := by decide +kernel
theorem dX11_types_116 : decode cX11_types 116 = .ok (.iload_n 2, 1) := by decide +kernel
theorem dX11_types_117 : decode cX11_types 117 = .ok (.putfield 49, 3) := by decide +kernel
theorem dX11_types_120 : decode cX11_types 120 = .ok (.iload_n 3, 1) := by decide +kernel
theorem dX11_types_121 : decode cX11_types 121 = .ok (.ireturn, 1) := by decide +kernel
def fX11_types_b41 : Nat → Int32 → Int32 → Int32 → mS → Option (Int32 × mS)
  | 0, _, _, _, _ => none
  | k + 1, y2, y3, y4, s =>
    if (nI 3) ≤ y4 then
      ldA s aX_age 8 y2 fun v9 =>
      stA s aX_may 65 ((nI 24) + y2) v9 fun s10 =>
      ldA s10 aX_ledNow 4 (nI 0) fun v11 =>
      stA s10 aX_ledNow 4 (nI 0) (v11 + (nI 1)) fun s12 =>
      bnd (pI s12 iX_latest y2) fun s13 =>
      some (y3, s13)
    else
      ldA s aX_pull 24 (((nI 3) * y2) + y4) fun v14 =>
      stA s aX_may 65 (((nI 3) * y2) + y4) v14 fun s15 =>
      ldA s15 aX_ledNow 4 (nI 3) fun v16 =>
      bO (fX11_inCode y3 y4 s15) fun r17 =>
      stA s15 aX_ledNow 4 (nI 3) (v16 + r17) fun s18 =>
      bnd (y4 + (nI 1)) fun v19 =>
      fX11_types_b41 k y2 y3 v19 s18

def fX11_types (x1 : Int32) (s : mS) : Option (Int32 × mS) :=
  bO (fX11_isWm x1 s) fun r1 =>
  if r1 = 0 then
    some ((-1), s)
  else
    bnd (x1 - x1 / (nI 10) * (nI 10)) fun v2 =>
    bO (fX11_begins s) fun s3 =>
    bP (fX11_codeOf (x1 / (nI 10)) v2 s3) fun r4 s5 =>
    bnd r4 fun v6 =>
    bO (fX11_typesOn (x1 / (nI 10)) v2 s5) fun s7 =>
    bnd (nI 0) fun v8 =>
    fX11_types_b41 mFu v2 v6 v8 s7

set_option maxRecDepth 20000 in
theorem wX11_types_b41 {ρ : mRo} {d : Nat} {P : mPo} {V : mS → List mE} (hV : mView LX V)  {res : (Int32 × mS)} (hP : P (some (.int res.1)) (V res.2)) : ∀ (k : Nat) (y2 : Int32) (y3 : Int32) (y4 : Int32) (s : mS), fX11_types_b41 k y2 y3 y4 s = some res → mG ρ (mC ρ (d + 66)) 11 5 cX11_types (some .int) P 41 [(0, .ref qX), (2, .int y2), (3, .int y3), (4, .int y4)] [] (V s) := by
  intro k
  induction k with
  | zero => intro y2 y3 y4 s hf; rw [fX11_types_b41] at hf; cases hf
  | succ k ih =>
    intro y2 y3 y4 s hf
    rw [fX11_types_b41] at hf
    refine e_iload 3 dX11_types_41 rfl ?_
    refine e_iconst (w := (nI 3)) dX11_types_43 (by decide) ?_
    refine e_icmp_ge 90 dX11_types_44 (by decide) hf (fun hf => ?_) (fun hf => ?_)
    · refine e_aload_n 0 dX11_types_90 rfl rfl ?_
      refine e_getr hV dX11_types_91 rfl lx_X rfl ?_
      refine e_bipush (w := (nI 24)) dX11_types_94 (by decide) ?_
      refine e_iload_n 1 dX11_types_96 rfl rfl ?_
      refine e_iadd dX11_types_97 ?_
      refine e_aload_n 0 dX11_types_98 rfl rfl ?_
      refine e_getr hV dX11_types_99 rfl lx_X rfl ?_
      refine e_iload_n 1 dX11_types_102 rfl rfl ?_
      refine e_iald hV dX11_types_103 lx_X_age hf (fun v9 hf => ?_)
      refine e_iast hV dX11_types_104 lx_X_may hf (fun s10 hf => ?_)
      refine e_aload_n 0 dX11_types_105 rfl rfl ?_
      refine e_getr hV dX11_types_106 rfl lx_X rfl ?_
      refine e_iconst (w := (nI 0)) dX11_types_109 (by decide) ?_
      refine e_dup2 dX11_types_110 rfl rfl ?_
      refine e_iald hV dX11_types_111 lx_X_ledNow hf (fun v11 hf => ?_)
      refine e_iconst (w := (nI 1)) dX11_types_112 (by decide) ?_
      refine e_iadd dX11_types_113 ?_
      refine e_iast hV dX11_types_114 lx_X_ledNow hf (fun s12 hf => ?_)
      refine e_aload_n 0 dX11_types_115 rfl rfl ?_
      refine e_iload_n 1 dX11_types_116 rfl rfl ?_
      refine e_puti hV dX11_types_117 rfl rfl rfl (Or.inl rfl) lx_X rfl hf (fun s13 hf => ?_)
      refine e_iload_n 2 dX11_types_120 rfl rfl ?_
      obtain rfl := Option.some.inj hf
      exact e_iret dX11_types_121 trivial hP
    · refine e_aload_n 0 dX11_types_47 rfl rfl ?_
      refine e_getr hV dX11_types_48 rfl lx_X rfl ?_
      refine e_iconst (w := (nI 3)) dX11_types_51 (by decide) ?_
      refine e_iload_n 1 dX11_types_52 rfl rfl ?_
      refine e_imul dX11_types_53 ?_
      refine e_iload 3 dX11_types_54 rfl ?_
      refine e_iadd dX11_types_56 ?_
      refine e_aload_n 0 dX11_types_57 rfl rfl ?_
      refine e_getr hV dX11_types_58 rfl lx_X rfl ?_
      refine e_iconst (w := (nI 3)) dX11_types_61 (by decide) ?_
      refine e_iload_n 1 dX11_types_62 rfl rfl ?_
      refine e_imul dX11_types_63 ?_
      refine e_iload 3 dX11_types_64 rfl ?_
      refine e_iadd dX11_types_66 ?_
      refine e_iald hV dX11_types_67 lx_X_pull hf (fun v14 hf => ?_)
      refine e_iast hV dX11_types_68 lx_X_may hf (fun s15 hf => ?_)
      refine e_aload_n 0 dX11_types_69 rfl rfl ?_
      refine e_getr hV dX11_types_70 rfl lx_X rfl ?_
      refine e_iconst (w := (nI 3)) dX11_types_73 (by decide) ?_
      refine e_dup2 dX11_types_74 rfl rfl ?_
      refine e_iald hV dX11_types_75 lx_X_ledNow hf (fun v16 hf => ?_)
      refine e_iload_n 2 dX11_types_76 rfl rfl ?_
      refine e_iload 3 dX11_types_77 rfl ?_
      obtain ⟨r17, hg, hf⟩ := bO_some hf
      refine e_callS (as := [.int y3, .int y4]) (v := (some (.int r17))) (s' := s15) dX11_types_79 rfl rfl rfl rfl rfl (Nat.le_of_ble_eq_true rfl) (fun Q hQ => tX11_inCode (d := (d + 65)) hV  hg hQ) ?_
      refine e_iadd dX11_types_82 ?_
      refine e_iast hV dX11_types_83 lx_X_ledNow hf (fun s18 hf => ?_)
      refine e_iinc 3 dX11_types_84 (by decide) rfl hf (fun v19 hf => ?_)
      refine e_goto 41 dX11_types_87 (by decide) ?_
      refine e_pick [1, 2, 3, 0] rfl ?_
      exact ih y2 y3 v19 s18 hf
set_option maxRecDepth 20000 in
theorem tX11_types {ρ : mRo} {d : Nat} {P : mPo} {V : mS → List mE} (hV : mView LX V)  {x1 : Int32} {s : mS} {res : (Int32 × mS)} (hf : fX11_types x1 s = some res) (hP : P (some (.int res.1)) (V res.2)) : mC ρ (d + 67) 205 [.ref qX, .int x1] (V s) P := by
  refine ⟨_, rfl, Nat.le_of_ble_eq_true rfl, by decide, ?_⟩
  show mG ρ (mC ρ (d + 66)) 11 5 cX11_types (some .int) P 0 [(0, .ref qX), (1, .int x1)] [] (V s)
  unfold fX11_types at hf
  refine e_aload_n 0 dX11_types_0 rfl rfl ?_
  refine e_iload_n 1 dX11_types_1 rfl rfl ?_
  obtain ⟨r1, hg, hf⟩ := bO_some hf
  refine e_callV (as := [.int x1]) (v := (some (.int r1))) (s' := s) hV dX11_types_2 (Or.inl rfl) rfl rfl rfl rfl (Nat.le_of_ble_eq_true rfl) lx_X rfl rfl (fun Q hQ => tX11_isWm (d := (d + 63)) hV  hg hQ) ?_
  refine e_if_ne 10 dX11_types_5 (by decide) hf (fun hf => ?_) (fun hf => ?_)
  · refine e_iload_n 1 dX11_types_10 rfl rfl ?_
    refine e_bipush (w := (nI 10)) dX11_types_11 (by decide) ?_
    refine e_irem dX11_types_13 (by decide) ?_
    refine e_istore_n dX11_types_14 rfl (by decide) hf (fun v2 hf => ?_)
    refine e_aload_n 1 dX11_types_15 rfl rfl ?_
    obtain ⟨s3, hg, hf⟩ := bO_some hf
    refine e_callV (as := []) (v := none) (s' := s3) hV dX11_types_16 (Or.inl rfl) rfl rfl rfl rfl (Nat.le_of_ble_eq_true rfl) lx_X rfl rfl (fun Q hQ => tX11_begins (d := (d + 65)) hV  hg hQ) ?_
    refine e_aload_n 1 dX11_types_19 rfl rfl ?_
    refine e_iload_n 2 dX11_types_20 rfl rfl ?_
    refine e_bipush (w := (nI 10)) dX11_types_21 (by decide) ?_
    refine e_idiv dX11_types_23 (by decide) ?_
    refine e_iload_n 0 dX11_types_24 rfl rfl ?_
    obtain ⟨r4, s5, hg, hf⟩ := bP_some hf
    refine e_callV (as := [.int (x1 / (nI 10)), .int v2]) (v := (some (.int r4))) (s' := s5) hV dX11_types_25 (Or.inl rfl) rfl rfl rfl rfl (Nat.le_of_ble_eq_true rfl) lx_X rfl rfl (fun Q hQ => tX11_codeOf (d := d) hV  hg hQ) ?_
    refine e_istore_n dX11_types_28 rfl (by decide) hf (fun v6 hf => ?_)
    refine e_aload_n 2 dX11_types_29 rfl rfl ?_
    refine e_iload_n 3 dX11_types_30 rfl rfl ?_
    refine e_bipush (w := (nI 10)) dX11_types_31 (by decide) ?_
    refine e_idiv dX11_types_33 (by decide) ?_
    refine e_iload_n 1 dX11_types_34 rfl rfl ?_
    obtain ⟨s7, hg, hf⟩ := bO_some hf
    refine e_callV (as := [.int (x1 / (nI 10)), .int v2]) (v := none) (s' := s7) hV dX11_types_35 (Or.inl rfl) rfl rfl rfl rfl (Nat.le_of_ble_eq_true rfl) lx_X rfl rfl (fun Q hQ => tX11_typesOn (d := (d + 64)) hV  hg hQ) ?_
    refine e_iconst (w := (nI 0)) dX11_types_38 (by decide) ?_
    refine e_istore dX11_types_39 (by decide) hf (fun v8 hf => ?_)
    refine e_pick [3, 2, 1, 0] rfl ?_
    exact wX11_types_b41 hV hP mFu v2 v6 v8 s7 hf
  · refine e_iconst (w := (-1)) dX11_types_8 (by decide) ?_
    obtain rfl := Option.some.inj hf
    exact e_iret dX11_types_9 trivial hP

theorem dX11_clean_0 : decode cX11_clean 0 = .ok (.aload_n 0, 1) := by decide +kernel
theorem dX11_clean_1 : decode cX11_clean 1 = .ok (.iload_n 1, 1) := by decide +kernel
theorem dX11_clean_2 : decode cX11_clean 2 = .ok (.i2l, 1) := by decide +kernel
theorem dX11_clean_3 : decode cX11_clean 3 = .ok (.invokevirtual 104, 3) := by decide +kernel
theorem dX11_clean_6 : decode cX11_clean 6 = .ok (.ifCond .ne 5, 3) := by decide +kernel
theorem dX11_clean_9 : decode cX11_clean 9 = .ok (.iconst (-1), 1) := by decide +kernel
theorem dX11_clean_10 : decode cX11_clean 10 = .ok (.ireturn, 1) := by decide +kernel
theorem dX11_clean_11 : decode cX11_clean 11 = .ok (.aload_n 0, 1) := by decide +kernel
theorem dX11_clean_12 : decode cX11_clean 12 = .ok (.getfield 9, 3) := by decide +kernel
theorem dX11_clean_15 : decode cX11_clean 15 = .ok (.bipush 24, 2) := by decide +kernel
theorem dX11_clean_17 : decode cX11_clean 17 = .ok (.iload_n 1, 1) := by decide +kernel
theorem dX11_clean_18 : decode cX11_clean 18 = .ok (.iadd, 1) := by decide +kernel
theorem dX11_clean_19 : decode cX11_clean 19 = .ok (.iaload, 1) := by decide +kernel
theorem dX11_clean_20 : decode cX11_clean 20 = .ok (.istore_n 2, 1) := by decide +kernel
theorem dX11_clean_21 : decode cX11_clean 21 = .ok (.iconst 0, 1) := by decide +kernel
theorem dX11_clean_22 : decode cX11_clean 22 = .ok (.istore_n 3, 1) := by decide +kernel
theorem dX11_clean_23 : decode cX11_clean 23 = .ok (.iload_n 3, 1) := by decide +kernel
theorem dX11_clean_24 : decode cX11_clean 24 = .ok (.iconst 3, 1) := by decide +kernel
theorem dX11_clean_25 : decode cX11_clean 25 = .ok (.if_icmp .ge 21, 3) := by decide +kernel
theorem dX11_clean_28 : decode cX11_clean 28 = .ok (.aload_n 0, 1) := by decide +kernel
theorem dX11_clean_29 : decode cX11_clean 29 = .ok (.getfield 9, 3) := by decide +kernel
theorem dX11_clean_32 : decode cX11_clean 32 = .ok (.iconst 3, 1) := by decide +kernel
theorem dX11_clean_33 : decode cX11_clean 33 = .ok (.iload_n 1, 1) := by decide +kernel
theorem dX11_clean_34 : decode cX11_clean 34 = .ok (.imul, 1) := by decide +kernel
theorem dX11_clean_35 : decode cX11_clean 35 = .ok (.iload_n 3, 1) := by decide +kernel
theorem dX11_clean_36 : decode cX11_clean 36 = .ok (.iadd, 1) := by decide +kernel
theorem dX11_clean_37 : decode cX11_clean 37 = .ok (.bipush 6, 2) := by decide +kernel
theorem dX11_clean_39 : decode cX11_clean 39 = .ok (.iastore, 1) := by decide +kernel
theorem dX11_clean_40 : decode cX11_clean 40 = .ok (.iinc 3 1, 3) := by decide +kernel
theorem dX11_clean_43 : decode cX11_clean 43 = .ok (.goto (-20), 3) := by decide +kernel
theorem dX11_clean_46 : decode cX11_clean 46 = .ok (.aload_n 0, 1) := by decide +kernel
theorem dX11_clean_47 : decode cX11_clean 47 = .ok (.getfield 9, 3) := by decide +kernel
theorem dX11_clean_50 : decode cX11_clean 50 = .ok (.bipush 24, 2) := by decide +kernel
theorem dX11_clean_52 : decode cX11_clean 52 = .ok (.iload_n 1, 1) := by decide +kernel
theorem dX11_clean_53 : decode cX11_clean 53 = .ok (.iadd, 1) := by decide +kernel
theorem dX11_clean_54 : decode cX11_clean 54 = .ok (.iconst 0, 1) := by decide +kernel
theorem dX11_clean_55 : decode cX11_clean 55 = .ok (.iastore, 1) := by decide +kernel
theorem dX11_clean_56 : decode cX11_clean 56 = .ok (.aload_n 0, 1) := by decide +kernel
theorem dX11_clean_57 : decode cX11_clean 57 = .ok (.getfield 53, 3) := by decide +kernel
theorem dX11_clean_60 : decode cX11_clean 60 = .ok (.iconst 1, 1) := by decide +kernel
theorem dX11_clean_61 : decode cX11_clean 61 = .ok (.dup2, 1) := by decide +kernel
theorem dX11_clean_62 : decode cX11_clean 62 = .ok (.iaload, 1) := by decide +kernel
theorem dX11_clean_63 : decode cX11_clean 63 = .ok (.iconst 1, 1) := by decide +kernel
theorem dX11_clean_64 : decode cX11_clean 64 = .ok (.iadd, 1) := by decide +kernel
theorem dX11_clean_65 : decode cX11_clean 65 = .ok (.iastore, 1) := by decide +kernel
theorem dX11_clean_66 : decode cX11_clean 66 = .ok (.iload_n 2, 1) := by decide +kernel
theorem dX11_clean_67 : decode cX11_clean 67 = .ok (.ireturn, 1) := by decide +kernel
def fX11_clean_b23 : Nat → Int32 → Int32 → Int32 → mS → Option (Int32 × mS)
  | 0, _, _, _, _ => none
  | k + 1, y1, y2, y3, s =>
    if (nI 3) ≤ y3 then
      stA s aX_may 65 ((nI 24) + y1) (nI 0) fun s5 =>
      ldA s5 aX_ledNow 4 (nI 1) fun v6 =>
      stA s5 aX_ledNow 4 (nI 1) (v6 + (nI 1)) fun s7 =>
      some (y2, s7)
    else
      stA s aX_may 65 (((nI 3) * y1) + y3) (nI 6) fun s8 =>
      bnd (y3 + (nI 1)) fun v9 =>
      fX11_clean_b23 k y1 y2 v9 s8

def fX11_clean (x1 : Int32) (s : mS) : Option (Int32 × mS) :=
  bO (fX11_isMachine (Int32.toInt64 x1) s) fun r1 =>
  if r1 = 0 then
    some ((-1), s)
  else
    ldA s aX_may 65 ((nI 24) + x1) fun v2 =>
    bnd v2 fun v3 =>
    bnd (nI 0) fun v4 =>
    fX11_clean_b23 mFu x1 v3 v4 s

set_option maxRecDepth 20000 in
theorem wX11_clean_b23 {ρ : mRo} {d : Nat} {P : mPo} {V : mS → List mE} (hV : mView LX V)  {res : (Int32 × mS)} (hP : P (some (.int res.1)) (V res.2)) : ∀ (k : Nat) (y1 : Int32) (y2 : Int32) (y3 : Int32) (s : mS), fX11_clean_b23 k y1 y2 y3 s = some res → mG ρ (mC ρ (d + 2)) 11 4 cX11_clean (some .int) P 23 [(0, .ref qX), (1, .int y1), (2, .int y2), (3, .int y3)] [] (V s) := by
  intro k
  induction k with
  | zero => intro y1 y2 y3 s hf; rw [fX11_clean_b23] at hf; cases hf
  | succ k ih =>
    intro y1 y2 y3 s hf
    rw [fX11_clean_b23] at hf
    refine e_iload_n 3 dX11_clean_23 rfl rfl ?_
    refine e_iconst (w := (nI 3)) dX11_clean_24 (by decide) ?_
    refine e_icmp_ge 46 dX11_clean_25 (by decide) hf (fun hf => ?_) (fun hf => ?_)
    · refine e_aload_n 0 dX11_clean_46 rfl rfl ?_
      refine e_getr hV dX11_clean_47 rfl lx_X rfl ?_
      refine e_bipush (w := (nI 24)) dX11_clean_50 (by decide) ?_
      refine e_iload_n 1 dX11_clean_52 rfl rfl ?_
      refine e_iadd dX11_clean_53 ?_
      refine e_iconst (w := (nI 0)) dX11_clean_54 (by decide) ?_
      refine e_iast hV dX11_clean_55 lx_X_may hf (fun s5 hf => ?_)
      refine e_aload_n 0 dX11_clean_56 rfl rfl ?_
      refine e_getr hV dX11_clean_57 rfl lx_X rfl ?_
      refine e_iconst (w := (nI 1)) dX11_clean_60 (by decide) ?_
      refine e_dup2 dX11_clean_61 rfl rfl ?_
      refine e_iald hV dX11_clean_62 lx_X_ledNow hf (fun v6 hf => ?_)
      refine e_iconst (w := (nI 1)) dX11_clean_63 (by decide) ?_
      refine e_iadd dX11_clean_64 ?_
      refine e_iast hV dX11_clean_65 lx_X_ledNow hf (fun s7 hf => ?_)
      refine e_iload_n 2 dX11_clean_66 rfl rfl ?_
      obtain rfl := Option.some.inj hf
      exact e_iret dX11_clean_67 trivial hP
    · refine e_aload_n 0 dX11_clean_28 rfl rfl ?_
      refine e_getr hV dX11_clean_29 rfl lx_X rfl ?_
      refine e_iconst (w := (nI 3)) dX11_clean_32 (by decide) ?_
      refine e_iload_n 1 dX11_clean_33 rfl rfl ?_
      refine e_imul dX11_clean_34 ?_
      refine e_iload_n 3 dX11_clean_35 rfl rfl ?_
      refine e_iadd dX11_clean_36 ?_
      refine e_bipush (w := (nI 6)) dX11_clean_37 (by decide) ?_
      refine e_iast hV dX11_clean_39 lx_X_may hf (fun s8 hf => ?_)
      refine e_iinc 3 dX11_clean_40 (by decide) rfl hf (fun v9 hf => ?_)
      refine e_goto 23 dX11_clean_43 (by decide) ?_
      refine e_pick [1, 2, 3, 0] rfl ?_
      exact ih y1 y2 v9 s8 hf
set_option maxRecDepth 20000 in
theorem tX11_clean {ρ : mRo} {d : Nat} {P : mPo} {V : mS → List mE} (hV : mView LX V)  {x1 : Int32} {s : mS} {res : (Int32 × mS)} (hf : fX11_clean x1 s = some res) (hP : P (some (.int res.1)) (V res.2)) : mC ρ (d + 3) 206 [.ref qX, .int x1] (V s) P := by
  refine ⟨_, rfl, Nat.le_of_ble_eq_true rfl, by decide, ?_⟩
  show mG ρ (mC ρ (d + 2)) 11 4 cX11_clean (some .int) P 0 [(0, .ref qX), (1, .int x1)] [] (V s)
  unfold fX11_clean at hf
  refine e_aload_n 0 dX11_clean_0 rfl rfl ?_
  refine e_iload_n 1 dX11_clean_1 rfl rfl ?_
  refine e_i2l dX11_clean_2 ?_
  obtain ⟨r1, hg, hf⟩ := bO_some hf
  refine e_callV (as := [.long (Int32.toInt64 x1)]) (v := (some (.int r1))) (s' := s) hV dX11_clean_3 (Or.inl rfl) rfl rfl rfl rfl (Nat.le_of_ble_eq_true rfl) lx_X rfl rfl (fun Q hQ => tX11_isMachine (d := d) hV  hg hQ) ?_
  refine e_if_ne 11 dX11_clean_6 (by decide) hf (fun hf => ?_) (fun hf => ?_)
  · refine e_aload_n 0 dX11_clean_11 rfl rfl ?_
    refine e_getr hV dX11_clean_12 rfl lx_X rfl ?_
    refine e_bipush (w := (nI 24)) dX11_clean_15 (by decide) ?_
    refine e_iload_n 1 dX11_clean_17 rfl rfl ?_
    refine e_iadd dX11_clean_18 ?_
    refine e_iald hV dX11_clean_19 lx_X_may hf (fun v2 hf => ?_)
    refine e_istore_n dX11_clean_20 rfl (by decide) hf (fun v3 hf => ?_)
    refine e_iconst (w := (nI 0)) dX11_clean_21 (by decide) ?_
    refine e_istore_n dX11_clean_22 rfl (by decide) hf (fun v4 hf => ?_)
    refine e_pick [2, 3, 1, 0] rfl ?_
    exact wX11_clean_b23 hV hP mFu x1 v3 v4 s hf
  · refine e_iconst (w := (-1)) dX11_clean_9 (by decide) ?_
    obtain rfl := Option.some.inj hf
    exact e_iret dX11_clean_10 trivial hP
