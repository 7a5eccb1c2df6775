-- bytecode to functions, by program (wip/gen/decomp.py)
theorem dX11_within_0 : decode cX11_within 0 = .ok (.lload_n 0, 1) := by decide +kernel
theorem dX11_within_1 : decode cX11_within 1 = .ok (.lload_n 2, 1) := by decide +kernel
theorem dX11_within_2 : decode cX11_within 2 = .ok (.lcmp, 1) := by decide +kernel
theorem dX11_within_3 : decode cX11_within 3 = .ok (.ifCond .lt 14, 3) := by decide +kernel
theorem dX11_within_6 : decode cX11_within 6 = .ok (.lload_n 0, 1) := by decide +kernel
theorem dX11_within_7 : decode cX11_within 7 = .ok (.lload 4, 2) := by decide +kernel
theorem dX11_within_9 : decode cX11_within 9 = .ok (.lcmp, 1) := by decide +kernel
theorem dX11_within_10 : decode cX11_within 10 = .ok (.ifCond .gt 7, 3) := by decide +kernel
theorem dX11_within_13 : decode cX11_within 13 = .ok (.iconst 1, 1) := by decide +kernel
theorem dX11_within_14 : decode cX11_within 14 = .ok (.goto 4, 3) := by decide +kernel
theorem dX11_within_17 : decode cX11_within 17 = .ok (.iconst 0, 1) := by decide +kernel
theorem dX11_within_18 : decode cX11_within 18 = .ok (.ireturn, 1) := by decide +kernel
def fX11_within (x0 : Int64) (x2 : Int64) (x4 : Int64) (s : mS) : Option Int32 :=
  if (lg_cmp x0 x2) < 0 then
    some (nI 0)
  else
    if 0 < (lg_cmp x0 x4) then
      some (nI 0)
    else
      some (nI 1)

set_option maxRecDepth 20000 in
theorem tX11_within {ρ : mRo} {d : Nat} {P : mPo} {V : mS → List mE} (hV : mView LX V)  {x0 : Int64} {x2 : Int64} {x4 : Int64} {s : mS} {res : Int32} (hf : fX11_within x0 x2 x4 s = some res) (hP : P (some (.int res)) (V s)) : mC ρ (d + 1) 137 [.long x0, .long x2, .long x4] (V s) P := by
  refine ⟨_, rfl, Nat.le_of_ble_eq_true rfl, by decide, ?_⟩
  show mG ρ (mC ρ d) 11 6 cX11_within (some .boolean) P 0 [(0, .long x0), (2, .long x2), (4, .long x4)] [] (V s)
  unfold fX11_within at hf
  refine e_lload_n 0 dX11_within_0 rfl rfl ?_
  refine e_lload_n 1 dX11_within_1 rfl rfl ?_
  refine e_lcmp dX11_within_2 ?_
  refine e_if_lt 17 dX11_within_3 (by decide) hf (fun hf => ?_) (fun hf => ?_)
  · refine e_iconst (w := (nI 0)) dX11_within_17 (by decide) ?_
    obtain rfl := Option.some.inj hf
    exact e_iret dX11_within_18 (Or.inl rfl) hP
  · refine e_lload_n 0 dX11_within_6 rfl rfl ?_
    refine e_lload 2 dX11_within_7 rfl ?_
    refine e_lcmp dX11_within_9 ?_
    refine e_if_gt 17 dX11_within_10 (by decide) hf (fun hf => ?_) (fun hf => ?_)
    · refine e_iconst (w := (nI 0)) dX11_within_17 (by decide) ?_
      obtain rfl := Option.some.inj hf
      exact e_iret dX11_within_18 (Or.inl rfl) hP
    · refine e_iconst (w := (nI 1)) dX11_within_13 (by decide) ?_
      refine e_goto 18 dX11_within_14 (by decide) ?_
      obtain rfl := Option.some.inj hf
      exact e_iret dX11_within_18 (Or.inr rfl) hP

theorem dX11_bitsOf_0 : decode cX11_bitsOf 0 = .ok (.iconst 0, 1) := by decide +kernel
theorem dX11_bitsOf_1 : decode cX11_bitsOf 1 = .ok (.istore_n 1, 1) := by decide +kernel
theorem dX11_bitsOf_2 : decode cX11_bitsOf 2 = .ok (.iconst 0, 1) := by decide +kernel
theorem dX11_bitsOf_3 : decode cX11_bitsOf 3 = .ok (.istore_n 2, 1) := by decide +kernel
theorem dX11_bitsOf_4 : decode cX11_bitsOf 4 = .ok (.iload_n 2, 1) := by decide +kernel
theorem dX11_bitsOf_5 : decode cX11_bitsOf 5 = .ok (.bipush 8, 2) := by decide +kernel
theorem dX11_bitsOf_7 : decode cX11_bitsOf 7 = .ok (.if_icmp .ge 17, 3) := by decide +kernel
theorem dX11_bitsOf_10 : decode cX11_bitsOf 10 = .ok (.iload_n 1, 1) := by decide +kernel
theorem dX11_bitsOf_11 : decode cX11_bitsOf 11 = .ok (.iload_n 0, 1) := by decide +kernel
theorem dX11_bitsOf_12 : decode cX11_bitsOf 12 = .ok (.iload_n 2, 1) := by decide +kernel
theorem dX11_bitsOf_13 : decode cX11_bitsOf 13 = .ok (.ishr, 1) := by decide +kernel
theorem dX11_bitsOf_14 : decode cX11_bitsOf 14 = .ok (.iconst 1, 1) := by decide +kernel
theorem dX11_bitsOf_15 : decode cX11_bitsOf 15 = .ok (.iand, 1) := by decide +kernel
theorem dX11_bitsOf_16 : decode cX11_bitsOf 16 = .ok (.iadd, 1) := by decide +kernel
theorem dX11_bitsOf_17 : decode cX11_bitsOf 17 = .ok (.istore_n 1, 1) := by decide +kernel
theorem dX11_bitsOf_18 : decode cX11_bitsOf 18 = .ok (.iinc 2 1, 3) := by decide +kernel
theorem dX11_bitsOf_21 : decode cX11_bitsOf 21 = .ok (.goto (-17), 3) := by decide +kernel
theorem dX11_bitsOf_24 : decode cX11_bitsOf 24 = .ok (.iload_n 1, 1) := by decide +kernel
theorem dX11_bitsOf_25 : decode cX11_bitsOf 25 = .ok (.ireturn, 1) := by decide +kernel
def fX11_bitsOf_b4 : Nat → Int32 → Int32 → Int32 → mS → Option Int32
  | 0, _, _, _, _ => none
  | k + 1, y0, y1, y2, s =>
    if (nI 8) ≤ y2 then
      some y1
    else
      bnd (y1 + ((y0 >>> (y2 &&& 31)) &&& (nI 1))) fun v3 =>
      bnd (y2 + (nI 1)) fun v4 =>
      fX11_bitsOf_b4 k y0 v3 v4 s

def fX11_bitsOf (x0 : Int32) (s : mS) : Option Int32 :=
  bnd (nI 0) fun v1 =>
  bnd (nI 0) fun v2 =>
  fX11_bitsOf_b4 mFu x0 v1 v2 s

set_option maxRecDepth 20000 in
theorem wX11_bitsOf_b4 {ρ : mRo} {d : Nat} {P : mPo} {V : mS → List mE} (hV : mView LX V)  {res : Int32} {s : mS} (hP : P (some (.int res)) (V s)) : ∀ (k : Nat) (y0 : Int32) (y1 : Int32) (y2 : Int32), fX11_bitsOf_b4 k y0 y1 y2 s = some res → mG ρ (mC ρ d) 11 3 cX11_bitsOf (some .int) P 4 [(0, .int y0), (1, .int y1), (2, .int y2)] [] (V s) := by
  intro k
  induction k with
  | zero => intro y0 y1 y2 hf; rw [fX11_bitsOf_b4] at hf; cases hf
  | succ k ih =>
    intro y0 y1 y2 hf
    rw [fX11_bitsOf_b4] at hf
    refine e_iload_n 2 dX11_bitsOf_4 rfl rfl ?_
    refine e_bipush (w := (nI 8)) dX11_bitsOf_5 (by decide) ?_
    refine e_icmp_ge 24 dX11_bitsOf_7 (by decide) hf (fun hf => ?_) (fun hf => ?_)
    · refine e_iload_n 1 dX11_bitsOf_24 rfl rfl ?_
      obtain rfl := Option.some.inj hf
      exact e_iret dX11_bitsOf_25 trivial hP
    · refine e_iload_n 1 dX11_bitsOf_10 rfl rfl ?_
      refine e_iload_n 0 dX11_bitsOf_11 rfl rfl ?_
      refine e_iload_n 2 dX11_bitsOf_12 rfl rfl ?_
      refine e_ishr dX11_bitsOf_13 ?_
      refine e_iconst (w := (nI 1)) dX11_bitsOf_14 (by decide) ?_
      refine e_iand dX11_bitsOf_15 ?_
      refine e_iadd dX11_bitsOf_16 ?_
      refine e_istore_n dX11_bitsOf_17 rfl (by decide) hf (fun v3 hf => ?_)
      refine e_iinc 2 dX11_bitsOf_18 (by decide) rfl hf (fun v4 hf => ?_)
      refine e_goto 4 dX11_bitsOf_21 (by decide) ?_
      refine e_pick [2, 1, 0] rfl ?_
      exact ih y0 v3 v4 hf
set_option maxRecDepth 20000 in
theorem tX11_bitsOf {ρ : mRo} {d : Nat} {P : mPo} {V : mS → List mE} (hV : mView LX V)  {x0 : Int32} {s : mS} {res : Int32} (hf : fX11_bitsOf x0 s = some res) (hP : P (some (.int res)) (V s)) : mC ρ (d + 1) 138 [.int x0] (V s) P := by
  refine ⟨_, rfl, Nat.le_of_ble_eq_true rfl, by decide, ?_⟩
  show mG ρ (mC ρ d) 11 3 cX11_bitsOf (some .int) P 0 [(0, .int x0)] [] (V s)
  unfold fX11_bitsOf at hf
  refine e_iconst (w := (nI 0)) dX11_bitsOf_0 (by decide) ?_
  refine e_istore_n dX11_bitsOf_1 rfl (by decide) hf (fun v1 hf => ?_)
  refine e_iconst (w := (nI 0)) dX11_bitsOf_2 (by decide) ?_
  refine e_istore_n dX11_bitsOf_3 rfl (by decide) hf (fun v2 hf => ?_)
  refine e_pick [2, 1, 0] rfl ?_
  exact wX11_bitsOf_b4 hV hP mFu x0 v1 v2 hf

theorem dX11_becomes_0 : decode cX11_becomes 0 = .ok (.aload_n 0, 1) := by decide +kernel
theorem dX11_becomes_1 : decode cX11_becomes 1 = .ok (.getfield 9, 3) := by decide +kernel
theorem dX11_becomes_4 : decode cX11_becomes 4 = .ok (.iload_n 1, 1) := by decide +kernel
theorem dX11_becomes_5 : decode cX11_becomes 5 = .ok (.iaload, 1) := by decide +kernel
theorem dX11_becomes_6 : decode cX11_becomes 6 = .ok (.istore_n 3, 1) := by decide +kernel
theorem dX11_becomes_7 : decode cX11_becomes 7 = .ok (.iload_n 3, 1) := by decide +kernel
theorem dX11_becomes_8 : decode cX11_becomes 8 = .ok (.iload_n 2, 1) := by decide +kernel
theorem dX11_becomes_9 : decode cX11_becomes 9 = .ok (.if_icmp .ne 5, 3) := by decide +kernel
theorem dX11_becomes_12 : decode cX11_becomes 12 = .ok (.iload_n 3, 1) := by decide +kernel
theorem dX11_becomes_13 : decode cX11_becomes 13 = .ok (.ireturn, 1) := by decide +kernel
theorem dX11_becomes_14 : decode cX11_becomes 14 = .ok (.aload_n 0, 1) := by decide +kernel
theorem dX11_becomes_15 : decode cX11_becomes 15 = .ok (.getfield 84, 3) := by decide +kernel
theorem dX11_becomes_18 : decode cX11_becomes 18 = .ok (.bipush 40, 2) := by decide +kernel
theorem dX11_becomes_20 : decode cX11_becomes 20 = .ok (.if_icmp .ne 77, 3) := by decide +kernel
theorem dX11_becomes_23 : decode cX11_becomes 23 = .ok (.iconst 1, 1) := by decide +kernel
theorem dX11_becomes_24 : decode cX11_becomes 24 = .ok (.istore 4, 2) := by decide +kernel
theorem dX11_becomes_26 : decode cX11_becomes 26 = .ok (.iload 4, 2) := by decide +kernel
theorem dX11_becomes_28 : decode cX11_becomes 28 = .ok (.bipush 40, 2) := by decide +kernel
theorem dX11_becomes_30 : decode cX11_becomes 30 = .ok (.if_icmp .ge 57, 3) := by decide +kernel
theorem dX11_becomes_33 : decode cX11_becomes 33 = .ok (.aload_n 0, 1) := by decide +kernel
theorem dX11_becomes_34 : decode cX11_becomes 34 = .ok (.getfield 13, 3) := by decide +kernel
theorem dX11_becomes_37 : decode cX11_becomes 37 = .ok (.iload 4, 2) := by decide +kernel
theorem dX11_becomes_39 : decode cX11_becomes 39 = .ok (.iconst 1, 1) := by decide +kernel
theorem dX11_becomes_40 : decode cX11_becomes 40 = .ok (.isub, 1) := by decide +kernel
theorem dX11_becomes_41 : decode cX11_becomes 41 = .ok (.aload_n 0, 1) := by decide +kernel
theorem dX11_becomes_42 : decode cX11_becomes 42 = .ok (.getfield 13, 3) := by decide +kernel
theorem dX11_becomes_45 : decode cX11_becomes 45 = .ok (.iload 4, 2) := by decide +kernel
theorem dX11_becomes_47 : decode cX11_becomes 47 = .ok (.iaload, 1) := by decide +kernel
theorem dX11_becomes_48 : decode cX11_becomes 48 = .ok (.iastore, 1) := by decide +kernel
theorem dX11_becomes_49 : decode cX11_becomes 49 = .ok (.aload_n 0, 1) := by decide +kernel
theorem dX11_becomes_50 : decode cX11_becomes 50 = .ok (.getfield 16, 3) := by decide +kernel
theorem dX11_becomes_53 : decode cX11_becomes 53 = .ok (.iload 4, 2) := by decide +kernel
theorem dX11_becomes_55 : decode cX11_becomes 55 = .ok (.iconst 1, 1) := by decide +kernel
theorem dX11_becomes_56 : decode cX11_becomes 56 = .ok (.isub, 1) := by decide +kernel
theorem dX11_becomes_57 : decode cX11_becomes 57 = .ok (.aload_n 0, 1) := by decide +kernel
theorem dX11_becomes_58 : decode cX11_becomes 58 = .ok (.getfield 16, 3) := by decide +kernel
theorem dX11_becomes_61 : decode cX11_becomes 61 = .ok (.iload 4, 2) := by decide +kernel
theorem dX11_becomes_63 : decode cX11_becomes 63 = .ok (.iaload, 1) := by decide +kernel
theorem dX11_becomes_64 : decode cX11_becomes 64 = .ok (.iastore, 1) := by decide +kernel
theorem dX11_becomes_65 : decode cX11_becomes 65 = .ok (.aload_n 0, 1) := by decide +kernel
theorem dX11_becomes_66 : decode cX11_becomes 66 = .ok (.getfield 19, 3) := by decide +kernel
theorem dX11_becomes_69 : decode cX11_becomes 69 = .ok (.iload 4, 2) := by decide +kernel
theorem dX11_becomes_71 : decode cX11_becomes 71 = .ok (.iconst 1, 1) := by decide +kernel
theorem dX11_becomes_72 : decode cX11_becomes 72 = .ok (.isub, 1) := by decide +kernel
theorem dX11_becomes_73 : decode cX11_becomes 73 = .ok (.aload_n 0, 1) := by decide +kernel
theorem dX11_becomes_74 : decode cX11_becomes 74 = .ok (.getfield 19, 3) := by decide +kernel
theorem dX11_becomes_77 : decode cX11_becomes 77 = .ok (.iload 4, 2) := by decide +kernel
theorem dX11_becomes_79 : decode cX11_becomes 79 = .ok (.iaload, 1) := by decide +kernel
theorem dX11_becomes_80 : decode cX11_becomes 80 = .ok (.iastore, 1) := by decide +kernel
theorem dX11_becomes_81 : decode cX11_becomes 81 = .ok (.iinc 4 1, 3) := by decide +kernel
theorem dX11_becomes_84 : decode cX11_becomes 84 = .ok (.goto (-58), 3) := by decide +kernel
theorem dX11_becomes_87 : decode cX11_becomes 87 = .ok (.aload_n 0, 1) := by decide +kernel
theorem dX11_becomes_88 : decode cX11_becomes 88 = .ok (.dup, 1) := by decide +kernel
theorem dX11_becomes_89 : decode cX11_becomes 89 = .ok (.getfield 84, 3) := by decide +kernel
theorem dX11_becomes_92 : decode cX11_becomes 92 = .ok (.iconst 1, 1) := by decide +kernel
theorem dX11_becomes_93 : decode cX11_becomes 93 = .ok (.isub, 1) := by decide +kernel
theorem dX11_becomes_94 : decode cX11_becomes 94 = .ok (.putfield 84, 3) := by decide +kernel
theorem dX11_becomes_97 : decode cX11_becomes 97 = .ok (.aload_n 0, 1) := by decide +kernel
theorem dX11_becomes_98 : decode cX11_becomes 98 = .ok (.getfield 13, 3) := by decide +kernel
theorem dX11_becomes_101 : decode cX11_becomes 101 = .ok (.aload_n 0, 1) := by decide +kernel
theorem dX11_becomes_102 : decode cX11_becomes 102 = .ok (.getfield 84, 3) := by decide +kernel
theorem dX11_becomes_105 : decode cX11_becomes 105 = .ok (.iload_n 1, 1) := by decide +kernel
theorem dX11_becomes_106 : decode cX11_becomes 106 = .ok (.iastore, 1) := by decide +kernel
theorem dX11_becomes_107 : decode cX11_becomes 107 = .ok (.aload_n 0, 1) := by decide +kernel
theorem dX11_becomes_108 : decode cX11_becomes 108 = .ok (.getfield 16, 3) := by decide +kernel
theorem dX11_becomes_111 : decode cX11_becomes 111 = .ok (.aload_n 0, 1) := by decide +kernel
theorem dX11_becomes_112 : decode cX11_becomes 112 = .ok (.getfield 84, 3) := by decide +kernel
theorem dX11_becomes_115 : decode cX11_becomes 115 = .ok (.iload_n 3, 1) := by decide +kernel
theorem dX11_becomes_116 : decode cX11_becomes 116 = .ok (.iastore, 1) := by decide +kernel
theorem dX11_becomes_117 : decode cX11_becomes 117 = .ok (.aload_n 0, 1) := by decide +kernel
theorem dX11_becomes_118 : decode cX11_becomes 118 = .ok (.getfield 19, 3) := by decide +kernel
theorem dX11_becomes_121 : decode cX11_becomes 121 = .ok (.aload_n 0, 1) := by decide +kernel
theorem dX11_becomes_122 : decode cX11_becomes 122 = .ok (.getfield 84, 3) := by decide +kernel
theorem dX11_becomes_125 : decode cX11_becomes 125 = .ok (.iload_n 2, 1) := by decide +kernel
theorem dX11_becomes_126 : decode cX11_becomes 126 = .ok (.iastore, 1) := by decide +kernel
theorem dX11_becomes_127 : decode cX11_becomes 127 = .ok (.aload_n 0, 1) := by decide +kernel
theorem dX11_becomes_128 : decode cX11_becomes 128 = .ok (.dup, 1) := by decide +kernel
theorem dX11_becomes_129 : decode cX11_becomes 129 = .ok (.getfield 84, 3) := by decide +kernel
theorem dX11_becomes_132 : decode cX11_becomes 132 = .ok (.iconst 1, 1) := by decide +kernel
theorem dX11_becomes_133 : decode cX11_becomes 133 = .ok (.iadd, 1) := by decide +kernel
theorem dX11_becomes_134 : decode cX11_becomes 134 = .ok (.putfield 84, 3) := by decide +kernel
theorem dX11_becomes_137 : decode cX11_becomes 137 = .ok (.aload_n 0, 1) := by decide +kernel
theorem dX11_becomes_138 : decode cX11_becomes 138 = .ok (.aload_n 0, 1) := by decide +kernel
theorem dX11_becomes_139 : decode cX11_becomes 139 = .ok (.getfield 84, 3) := by decide +kernel
theorem dX11_becomes_142 : decode cX11_becomes 142 = .ok (.putfield 87, 3) := by decide +kernel
theorem dX11_becomes_145 : decode cX11_becomes 145 = .ok (.aload_n 0, 1) := by decide +kernel
theorem dX11_becomes_146 : decode cX11_becomes 146 = .ok (.getfield 9, 3) := by decide +kernel
theorem dX11_becomes_149 : decode cX11_becomes 149 = .ok (.iload_n 1, 1) := by decide +kernel
theorem dX11_becomes_150 : decode cX11_becomes 150 = .ok (.iload_n 2, 1) := by decide +kernel
theorem dX11_becomes_151 : decode cX11_becomes 151 = .ok (.iastore, 1) := by decide +kernel
theorem dX11_becomes_152 : decode cX11_becomes 152 = .ok (.iload_n 3, 1) := by decide +kernel
theorem dX11_becomes_153 : decode cX11_becomes 153 = .ok (.ireturn, 1) := by decide +kernel
def fX11_becomes_b97 (y1 : Int32) (y2 : Int32) (y3 : Int32) (s : mS) : Option (Int32 × mS) :=
  stA s aX_changeAt 40 (gI s iX_done) y1 fun s3 =>
  stA s3 aX_changeWas 40 (gI s3 iX_done) y3 fun s4 =>
  stA s4 aX_changeIs 40 (gI s4 iX_done) y2 fun s5 =>
  bnd (pI s5 iX_done ((gI s5 iX_done) + (nI 1))) fun s6 =>
  bnd (pI s6 iX_keptMany (gI s6 iX_done)) fun s7 =>
  stA s7 aX_may 65 y1 y2 fun s8 =>
  some (y3, s8)

def fX11_becomes_b26 : Nat → Int32 → Int32 → Int32 → Int32 → mS → Option (Int32 × mS)
  | 0, _, _, _, _, _ => none
  | k + 1, y1, y2, y3, y4, s =>
    if (nI 40) ≤ y4 then
      bnd (pI s iX_done ((gI s iX_done) - (nI 1))) fun s10 =>
      fX11_becomes_b97 y1 y2 y3 s10
    else
      ldA s aX_changeAt 40 y4 fun v11 =>
      stA s aX_changeAt 40 (y4 - (nI 1)) v11 fun s12 =>
      ldA s12 aX_changeWas 40 y4 fun v13 =>
      stA s12 aX_changeWas 40 (y4 - (nI 1)) v13 fun s14 =>
      ldA s14 aX_changeIs 40 y4 fun v15 =>
      stA s14 aX_changeIs 40 (y4 - (nI 1)) v15 fun s16 =>
      bnd (y4 + (nI 1)) fun v17 =>
      fX11_becomes_b26 k y1 y2 y3 v17 s16

def fX11_becomes (x1 : Int32) (x2 : Int32) (s : mS) : Option (Int32 × mS) :=
  ldA s aX_may 65 x1 fun v1 =>
  bnd v1 fun v2 =>
  if v2 = x2 then
    some (v2, s)
  else
    if (gI s iX_done) = (nI 40) then
      bnd (nI 1) fun v9 =>
      fX11_becomes_b26 mFu x1 x2 v2 v9 s
    else
      fX11_becomes_b97 x1 x2 v2 s

set_option maxRecDepth 20000 in
theorem wX11_becomes_b97 {ρ : mRo} {d : Nat} {P : mPo} {V : mS → List mE} (hV : mView LX V)  {res : (Int32 × mS)} (hP : P (some (.int res.1)) (V res.2)) (y1 : Int32) (y2 : Int32) (y3 : Int32) (s : mS) (hf : fX11_becomes_b97 y1 y2 y3 s = some res) : mG ρ (mC ρ d) 11 5 cX11_becomes (some .int) P 97 [(0, .ref qX), (1, .int y1), (2, .int y2), (3, .int y3)] [] (V s) := by
  unfold fX11_becomes_b97 at hf
  refine e_aload_n 0 dX11_becomes_97 rfl rfl ?_
  refine e_getr hV dX11_becomes_98 rfl lx_X rfl ?_
  refine e_aload_n 0 dX11_becomes_101 rfl rfl ?_
  refine e_geti hV dX11_becomes_102 rfl lx_X rfl ?_
  refine e_iload_n 1 dX11_becomes_105 rfl rfl ?_
  refine e_iast hV dX11_becomes_106 lx_X_changeAt hf (fun s3 hf => ?_)
  refine e_aload_n 0 dX11_becomes_107 rfl rfl ?_
  refine e_getr hV dX11_becomes_108 rfl lx_X rfl ?_
  refine e_aload_n 0 dX11_becomes_111 rfl rfl ?_
  refine e_geti hV dX11_becomes_112 rfl lx_X rfl ?_
  refine e_iload_n 3 dX11_becomes_115 rfl rfl ?_
  refine e_iast hV dX11_becomes_116 lx_X_changeWas hf (fun s4 hf => ?_)
  refine e_aload_n 0 dX11_becomes_117 rfl rfl ?_
  refine e_getr hV dX11_becomes_118 rfl lx_X rfl ?_
  refine e_aload_n 0 dX11_becomes_121 rfl rfl ?_
  refine e_geti hV dX11_becomes_122 rfl lx_X rfl ?_
  refine e_iload_n 2 dX11_becomes_125 rfl rfl ?_
  refine e_iast hV dX11_becomes_126 lx_X_changeIs hf (fun s5 hf => ?_)
  refine e_aload_n 0 dX11_becomes_127 rfl rfl ?_
  refine e_dup dX11_becomes_128 rfl ?_
  refine e_geti hV dX11_becomes_129 rfl lx_X rfl ?_
  refine e_iconst (w := (nI 1)) dX11_becomes_132 (by decide) ?_
  refine e_iadd dX11_becomes_133 ?_
  refine e_puti hV dX11_becomes_134 rfl rfl rfl (Or.inl rfl) lx_X rfl hf (fun s6 hf => ?_)
  refine e_aload_n 0 dX11_becomes_137 rfl rfl ?_
  refine e_aload_n 0 dX11_becomes_138 rfl rfl ?_
  refine e_geti hV dX11_becomes_139 rfl lx_X rfl ?_
  refine e_puti hV dX11_becomes_142 rfl rfl rfl (Or.inl rfl) lx_X rfl hf (fun s7 hf => ?_)
  refine e_aload_n 0 dX11_becomes_145 rfl rfl ?_
  refine e_getr hV dX11_becomes_146 rfl lx_X rfl ?_
  refine e_iload_n 1 dX11_becomes_149 rfl rfl ?_
  refine e_iload_n 2 dX11_becomes_150 rfl rfl ?_
  refine e_iast hV dX11_becomes_151 lx_X_may hf (fun s8 hf => ?_)
  refine e_iload_n 3 dX11_becomes_152 rfl rfl ?_
  obtain rfl := Option.some.inj hf
  exact e_iret dX11_becomes_153 trivial hP
set_option maxRecDepth 20000 in
theorem wX11_becomes_b26 {ρ : mRo} {d : Nat} {P : mPo} {V : mS → List mE} (hV : mView LX V)  {res : (Int32 × mS)} (hP : P (some (.int res.1)) (V res.2)) : ∀ (k : Nat) (y1 : Int32) (y2 : Int32) (y3 : Int32) (y4 : Int32) (s : mS), fX11_becomes_b26 k y1 y2 y3 y4 s = some res → mG ρ (mC ρ d) 11 5 cX11_becomes (some .int) P 26 [(0, .ref qX), (1, .int y1), (2, .int y2), (3, .int y3), (4, .int y4)] [] (V s) := by
  intro k
  induction k with
  | zero => intro y1 y2 y3 y4 s hf; rw [fX11_becomes_b26] at hf; cases hf
  | succ k ih =>
    intro y1 y2 y3 y4 s hf
    rw [fX11_becomes_b26] at hf
    refine e_iload 4 dX11_becomes_26 rfl ?_
    refine e_bipush (w := (nI 40)) dX11_becomes_28 (by decide) ?_
    refine e_icmp_ge 87 dX11_becomes_30 (by decide) hf (fun hf => ?_) (fun hf => ?_)
    · refine e_aload_n 0 dX11_becomes_87 rfl rfl ?_
      refine e_dup dX11_becomes_88 rfl ?_
      refine e_geti hV dX11_becomes_89 rfl lx_X rfl ?_
      refine e_iconst (w := (nI 1)) dX11_becomes_92 (by decide) ?_
      refine e_isub dX11_becomes_93 ?_
      refine e_puti hV dX11_becomes_94 rfl rfl rfl (Or.inl rfl) lx_X rfl hf (fun s10 hf => ?_)
      refine e_pick [0, 1, 2, 3] rfl ?_
      exact wX11_becomes_b97 hV hP y1 y2 y3 s10 hf
    · refine e_aload_n 0 dX11_becomes_33 rfl rfl ?_
      refine e_getr hV dX11_becomes_34 rfl lx_X rfl ?_
      refine e_iload 4 dX11_becomes_37 rfl ?_
      refine e_iconst (w := (nI 1)) dX11_becomes_39 (by decide) ?_
      refine e_isub dX11_becomes_40 ?_
      refine e_aload_n 0 dX11_becomes_41 rfl rfl ?_
      refine e_getr hV dX11_becomes_42 rfl lx_X rfl ?_
      refine e_iload 4 dX11_becomes_45 rfl ?_
      refine e_iald hV dX11_becomes_47 lx_X_changeAt hf (fun v11 hf => ?_)
      refine e_iast hV dX11_becomes_48 lx_X_changeAt hf (fun s12 hf => ?_)
      refine e_aload_n 0 dX11_becomes_49 rfl rfl ?_
      refine e_getr hV dX11_becomes_50 rfl lx_X rfl ?_
      refine e_iload 4 dX11_becomes_53 rfl ?_
      refine e_iconst (w := (nI 1)) dX11_becomes_55 (by decide) ?_
      refine e_isub dX11_becomes_56 ?_
      refine e_aload_n 0 dX11_becomes_57 rfl rfl ?_
      refine e_getr hV dX11_becomes_58 rfl lx_X rfl ?_
      refine e_iload 4 dX11_becomes_61 rfl ?_
      refine e_iald hV dX11_becomes_63 lx_X_changeWas hf (fun v13 hf => ?_)
      refine e_iast hV dX11_becomes_64 lx_X_changeWas hf (fun s14 hf => ?_)
      refine e_aload_n 0 dX11_becomes_65 rfl rfl ?_
      refine e_getr hV dX11_becomes_66 rfl lx_X rfl ?_
      refine e_iload 4 dX11_becomes_69 rfl ?_
      refine e_iconst (w := (nI 1)) dX11_becomes_71 (by decide) ?_
      refine e_isub dX11_becomes_72 ?_
      refine e_aload_n 0 dX11_becomes_73 rfl rfl ?_
      refine e_getr hV dX11_becomes_74 rfl lx_X rfl ?_
      refine e_iload 4 dX11_becomes_77 rfl ?_
      refine e_iald hV dX11_becomes_79 lx_X_changeIs hf (fun v15 hf => ?_)
      refine e_iast hV dX11_becomes_80 lx_X_changeIs hf (fun s16 hf => ?_)
      refine e_iinc 4 dX11_becomes_81 (by decide) rfl hf (fun v17 hf => ?_)
      refine e_goto 26 dX11_becomes_84 (by decide) ?_
      refine e_pick [1, 2, 3, 4, 0] rfl ?_
      exact ih y1 y2 y3 v17 s16 hf
set_option maxRecDepth 20000 in
theorem tX11_becomes {ρ : mRo} {d : Nat} {P : mPo} {V : mS → List mE} (hV : mView LX V)  {x1 : Int32} {x2 : Int32} {s : mS} {res : (Int32 × mS)} (hf : fX11_becomes x1 x2 s = some res) (hP : P (some (.int res.1)) (V res.2)) : mC ρ (d + 1) 139 [.ref qX, .int x1, .int x2] (V s) P := by
  refine ⟨_, rfl, Nat.le_of_ble_eq_true rfl, by decide, ?_⟩
  show mG ρ (mC ρ d) 11 5 cX11_becomes (some .int) P 0 [(0, .ref qX), (1, .int x1), (2, .int x2)] [] (V s)
  unfold fX11_becomes at hf
  refine e_aload_n 0 dX11_becomes_0 rfl rfl ?_
  refine e_getr hV dX11_becomes_1 rfl lx_X rfl ?_
  refine e_iload_n 1 dX11_becomes_4 rfl rfl ?_
  refine e_iald hV dX11_becomes_5 lx_X_may hf (fun v1 hf => ?_)
  refine e_istore_n dX11_becomes_6 rfl (by decide) hf (fun v2 hf => ?_)
  refine e_iload_n 0 dX11_becomes_7 rfl rfl ?_
  refine e_iload_n 3 dX11_becomes_8 rfl rfl ?_
  refine e_icmp_ne 14 dX11_becomes_9 (by decide) hf (fun hf => ?_) (fun hf => ?_)
  · refine e_aload_n 1 dX11_becomes_14 rfl rfl ?_
    refine e_geti hV dX11_becomes_15 rfl lx_X rfl ?_
    refine e_bipush (w := (nI 40)) dX11_becomes_18 (by decide) ?_
    refine e_icmp_ne 97 dX11_becomes_20 (by decide) hf (fun hf => ?_) (fun hf => ?_)
    · refine e_pick [1, 2, 3, 0] rfl ?_
      exact wX11_becomes_b97 hV hP x1 x2 v2 s hf
    · refine e_iconst (w := (nI 1)) dX11_becomes_23 (by decide) ?_
      refine e_istore dX11_becomes_24 (by decide) hf (fun v9 hf => ?_)
      refine e_pick [2, 3, 4, 1, 0] rfl ?_
      exact wX11_becomes_b26 hV hP mFu x1 x2 v2 v9 s hf
  · refine e_iload_n 0 dX11_becomes_12 rfl rfl ?_
    obtain rfl := Option.some.inj hf
    exact e_iret dX11_becomes_13 trivial hP

theorem dX11_undo_0 : decode cX11_undo 0 = .ok (.aload_n 0, 1) := by decide +kernel
theorem dX11_undo_1 : decode cX11_undo 1 = .ok (.getfield 84, 3) := by decide +kernel
theorem dX11_undo_4 : decode cX11_undo 4 = .ok (.ifCond .ne 6, 3) := by decide +kernel
theorem dX11_undo_7 : decode cX11_undo 7 = .ok (.bipush (-5), 2) := by decide +kernel
theorem dX11_undo_9 : decode cX11_undo 9 = .ok (.ireturn, 1) := by decide +kernel
theorem dX11_undo_10 : decode cX11_undo 10 = .ok (.aload_n 0, 1) := by decide +kernel
theorem dX11_undo_11 : decode cX11_undo 11 = .ok (.dup, 1) := by decide +kernel
theorem dX11_undo_12 : decode cX11_undo 12 = .ok (.getfield 84, 3) := by decide +kernel
theorem dX11_undo_15 : decode cX11_undo 15 = .ok (.iconst 1, 1) := by decide +kernel
theorem dX11_undo_16 : decode cX11_undo 16 = .ok (.isub, 1) := by decide +kernel
theorem dX11_undo_17 : decode cX11_undo 17 = .ok (.putfield 84, 3) := by decide +kernel
theorem dX11_undo_20 : decode cX11_undo 20 = .ok (.aload_n 0, 1) := by decide +kernel
theorem dX11_undo_21 : decode cX11_undo 21 = .ok (.getfield 9, 3) := by decide +kernel
theorem dX11_undo_24 : decode cX11_undo 24 = .ok (.aload_n 0, 1) := by decide +kernel
theorem dX11_undo_25 : decode cX11_undo 25 = .ok (.getfield 13, 3) := by decide +kernel
theorem dX11_undo_28 : decode cX11_undo 28 = .ok (.aload_n 0, 1) := by decide +kernel
theorem dX11_undo_29 : decode cX11_undo 29 = .ok (.getfield 84, 3) := by decide +kernel
theorem dX11_undo_32 : decode cX11_undo 32 = .ok (.iaload, 1) := by decide +kernel
theorem dX11_undo_33 : decode cX11_undo 33 = .ok (.aload_n 0, 1) := by decide +kernel
theorem dX11_undo_34 : decode cX11_undo 34 = .ok (.getfield 16, 3) := by decide +kernel
theorem dX11_undo_37 : decode cX11_undo 37 = .ok (.aload_n 0, 1) := by decide +kernel
theorem dX11_undo_38 : decode cX11_undo 38 = .ok (.getfield 84, 3) := by decide +kernel
theorem dX11_undo_41 : decode cX11_undo 41 = .ok (.iaload, 1) := by decide +kernel
theorem dX11_undo_42 : decode cX11_undo 42 = .ok (.iastore, 1) := by decide +kernel
theorem dX11_undo_43 : decode cX11_undo 43 = .ok (.aload_n 0, 1) := by decide +kernel
theorem dX11_undo_44 : decode cX11_undo 44 = .ok (.getfield 84, 3) := by decide +kernel
theorem dX11_undo_47 : decode cX11_undo 47 = .ok (.ireturn, 1) := by decide +kernel
def fX11_undo (s : mS) : Option (Int32 × mS) :=
  if (gI s iX_done) = 0 then
    some ((-5), s)
  else
    bnd (pI s iX_done ((gI s iX_done) - (nI 1))) fun s1 =>
    ldA s1 aX_changeAt 40 (gI s1 iX_done) fun v2 =>
    ldA s1 aX_changeWas 40 (gI s1 iX_done) fun v3 =>
    stA s1 aX_may 65 v2 v3 fun s4 =>
    some (gI s4 iX_done, s4)

set_option maxRecDepth 20000 in
theorem tX11_undo {ρ : mRo} {d : Nat} {P : mPo} {V : mS → List mE} (hV : mView LX V)  {s : mS} {res : (Int32 × mS)} (hf : fX11_undo s = some res) (hP : P (some (.int res.1)) (V res.2)) : mC ρ (d + 1) 140 [.ref qX] (V s) P := by
  refine ⟨_, rfl, Nat.le_of_ble_eq_true rfl, by decide, ?_⟩
  show mG ρ (mC ρ d) 11 1 cX11_undo (some .int) P 0 [(0, .ref qX)] [] (V s)
  unfold fX11_undo at hf
  refine e_aload_n 0 dX11_undo_0 rfl rfl ?_
  refine e_geti hV dX11_undo_1 rfl lx_X rfl ?_
  refine e_if_ne 10 dX11_undo_4 (by decide) hf (fun hf => ?_) (fun hf => ?_)
  · refine e_aload_n 0 dX11_undo_10 rfl rfl ?_
    refine e_dup dX11_undo_11 rfl ?_
    refine e_geti hV dX11_undo_12 rfl lx_X rfl ?_
    refine e_iconst (w := (nI 1)) dX11_undo_15 (by decide) ?_
    refine e_isub dX11_undo_16 ?_
    refine e_puti hV dX11_undo_17 rfl rfl rfl (Or.inl rfl) lx_X rfl hf (fun s1 hf => ?_)
    refine e_aload_n 0 dX11_undo_20 rfl rfl ?_
    refine e_getr hV dX11_undo_21 rfl lx_X rfl ?_
    refine e_aload_n 0 dX11_undo_24 rfl rfl ?_
    refine e_getr hV dX11_undo_25 rfl lx_X rfl ?_
    refine e_aload_n 0 dX11_undo_28 rfl rfl ?_
    refine e_geti hV dX11_undo_29 rfl lx_X rfl ?_
    refine e_iald hV dX11_undo_32 lx_X_changeAt hf (fun v2 hf => ?_)
    refine e_aload_n 0 dX11_undo_33 rfl rfl ?_
    refine e_getr hV dX11_undo_34 rfl lx_X rfl ?_
    refine e_aload_n 0 dX11_undo_37 rfl rfl ?_
    refine e_geti hV dX11_undo_38 rfl lx_X rfl ?_
    refine e_iald hV dX11_undo_41 lx_X_changeWas hf (fun v3 hf => ?_)
    refine e_iast hV dX11_undo_42 lx_X_may hf (fun s4 hf => ?_)
    refine e_aload_n 0 dX11_undo_43 rfl rfl ?_
    refine e_geti hV dX11_undo_44 rfl lx_X rfl ?_
    obtain rfl := Option.some.inj hf
    exact e_iret dX11_undo_47 trivial hP
  · refine e_bipush (w := (-5)) dX11_undo_7 (by decide) ?_
    obtain rfl := Option.some.inj hf
    exact e_iret dX11_undo_9 trivial hP

theorem dX11_redo_0 : decode cX11_redo 0 = .ok (.aload_n 0, 1) := by decide +kernel
theorem dX11_redo_1 : decode cX11_redo 1 = .ok (.getfield 84, 3) := by decide +kernel
theorem dX11_redo_4 : decode cX11_redo 4 = .ok (.aload_n 0, 1) := by decide +kernel
theorem dX11_redo_5 : decode cX11_redo 5 = .ok (.getfield 87, 3) := by decide +kernel
theorem dX11_redo_8 : decode cX11_redo 8 = .ok (.if_icmp .ne 6, 3) := by decide +kernel
theorem dX11_redo_11 : decode cX11_redo 11 = .ok (.bipush (-5), 2) := by decide +kernel
theorem dX11_redo_13 : decode cX11_redo 13 = .ok (.ireturn, 1) := by decide +kernel
theorem dX11_redo_14 : decode cX11_redo 14 = .ok (.aload_n 0, 1) := by decide +kernel
theorem dX11_redo_15 : decode cX11_redo 15 = .ok (.getfield 9, 3) := by decide +kernel
theorem dX11_redo_18 : decode cX11_redo 18 = .ok (.aload_n 0, 1) := by decide +kernel
theorem dX11_redo_19 : decode cX11_redo 19 = .ok (.getfield 13, 3) := by decide +kernel
theorem dX11_redo_22 : decode cX11_redo 22 = .ok (.aload_n 0, 1) := by decide +kernel
theorem dX11_redo_23 : decode cX11_redo 23 = .ok (.getfield 84, 3) := by decide +kernel
theorem dX11_redo_26 : decode cX11_redo 26 = .ok (.iaload, 1) := by decide +kernel
theorem dX11_redo_27 : decode cX11_redo 27 = .ok (.aload_n 0, 1) := by decide +kernel
theorem dX11_redo_28 : decode cX11_redo 28 = .ok (.getfield 19, 3) := by decide +kernel
theorem dX11_redo_31 : decode cX11_redo 31 = .ok (.aload_n 0, 1) := by decide +kernel
theorem dX11_redo_32 : decode cX11_redo 32 = .ok (.getfield 84, 3) := by decide +kernel
theorem dX11_redo_35 : decode cX11_redo 35 = .ok (.iaload, 1) := by decide +kernel
theorem dX11_redo_36 : decode cX11_redo 36 = .ok (.iastore, 1) := by decide +kernel
theorem dX11_redo_37 : decode cX11_redo 37 = .ok (.aload_n 0, 1) := by decide +kernel
theorem dX11_redo_38 : decode cX11_redo 38 = .ok (.dup, 1) := by decide +kernel
theorem dX11_redo_39 : decode cX11_redo 39 = .ok (.getfield 84, 3) := by decide +kernel
theorem dX11_redo_42 : decode cX11_redo 42 = .ok (.iconst 1, 1) := by decide +kernel
theorem dX11_redo_43 : decode cX11_redo 43 = .ok (.iadd, 1) := by decide +kernel
theorem dX11_redo_44 : decode cX11_redo 44 = .ok (.putfield 84, 3) := by decide +kernel
theorem dX11_redo_47 : decode cX11_redo 47 = .ok (.aload_n 0, 1) := by decide +kernel
theorem dX11_redo_48 : decode cX11_redo 48 = .ok (.getfield 87, 3) := by decide +kernel
theorem dX11_redo_51 : decode cX11_redo 51 = .ok (.aload_n 0, 1) := by decide +kernel
theorem dX11_redo_52 : decode cX11_redo 52 = .ok (.getfield 84, 3) := by decide +kernel
theorem dX11_redo_55 : decode cX11_redo 55 = .ok (.isub, 1) := by decide +kernel
theorem dX11_redo_56 : decode cX11_redo 56 = .ok (.ireturn, 1) := by decide +kernel
def fX11_redo (s : mS) : Option (Int32 × mS) :=
  if (gI s iX_done) = (gI s iX_keptMany) then
    some ((-5), s)
  else
    ldA s aX_changeAt 40 (gI s iX_done) fun v1 =>
    ldA s aX_changeIs 40 (gI s iX_done) fun v2 =>
    stA s aX_may 65 v1 v2 fun s3 =>
    bnd (pI s3 iX_done ((gI s3 iX_done) + (nI 1))) fun s4 =>
    some ((gI s4 iX_keptMany) - (gI s4 iX_done), s4)

set_option maxRecDepth 20000 in
theorem tX11_redo {ρ : mRo} {d : Nat} {P : mPo} {V : mS → List mE} (hV : mView LX V)  {s : mS} {res : (Int32 × mS)} (hf : fX11_redo s = some res) (hP : P (some (.int res.1)) (V res.2)) : mC ρ (d + 1) 141 [.ref qX] (V s) P := by
  refine ⟨_, rfl, Nat.le_of_ble_eq_true rfl, by decide, ?_⟩
  show mG ρ (mC ρ d) 11 1 cX11_redo (some .int) P 0 [(0, .ref qX)] [] (V s)
  unfold fX11_redo at hf
  refine e_aload_n 0 dX11_redo_0 rfl rfl ?_
  refine e_geti hV dX11_redo_1 rfl lx_X rfl ?_
  refine e_aload_n 0 dX11_redo_4 rfl rfl ?_
  refine e_geti hV dX11_redo_5 rfl lx_X rfl ?_
  refine e_icmp_ne 14 dX11_redo_8 (by decide) hf (fun hf => ?_) (fun hf => ?_)
  · refine e_aload_n 0 dX11_redo_14 rfl rfl ?_
    refine e_getr hV dX11_redo_15 rfl lx_X rfl ?_
    refine e_aload_n 0 dX11_redo_18 rfl rfl ?_
    refine e_getr hV dX11_redo_19 rfl lx_X rfl ?_
    refine e_aload_n 0 dX11_redo_22 rfl rfl ?_
    refine e_geti hV dX11_redo_23 rfl lx_X rfl ?_
    refine e_iald hV dX11_redo_26 lx_X_changeAt hf (fun v1 hf => ?_)
    refine e_aload_n 0 dX11_redo_27 rfl rfl ?_
    refine e_getr hV dX11_redo_28 rfl lx_X rfl ?_
    refine e_aload_n 0 dX11_redo_31 rfl rfl ?_
    refine e_geti hV dX11_redo_32 rfl lx_X rfl ?_
    refine e_iald hV dX11_redo_35 lx_X_changeIs hf (fun v2 hf => ?_)
    refine e_iast hV dX11_redo_36 lx_X_may hf (fun s3 hf => ?_)
    refine e_aload_n 0 dX11_redo_37 rfl rfl ?_
    refine e_dup dX11_redo_38 rfl ?_
    refine e_geti hV dX11_redo_39 rfl lx_X rfl ?_
    refine e_iconst (w := (nI 1)) dX11_redo_42 (by decide) ?_
    refine e_iadd dX11_redo_43 ?_
    refine e_puti hV dX11_redo_44 rfl rfl rfl (Or.inl rfl) lx_X rfl hf (fun s4 hf => ?_)
    refine e_aload_n 0 dX11_redo_47 rfl rfl ?_
    refine e_geti hV dX11_redo_48 rfl lx_X rfl ?_
    refine e_aload_n 0 dX11_redo_51 rfl rfl ?_
    refine e_geti hV dX11_redo_52 rfl lx_X rfl ?_
    refine e_isub dX11_redo_55 ?_
    obtain rfl := Option.some.inj hf
    exact e_iret dX11_redo_56 trivial hP
  · refine e_bipush (w := (-5)) dX11_redo_11 (by decide) ?_
    obtain rfl := Option.some.inj hf
    exact e_iret dX11_redo_13 trivial hP

theorem dX11_isMachine_0 : decode cX11_isMachine 0 = .ok (.lload_n 1, 1) := by decide +kernel
theorem dX11_isMachine_1 : decode cX11_isMachine 1 = .ok (.lconst 0, 1) := by decide +kernel
theorem dX11_isMachine_2 : decode cX11_isMachine 2 = .ok (.aload_n 0, 1) := by decide +kernel
theorem dX11_isMachine_3 : decode cX11_isMachine 3 = .ok (.getfield 90, 3) := by decide +kernel
theorem dX11_isMachine_6 : decode cX11_isMachine 6 = .ok (.iconst 1, 1) := by decide +kernel
theorem dX11_isMachine_7 : decode cX11_isMachine 7 = .ok (.isub, 1) := by decide +kernel
theorem dX11_isMachine_8 : decode cX11_isMachine 8 = .ok (.i2l, 1) := by decide +kernel
theorem dX11_isMachine_9 : decode cX11_isMachine 9 = .ok (.invokestatic 93, 3) := by decide +kernel
theorem dX11_isMachine_12 : decode cX11_isMachine 12 = .ok (.ireturn, 1) := by decide +kernel
def fX11_isMachine (x1 : Int64) (s : mS) : Option Int32 :=
  bO (fX11_within x1 0 (Int32.toInt64 ((gI s iX_machines) - (nI 1))) s) fun r1 =>
  rB r1 (some r1)

set_option maxRecDepth 20000 in
theorem tX11_isMachine {ρ : mRo} {d : Nat} {P : mPo} {V : mS → List mE} (hV : mView LX V)  {x1 : Int64} {s : mS} {res : Int32} (hf : fX11_isMachine x1 s = some res) (hP : P (some (.int res)) (V s)) : mC ρ (d + 2) 142 [.ref qX, .long x1] (V s) P := by
  refine ⟨_, rfl, Nat.le_of_ble_eq_true rfl, by decide, ?_⟩
  show mG ρ (mC ρ (d + 1)) 11 3 cX11_isMachine (some .boolean) P 0 [(0, .ref qX), (1, .long x1)] [] (V s)
  unfold fX11_isMachine at hf
  refine e_lload_n 1 dX11_isMachine_0 rfl rfl ?_
  refine e_lconst (w := 0) dX11_isMachine_1 (by decide) ?_
  refine e_aload_n 0 dX11_isMachine_2 rfl rfl ?_
  refine e_geti hV dX11_isMachine_3 rfl lx_X rfl ?_
  refine e_iconst (w := (nI 1)) dX11_isMachine_6 (by decide) ?_
  refine e_isub dX11_isMachine_7 ?_
  refine e_i2l dX11_isMachine_8 ?_
  obtain ⟨r1, hg, hf⟩ := bO_some hf
  refine e_callS (as := [.long x1, .long 0, .long (Int32.toInt64 ((gI s iX_machines) - (nI 1)))]) (v := (some (.int r1))) (s' := s) dX11_isMachine_9 rfl rfl rfl rfl rfl (Nat.le_of_ble_eq_true rfl) (fun Q hQ => tX11_within (d := d) hV  hg hQ) ?_
  obtain ⟨hb0, hf⟩ := rB_some hf
  obtain rfl := Option.some.inj hf
  exact e_iret dX11_isMachine_12 hb0 hP

theorem dX11_isWriter_0 : decode cX11_isWriter 0 = .ok (.lload_n 1, 1) := by decide +kernel
theorem dX11_isWriter_1 : decode cX11_isWriter 1 = .ok (.lconst 0, 1) := by decide +kernel
theorem dX11_isWriter_2 : decode cX11_isWriter 2 = .ok (.aload_n 0, 1) := by decide +kernel
theorem dX11_isWriter_3 : decode cX11_isWriter 3 = .ok (.getfield 97, 3) := by decide +kernel
theorem dX11_isWriter_6 : decode cX11_isWriter 6 = .ok (.iconst 1, 1) := by decide +kernel
theorem dX11_isWriter_7 : decode cX11_isWriter 7 = .ok (.isub, 1) := by decide +kernel
theorem dX11_isWriter_8 : decode cX11_isWriter 8 = .ok (.i2l, 1) := by decide +kernel
theorem dX11_isWriter_9 : decode cX11_isWriter 9 = .ok (.invokestatic 93, 3) := by decide +kernel
theorem dX11_isWriter_12 : decode cX11_isWriter 12 = .ok (.ireturn, 1) := by decide +kernel
def fX11_isWriter (x1 : Int64) (s : mS) : Option Int32 :=
  bO (fX11_within x1 0 (Int32.toInt64 ((gI s iX_writers) - (nI 1))) s) fun r1 =>
  rB r1 (some r1)

set_option maxRecDepth 20000 in
theorem tX11_isWriter {ρ : mRo} {d : Nat} {P : mPo} {V : mS → List mE} (hV : mView LX V)  {x1 : Int64} {s : mS} {res : Int32} (hf : fX11_isWriter x1 s = some res) (hP : P (some (.int res)) (V s)) : mC ρ (d + 2) 143 [.ref qX, .long x1] (V s) P := by
  refine ⟨_, rfl, Nat.le_of_ble_eq_true rfl, by decide, ?_⟩
  show mG ρ (mC ρ (d + 1)) 11 3 cX11_isWriter (some .boolean) P 0 [(0, .ref qX), (1, .long x1)] [] (V s)
  unfold fX11_isWriter at hf
  refine e_lload_n 1 dX11_isWriter_0 rfl rfl ?_
  refine e_lconst (w := 0) dX11_isWriter_1 (by decide) ?_
  refine e_aload_n 0 dX11_isWriter_2 rfl rfl ?_
  refine e_geti hV dX11_isWriter_3 rfl lx_X rfl ?_
  refine e_iconst (w := (nI 1)) dX11_isWriter_6 (by decide) ?_
  refine e_isub dX11_isWriter_7 ?_
  refine e_i2l dX11_isWriter_8 ?_
  obtain ⟨r1, hg, hf⟩ := bO_some hf
  refine e_callS (as := [.long x1, .long 0, .long (Int32.toInt64 ((gI s iX_writers) - (nI 1)))]) (v := (some (.int r1))) (s' := s) dX11_isWriter_9 rfl rfl rfl rfl rfl (Nat.le_of_ble_eq_true rfl) (fun Q hQ => tX11_within (d := d) hV  hg hQ) ?_
  obtain ⟨hb0, hf⟩ := rB_some hf
  obtain rfl := Option.some.inj hf
  exact e_iret dX11_isWriter_12 hb0 hP

theorem dX11_isWm_0 : decode cX11_isWm 0 = .ok (.iload_n 1, 1) := by decide +kernel
theorem dX11_isWm_1 : decode cX11_isWm 1 = .ok (.ifCond .lt 31, 3) := by decide +kernel
theorem dX11_isWm_4 : decode cX11_isWm 4 = .ok (.aload_n 0, 1) := by decide +kernel
theorem dX11_isWm_5 : decode cX11_isWm 5 = .ok (.iload_n 1, 1) := by decide +kernel
theorem dX11_isWm_6 : decode cX11_isWm 6 = .ok (.bipush 10, 2) := by decide +kernel
theorem dX11_isWm_8 : decode cX11_isWm 8 = .ok (.idiv, 1) := by decide +kernel
theorem dX11_isWm_9 : decode cX11_isWm 9 = .ok (.i2l, 1) := by decide +kernel
theorem dX11_isWm_10 : decode cX11_isWm 10 = .ok (.invokevirtual 100, 3) := by decide +kernel
theorem dX11_isWm_13 : decode cX11_isWm 13 = .ok (.ifCond .eq 19, 3) := by decide +kernel
theorem dX11_isWm_16 : decode cX11_isWm 16 = .ok (.aload_n 0, 1) := by decide +kernel
theorem dX11_isWm_17 : decode cX11_isWm 17 = .ok (.iload_n 1, 1) := by decide +kernel
theorem dX11_isWm_18 : decode cX11_isWm 18 = .ok (.bipush 10, 2) := by decide +kernel
theorem dX11_isWm_20 : decode cX11_isWm 20 = .ok (.irem, 1) := by decide +kernel
theorem dX11_isWm_21 : decode cX11_isWm 21 = .ok (.i2l, 1) := by decide +kernel
theorem dX11_isWm_22 : decode cX11_isWm 22 = .ok (.invokevirtual 104, 3) := by decide +kernel
theorem dX11_isWm_25 : decode cX11_isWm 25 = .ok (.ifCond .eq 7, 3) := by decide +kernel
theorem dX11_isWm_28 : decode cX11_isWm 28 = .ok (.iconst 1, 1) := by decide +kernel
theorem dX11_isWm_29 : decode cX11_isWm 29 = .ok (.goto 4, 3) := by decide +kernel
theorem dX11_isWm_32 : decode cX11_isWm 32 = .ok (.iconst 0, 1) := by decide +kernel
theorem dX11_isWm_33 : decode cX11_isWm 33 = .ok (.ireturn, 1) := by decide +kernel
def fX11_isWm (x1 : Int32) (s : mS) : Option Int32 :=
  if x1 < 0 then
    some (nI 0)
  else
    bO (fX11_isWriter (Int32.toInt64 (x1 / (nI 10))) s) fun r1 =>
    if r1 = 0 then
      some (nI 0)
    else
      bO (fX11_isMachine (Int32.toInt64 (x1 - x1 / (nI 10) * (nI 10))) s) fun r2 =>
      if r2 = 0 then
        some (nI 0)
      else
        some (nI 1)

set_option maxRecDepth 20000 in
theorem tX11_isWm {ρ : mRo} {d : Nat} {P : mPo} {V : mS → List mE} (hV : mView LX V)  {x1 : Int32} {s : mS} {res : Int32} (hf : fX11_isWm x1 s = some res) (hP : P (some (.int res)) (V s)) : mC ρ (d + 3) 144 [.ref qX, .int x1] (V s) P := by
  refine ⟨_, rfl, Nat.le_of_ble_eq_true rfl, by decide, ?_⟩
  show mG ρ (mC ρ (d + 2)) 11 2 cX11_isWm (some .boolean) P 0 [(0, .ref qX), (1, .int x1)] [] (V s)
  unfold fX11_isWm at hf
  refine e_iload_n 1 dX11_isWm_0 rfl rfl ?_
  refine e_if_lt 32 dX11_isWm_1 (by decide) hf (fun hf => ?_) (fun hf => ?_)
  · refine e_iconst (w := (nI 0)) dX11_isWm_32 (by decide) ?_
    obtain rfl := Option.some.inj hf
    exact e_iret dX11_isWm_33 (Or.inl rfl) hP
  · refine e_aload_n 0 dX11_isWm_4 rfl rfl ?_
    refine e_iload_n 1 dX11_isWm_5 rfl rfl ?_
    refine e_bipush (w := (nI 10)) dX11_isWm_6 (by decide) ?_
    refine e_idiv dX11_isWm_8 (by decide) ?_
    refine e_i2l dX11_isWm_9 ?_
    obtain ⟨r1, hg, hf⟩ := bO_some hf
    refine e_callV (as := [.long (Int32.toInt64 (x1 / (nI 10)))]) (v := (some (.int r1))) (s' := s) hV dX11_isWm_10 (Or.inl rfl) rfl rfl rfl rfl (Nat.le_of_ble_eq_true rfl) lx_X rfl rfl (fun Q hQ => tX11_isWriter (d := d) hV  hg hQ) ?_
    refine e_if_eq 32 dX11_isWm_13 (by decide) hf (fun hf => ?_) (fun hf => ?_)
    · refine e_iconst (w := (nI 0)) dX11_isWm_32 (by decide) ?_
      obtain rfl := Option.some.inj hf
      exact e_iret dX11_isWm_33 (Or.inl rfl) hP
    · refine e_aload_n 0 dX11_isWm_16 rfl rfl ?_
      refine e_iload_n 1 dX11_isWm_17 rfl rfl ?_
      refine e_bipush (w := (nI 10)) dX11_isWm_18 (by decide) ?_
      refine e_irem dX11_isWm_20 (by decide) ?_
      refine e_i2l dX11_isWm_21 ?_
      obtain ⟨r2, hg, hf⟩ := bO_some hf
      refine e_callV (as := [.long (Int32.toInt64 (x1 - x1 / (nI 10) * (nI 10)))]) (v := (some (.int r2))) (s' := s) hV dX11_isWm_22 (Or.inl rfl) rfl rfl rfl rfl (Nat.le_of_ble_eq_true rfl) lx_X rfl rfl (fun Q hQ => tX11_isMachine (d := d) hV  hg hQ) ?_
      refine e_if_eq 32 dX11_isWm_25 (by decide) hf (fun hf => ?_) (fun hf => ?_)
      · refine e_iconst (w := (nI 0)) dX11_isWm_32 (by decide) ?_
        obtain rfl := Option.some.inj hf
        exact e_iret dX11_isWm_33 (Or.inl rfl) hP
      · refine e_iconst (w := (nI 1)) dX11_isWm_28 (by decide) ?_
        refine e_goto 33 dX11_isWm_29 (by decide) ?_
        obtain rfl := Option.some.inj hf
        exact e_iret dX11_isWm_33 (Or.inr rfl) hP

theorem dX11_addsMachine_0 : decode cX11_addsMachine 0 = .ok (.aload_n 0, 1) := by decide +kernel
theorem dX11_addsMachine_1 : decode cX11_addsMachine 1 = .ok (.getfield 9, 3) := by decide +kernel
theorem dX11_addsMachine_4 : decode cX11_addsMachine 4 = .ok (.iconst 3, 1) := by decide +kernel
theorem dX11_addsMachine_5 : decode cX11_addsMachine 5 = .ok (.aload_n 0, 1) := by decide +kernel
theorem dX11_addsMachine_6 : decode cX11_addsMachine 6 = .ok (.getfield 90, 3) := by decide +kernel
theorem dX11_addsMachine_9 : decode cX11_addsMachine 9 = .ok (.imul, 1) := by decide +kernel
theorem dX11_addsMachine_10 : decode cX11_addsMachine 10 = .ok (.iload_n 1, 1) := by decide +kernel
theorem dX11_addsMachine_11 : decode cX11_addsMachine 11 = .ok (.iastore, 1) := by decide +kernel
theorem dX11_addsMachine_12 : decode cX11_addsMachine 12 = .ok (.aload_n 0, 1) := by decide +kernel
theorem dX11_addsMachine_13 : decode cX11_addsMachine 13 = .ok (.getfield 9, 3) := by decide +kernel
theorem dX11_addsMachine_16 : decode cX11_addsMachine 16 = .ok (.iconst 3, 1) := by decide +kernel
theorem dX11_addsMachine_17 : decode cX11_addsMachine 17 = .ok (.aload_n 0, 1) := by decide +kernel
theorem dX11_addsMachine_18 : decode cX11_addsMachine 18 = .ok (.getfield 90, 3) := by decide +kernel
theorem dX11_addsMachine_21 : decode cX11_addsMachine 21 = .ok (.imul, 1) := by decide +kernel
theorem dX11_addsMachine_22 : decode cX11_addsMachine 22 = .ok (.iconst 1, 1) := by decide +kernel
theorem dX11_addsMachine_23 : decode cX11_addsMachine 23 = .ok (.iadd, 1) := by decide +kernel
theorem dX11_addsMachine_24 : decode cX11_addsMachine 24 = .ok (.iload_n 2, 1) := by decide +kernel
theorem dX11_addsMachine_25 : decode cX11_addsMachine 25 = .ok (.iastore, 1) := by decide +kernel
theorem dX11_addsMachine_26 : decode cX11_addsMachine 26 = .ok (.aload_n 0, 1) := by decide +kernel
theorem dX11_addsMachine_27 : decode cX11_addsMachine 27 = .ok (.getfield 9, 3) := by decide +kernel
theorem dX11_addsMachine_30 : decode cX11_addsMachine 30 = .ok (.iconst 3, 1) := by decide +kernel
theorem dX11_addsMachine_31 : decode cX11_addsMachine 31 = .ok (.aload_n 0, 1) := by decide +kernel
theorem dX11_addsMachine_32 : decode cX11_addsMachine 32 = .ok (.getfield 90, 3) := by decide +kernel
theorem dX11_addsMachine_35 : decode cX11_addsMachine 35 = .ok (.imul, 1) := by decide +kernel
theorem dX11_addsMachine_36 : decode cX11_addsMachine 36 = .ok (.iconst 2, 1) := by decide +kernel
theorem dX11_addsMachine_37 : decode cX11_addsMachine 37 = .ok (.iadd, 1) := by decide +kernel
theorem dX11_addsMachine_38 : decode cX11_addsMachine 38 = .ok (.iload_n 3, 1) := by decide +kernel
theorem dX11_addsMachine_39 : decode cX11_addsMachine 39 = .ok (.iastore, 1) := by decide +kernel
theorem dX11_addsMachine_40 : decode cX11_addsMachine 40 = .ok (.aload_n 0, 1) := by decide +kernel
theorem dX11_addsMachine_41 : decode cX11_addsMachine 41 = .ok (.getfield 9, 3) := by decide +kernel
theorem dX11_addsMachine_44 : decode cX11_addsMachine 44 = .ok (.bipush 24, 2) := by decide +kernel
theorem dX11_addsMachine_46 : decode cX11_addsMachine 46 = .ok (.aload_n 0, 1) := by decide +kernel
theorem dX11_addsMachine_47 : decode cX11_addsMachine 47 = .ok (.getfield 90, 3) := by decide +kernel
theorem dX11_addsMachine_50 : decode cX11_addsMachine 50 = .ok (.iadd, 1) := by decide +kernel
theorem dX11_addsMachine_51 : decode cX11_addsMachine 51 = .ok (.iconst 0, 1) := by decide +kernel
theorem dX11_addsMachine_52 : decode cX11_addsMachine 52 = .ok (.iastore, 1) := by decide +kernel
theorem dX11_addsMachine_53 : decode cX11_addsMachine 53 = .ok (.aload_n 0, 1) := by decide +kernel
theorem dX11_addsMachine_54 : decode cX11_addsMachine 54 = .ok (.dup, 1) := by decide +kernel
theorem dX11_addsMachine_55 : decode cX11_addsMachine 55 = .ok (.getfield 90, 3) := by decide +kernel
theorem dX11_addsMachine_58 : decode cX11_addsMachine 58 = .ok (.iconst 1, 1) := by decide +kernel
theorem dX11_addsMachine_59 : decode cX11_addsMachine 59 = .ok (.iadd, 1) := by decide +kernel
theorem dX11_addsMachine_60 : decode cX11_addsMachine 60 = .ok (.putfield 90, 3) := by decide +kernel
theorem dX11_addsMachine_63 : decode cX11_addsMachine 63 = .ok (.return_, 1) := by decide +kernel
def fX11_addsMachine (x1 : Int32) (x2 : Int32) (x3 : Int32) (s : mS) : Option mS :=
  stA s aX_may 65 ((nI 3) * (gI s iX_machines)) x1 fun s1 =>
  stA s1 aX_may 65 (((nI 3) * (gI s1 iX_machines)) + (nI 1)) x2 fun s2 =>
  stA s2 aX_may 65 (((nI 3) * (gI s2 iX_machines)) + (nI 2)) x3 fun s3 =>
  stA s3 aX_may 65 ((nI 24) + (gI s3 iX_machines)) (nI 0) fun s4 =>
  bnd (pI s4 iX_machines ((gI s4 iX_machines) + (nI 1))) fun s5 =>
  some s5

set_option maxRecDepth 20000 in
theorem tX11_addsMachine {ρ : mRo} {d : Nat} {P : mPo} {V : mS → List mE} (hV : mView LX V)  {x1 : Int32} {x2 : Int32} {x3 : Int32} {s : mS} {res : mS} (hf : fX11_addsMachine x1 x2 x3 s = some res) (hP : P none (V res)) : mC ρ (d + 1) 145 [.ref qX, .int x1, .int x2, .int x3] (V s) P := by
  refine ⟨_, rfl, Nat.le_of_ble_eq_true rfl, by decide, ?_⟩
  show mG ρ (mC ρ d) 11 4 cX11_addsMachine none P 0 [(0, .ref qX), (1, .int x1), (2, .int x2), (3, .int x3)] [] (V s)
  unfold fX11_addsMachine at hf
  refine e_aload_n 0 dX11_addsMachine_0 rfl rfl ?_
  refine e_getr hV dX11_addsMachine_1 rfl lx_X rfl ?_
  refine e_iconst (w := (nI 3)) dX11_addsMachine_4 (by decide) ?_
  refine e_aload_n 0 dX11_addsMachine_5 rfl rfl ?_
  refine e_geti hV dX11_addsMachine_6 rfl lx_X rfl ?_
  refine e_imul dX11_addsMachine_9 ?_
  refine e_iload_n 1 dX11_addsMachine_10 rfl rfl ?_
  refine e_iast hV dX11_addsMachine_11 lx_X_may hf (fun s1 hf => ?_)
  refine e_aload_n 0 dX11_addsMachine_12 rfl rfl ?_
  refine e_getr hV dX11_addsMachine_13 rfl lx_X rfl ?_
  refine e_iconst (w := (nI 3)) dX11_addsMachine_16 (by decide) ?_
  refine e_aload_n 0 dX11_addsMachine_17 rfl rfl ?_
  refine e_geti hV dX11_addsMachine_18 rfl lx_X rfl ?_
  refine e_imul dX11_addsMachine_21 ?_
  refine e_iconst (w := (nI 1)) dX11_addsMachine_22 (by decide) ?_
  refine e_iadd dX11_addsMachine_23 ?_
  refine e_iload_n 2 dX11_addsMachine_24 rfl rfl ?_
  refine e_iast hV dX11_addsMachine_25 lx_X_may hf (fun s2 hf => ?_)
  refine e_aload_n 0 dX11_addsMachine_26 rfl rfl ?_
  refine e_getr hV dX11_addsMachine_27 rfl lx_X rfl ?_
  refine e_iconst (w := (nI 3)) dX11_addsMachine_30 (by decide) ?_
  refine e_aload_n 0 dX11_addsMachine_31 rfl rfl ?_
  refine e_geti hV dX11_addsMachine_32 rfl lx_X rfl ?_
  refine e_imul dX11_addsMachine_35 ?_
  refine e_iconst (w := (nI 2)) dX11_addsMachine_36 (by decide) ?_
  refine e_iadd dX11_addsMachine_37 ?_
  refine e_iload_n 3 dX11_addsMachine_38 rfl rfl ?_
  refine e_iast hV dX11_addsMachine_39 lx_X_may hf (fun s3 hf => ?_)
  refine e_aload_n 0 dX11_addsMachine_40 rfl rfl ?_
  refine e_getr hV dX11_addsMachine_41 rfl lx_X rfl ?_
  refine e_bipush (w := (nI 24)) dX11_addsMachine_44 (by decide) ?_
  refine e_aload_n 0 dX11_addsMachine_46 rfl rfl ?_
  refine e_geti hV dX11_addsMachine_47 rfl lx_X rfl ?_
  refine e_iadd dX11_addsMachine_50 ?_
  refine e_iconst (w := (nI 0)) dX11_addsMachine_51 (by decide) ?_
  refine e_iast hV dX11_addsMachine_52 lx_X_may hf (fun s4 hf => ?_)
  refine e_aload_n 0 dX11_addsMachine_53 rfl rfl ?_
  refine e_dup dX11_addsMachine_54 rfl ?_
  refine e_geti hV dX11_addsMachine_55 rfl lx_X rfl ?_
  refine e_iconst (w := (nI 1)) dX11_addsMachine_58 (by decide) ?_
  refine e_iadd dX11_addsMachine_59 ?_
  refine e_puti hV dX11_addsMachine_60 rfl rfl rfl (Or.inl rfl) lx_X rfl hf (fun s5 hf => ?_)
  obtain rfl := Option.some.inj hf
  exact e_ret dX11_addsMachine_63 rfl hP

theorem dX11_machine_0 : decode cX11_machine 0 = .ok (.aload_n 0, 1) := by decide +kernel
theorem dX11_machine_1 : decode cX11_machine 1 = .ok (.getfield 90, 3) := by decide +kernel
theorem dX11_machine_4 : decode cX11_machine 4 = .ok (.bipush 8, 2) := by decide +kernel
theorem dX11_machine_6 : decode cX11_machine 6 = .ok (.if_icmp .ne 6, 3) := by decide +kernel
theorem dX11_machine_9 : decode cX11_machine 9 = .ok (.bipush (-3), 2) := by decide +kernel
theorem dX11_machine_11 : decode cX11_machine 11 = .ok (.ireturn, 1) := by decide +kernel
theorem dX11_machine_12 : decode cX11_machine 12 = .ok (.aload_n 0, 1) := by decide +kernel
theorem dX11_machine_13 : decode cX11_machine 13 = .ok (.bipush 6, 2) := by decide +kernel
theorem dX11_machine_15 : decode cX11_machine 15 = .ok (.bipush 6, 2) := by decide +kernel
theorem dX11_machine_17 : decode cX11_machine 17 = .ok (.bipush 6, 2) := by decide +kernel
theorem dX11_machine_19 : decode cX11_machine 19 = .ok (.invokevirtual 107, 3) := by decide +kernel
theorem dX11_machine_22 : decode cX11_machine 22 = .ok (.aload_n 0, 1) := by decide +kernel
theorem dX11_machine_23 : decode cX11_machine 23 = .ok (.getfield 90, 3) := by decide +kernel
theorem dX11_machine_26 : decode cX11_machine 26 = .ok (.iconst 1, 1) := by decide +kernel
theorem dX11_machine_27 : decode cX11_machine 27 = .ok (.isub, 1) := by decide +kernel
theorem dX11_machine_28 : decode cX11_machine 28 = .ok (.ireturn, 1) := by decide +kernel
def fX11_machine (s : mS) : Option (Int32 × mS) :=
  if (gI s iX_machines) = (nI 8) then
    some ((-3), s)
  else
    bO (fX11_addsMachine (nI 6) (nI 6) (nI 6) s) fun s1 =>
    some ((gI s1 iX_machines) - (nI 1), s1)

set_option maxRecDepth 20000 in
theorem tX11_machine {ρ : mRo} {d : Nat} {P : mPo} {V : mS → List mE} (hV : mView LX V)  {s : mS} {res : (Int32 × mS)} (hf : fX11_machine s = some res) (hP : P (some (.int res.1)) (V res.2)) : mC ρ (d + 2) 146 [.ref qX] (V s) P := by
  refine ⟨_, rfl, Nat.le_of_ble_eq_true rfl, by decide, ?_⟩
  show mG ρ (mC ρ (d + 1)) 11 1 cX11_machine (some .int) P 0 [(0, .ref qX)] [] (V s)
  unfold fX11_machine at hf
  refine e_aload_n 0 dX11_machine_0 rfl rfl ?_
  refine e_geti hV dX11_machine_1 rfl lx_X rfl ?_
  refine e_bipush (w := (nI 8)) dX11_machine_4 (by decide) ?_
  refine e_icmp_ne 12 dX11_machine_6 (by decide) hf (fun hf => ?_) (fun hf => ?_)
  · refine e_aload_n 0 dX11_machine_12 rfl rfl ?_
    refine e_bipush (w := (nI 6)) dX11_machine_13 (by decide) ?_
    refine e_bipush (w := (nI 6)) dX11_machine_15 (by decide) ?_
    refine e_bipush (w := (nI 6)) dX11_machine_17 (by decide) ?_
    obtain ⟨s1, hg, hf⟩ := bO_some hf
    refine e_callV (as := [.int (nI 6), .int (nI 6), .int (nI 6)]) (v := none) (s' := s1) hV dX11_machine_19 (Or.inl rfl) rfl rfl rfl rfl (Nat.le_of_ble_eq_true rfl) lx_X rfl rfl (fun Q hQ => tX11_addsMachine (d := d) hV  hg hQ) ?_
    refine e_aload_n 0 dX11_machine_22 rfl rfl ?_
    refine e_geti hV dX11_machine_23 rfl lx_X rfl ?_
    refine e_iconst (w := (nI 1)) dX11_machine_26 (by decide) ?_
    refine e_isub dX11_machine_27 ?_
    obtain rfl := Option.some.inj hf
    exact e_iret dX11_machine_28 trivial hP
  · refine e_bipush (w := (-3)) dX11_machine_9 (by decide) ?_
    obtain rfl := Option.some.inj hf
    exact e_iret dX11_machine_11 trivial hP

theorem dX11_isShelf_0 : decode cX11_isShelf 0 = .ok (.iload_n 0, 1) := by decide +kernel
theorem dX11_isShelf_1 : decode cX11_isShelf 1 = .ok (.i2l, 1) := by decide +kernel
theorem dX11_isShelf_2 : decode cX11_isShelf 2 = .ok (.lconst 0, 1) := by decide +kernel
theorem dX11_isShelf_3 : decode cX11_isShelf 3 = .ok (.ldc2_w 315, 3) := by decide +kernel
theorem dX11_isShelf_6 : decode cX11_isShelf 6 = .ok (.invokestatic 93, 3) := by decide +kernel
theorem dX11_isShelf_9 : decode cX11_isShelf 9 = .ok (.ireturn, 1) := by decide +kernel
def fX11_isShelf (x0 : Int32) (s : mS) : Option Int32 :=
  bO (fX11_within (Int32.toInt64 x0) 0 5 s) fun r1 =>
  rB r1 (some r1)

set_option maxRecDepth 20000 in
theorem tX11_isShelf {ρ : mRo} {d : Nat} {P : mPo} {V : mS → List mE} (hV : mView LX V)  {x0 : Int32} {s : mS} {res : Int32} (hf : fX11_isShelf x0 s = some res) (hP : P (some (.int res)) (V s)) : mC ρ (d + 2) 222 [.int x0] (V s) P := by
  refine ⟨_, rfl, Nat.le_of_ble_eq_true rfl, by decide, ?_⟩
  show mG ρ (mC ρ (d + 1)) 11 1 cX11_isShelf (some .boolean) P 0 [(0, .int x0)] [] (V s)
  unfold fX11_isShelf at hf
  refine e_iload_n 0 dX11_isShelf_0 rfl rfl ?_
  refine e_i2l dX11_isShelf_1 ?_
  refine e_lconst (w := 0) dX11_isShelf_2 (by decide) ?_
  refine e_ldc2_w (w := 5) dX11_isShelf_3 rfl ?_
  obtain ⟨r1, hg, hf⟩ := bO_some hf
  refine e_callS (as := [.long (Int32.toInt64 x0), .long 0, .long 5]) (v := (some (.int r1))) (s' := s) dX11_isShelf_6 rfl rfl rfl rfl rfl (Nat.le_of_ble_eq_true rfl) (fun Q hQ => tX11_within (d := d) hV  hg hQ) ?_
  obtain ⟨hb0, hf⟩ := rB_some hf
  obtain rfl := Option.some.inj hf
  exact e_iret dX11_isShelf_9 hb0 hP

theorem dX11_machines_0 : decode cX11_machines 0 = .ok (.iload_n 1, 1) := by decide +kernel
theorem dX11_machines_1 : decode cX11_machines 1 = .ok (.invokestatic 111, 3) := by decide +kernel
theorem dX11_machines_4 : decode cX11_machines 4 = .ok (.ifCond .eq 15, 3) := by decide +kernel
theorem dX11_machines_7 : decode cX11_machines 7 = .ok (.iload_n 3, 1) := by decide +kernel
theorem dX11_machines_8 : decode cX11_machines 8 = .ok (.i2l, 1) := by decide +kernel
theorem dX11_machines_9 : decode cX11_machines 9 = .ok (.lconst 1, 1) := by decide +kernel
theorem dX11_machines_10 : decode cX11_machines 10 = .ok (.ldc2_w 115, 3) := by decide +kernel
theorem dX11_machines_13 : decode cX11_machines 13 = .ok (.invokestatic 93, 3) := by decide +kernel
theorem dX11_machines_16 : decode cX11_machines 16 = .ok (.ifCond .ne 5, 3) := by decide +kernel
theorem dX11_machines_19 : decode cX11_machines 19 = .ok (.iconst (-1), 1) := by decide +kernel
theorem dX11_machines_20 : decode cX11_machines 20 = .ok (.ireturn, 1) := by decide +kernel
theorem dX11_machines_21 : decode cX11_machines 21 = .ok (.aload_n 0, 1) := by decide +kernel
theorem dX11_machines_22 : decode cX11_machines 22 = .ok (.getfield 68, 3) := by decide +kernel
theorem dX11_machines_25 : decode cX11_machines 25 = .ok (.iload_n 1, 1) := by decide +kernel
theorem dX11_machines_26 : decode cX11_machines 26 = .ok (.iaload, 1) := by decide +kernel
theorem dX11_machines_27 : decode cX11_machines 27 = .ok (.ifCond .lt 17, 3) := by decide +kernel
theorem dX11_machines_30 : decode cX11_machines 30 = .ok (.aload_n 0, 1) := by decide +kernel
theorem dX11_machines_31 : decode cX11_machines 31 = .ok (.getfield 68, 3) := by decide +kernel
theorem dX11_machines_34 : decode cX11_machines 34 = .ok (.iload_n 1, 1) := by decide +kernel
theorem dX11_machines_35 : decode cX11_machines 35 = .ok (.iaload, 1) := by decide +kernel
theorem dX11_machines_36 : decode cX11_machines 36 = .ok (.bipush 50, 2) := by decide +kernel
theorem dX11_machines_38 : decode cX11_machines 38 = .ok (.if_icmp .eq 6, 3) := by decide +kernel
theorem dX11_machines_41 : decode cX11_machines 41 = .ok (.bipush (-12), 2) := by decide +kernel
theorem dX11_machines_43 : decode cX11_machines 43 = .ok (.ireturn, 1) := by decide +kernel
theorem dX11_machines_44 : decode cX11_machines 44 = .ok (.iconst 0, 1) := by decide +kernel
theorem dX11_machines_45 : decode cX11_machines 45 = .ok (.istore 4, 2) := by decide +kernel
theorem dX11_machines_47 : decode cX11_machines 47 = .ok (.aload_n 0, 1) := by decide +kernel
theorem dX11_machines_48 : decode cX11_machines 48 = .ok (.getfield 68, 3) := by decide +kernel
theorem dX11_machines_51 : decode cX11_machines 51 = .ok (.iload_n 1, 1) := by decide +kernel
theorem dX11_machines_52 : decode cX11_machines 52 = .ok (.iaload, 1) := by decide +kernel
theorem dX11_machines_53 : decode cX11_machines 53 = .ok (.bipush 50, 2) := by decide +kernel
theorem dX11_machines_55 : decode cX11_machines 55 = .ok (.if_icmp .ne 11, 3) := by decide +kernel
theorem dX11_machines_58 : decode cX11_machines 58 = .ok (.iload_n 2, 1) := by decide +kernel
theorem dX11_machines_59 : decode cX11_machines 59 = .ok (.ifCond .lt 7, 3) := by decide +kernel
theorem dX11_machines_62 : decode cX11_machines 62 = .ok (.iconst 1, 1) := by decide +kernel
theorem dX11_machines_63 : decode cX11_machines 63 = .ok (.goto 4, 3) := by decide +kernel
theorem dX11_machines_66 : decode cX11_machines 66 = .ok (.iconst 0, 1) := by decide +kernel
theorem dX11_machines_67 : decode cX11_machines 67 = .ok (.istore 5, 2) := by decide +kernel
theorem dX11_machines_69 : decode cX11_machines 69 = .ok (.iload 5, 2) := by decide +kernel
theorem dX11_machines_71 : decode cX11_machines 71 = .ok (.ifCond .eq 165, 3) := by decide +kernel
theorem dX11_machines_74 : decode cX11_machines 74 = .ok (.iload 4, 2) := by decide +kernel
theorem dX11_machines_76 : decode cX11_machines 76 = .ok (.iload_n 3, 1) := by decide +kernel
theorem dX11_machines_77 : decode cX11_machines 77 = .ok (.if_icmp .ge 159, 3) := by decide +kernel
theorem dX11_machines_80 : decode cX11_machines 80 = .ok (.iload_n 2, 1) := by decide +kernel
theorem dX11_machines_81 : decode cX11_machines 81 = .ok (.aload_n 0, 1) := by decide +kernel
theorem dX11_machines_82 : decode cX11_machines 82 = .ok (.getfield 71, 3) := by decide +kernel
theorem dX11_machines_85 : decode cX11_machines 85 = .ok (.iload_n 1, 1) := by decide +kernel
theorem dX11_machines_86 : decode cX11_machines 86 = .ok (.iaload, 1) := by decide +kernel
theorem dX11_machines_87 : decode cX11_machines 87 = .ok (.iconst 3, 1) := by decide +kernel
theorem dX11_machines_88 : decode cX11_machines 88 = .ok (.isub, 1) := by decide +kernel
theorem dX11_machines_89 : decode cX11_machines 89 = .ok (.iconst 3, 1) := by decide +kernel
theorem dX11_machines_90 : decode cX11_machines 90 = .ok (.iload 4, 2) := by decide +kernel
theorem dX11_machines_92 : decode cX11_machines 92 = .ok (.imul, 1) := by decide +kernel
theorem dX11_machines_93 : decode cX11_machines 93 = .ok (.isub, 1) := by decide +kernel
theorem dX11_machines_94 : decode cX11_machines 94 = .ok (.if_icmp .gt 16, 3) := by decide +kernel
theorem dX11_machines_97 : decode cX11_machines 97 = .ok (.aload_n 0, 1) := by decide +kernel
theorem dX11_machines_98 : decode cX11_machines 98 = .ok (.getfield 90, 3) := by decide +kernel
theorem dX11_machines_101 : decode cX11_machines 101 = .ok (.bipush 8, 2) := by decide +kernel
theorem dX11_machines_103 : decode cX11_machines 103 = .ok (.if_icmp .ge 7, 3) := by decide +kernel
theorem dX11_machines_106 : decode cX11_machines 106 = .ok (.iconst 1, 1) := by decide +kernel
theorem dX11_machines_107 : decode cX11_machines 107 = .ok (.goto 4, 3) := by decide +kernel
theorem dX11_machines_110 : decode cX11_machines 110 = .ok (.iconst 0, 1) := by decide +kernel
theorem dX11_machines_111 : decode cX11_machines 111 = .ok (.istore 5, 2) := by decide +kernel
theorem dX11_machines_113 : decode cX11_machines 113 = .ok (.bipush 60, 2) := by decide +kernel
theorem dX11_machines_115 : decode cX11_machines 115 = .ok (.iload_n 1, 1) := by decide +kernel
theorem dX11_machines_116 : decode cX11_machines 116 = .ok (.imul, 1) := by decide +kernel
theorem dX11_machines_117 : decode cX11_machines 117 = .ok (.iload_n 2, 1) := by decide +kernel
theorem dX11_machines_118 : decode cX11_machines 118 = .ok (.iadd, 1) := by decide +kernel
theorem dX11_machines_119 : decode cX11_machines 119 = .ok (.iconst 3, 1) := by decide +kernel
theorem dX11_machines_120 : decode cX11_machines 120 = .ok (.iload 4, 2) := by decide +kernel
theorem dX11_machines_122 : decode cX11_machines 122 = .ok (.imul, 1) := by decide +kernel
theorem dX11_machines_123 : decode cX11_machines 123 = .ok (.iadd, 1) := by decide +kernel
theorem dX11_machines_124 : decode cX11_machines 124 = .ok (.istore 6, 2) := by decide +kernel
theorem dX11_machines_126 : decode cX11_machines 126 = .ok (.iload 5, 2) := by decide +kernel
theorem dX11_machines_128 : decode cX11_machines 128 = .ok (.ifCond .eq 62, 3) := by decide +kernel
theorem dX11_machines_131 : decode cX11_machines 131 = .ok (.aload_n 0, 1) := by decide +kernel
theorem dX11_machines_132 : decode cX11_machines 132 = .ok (.getfield 74, 3) := by decide +kernel
theorem dX11_machines_135 : decode cX11_machines 135 = .ok (.iload 6, 2) := by decide +kernel
theorem dX11_machines_137 : decode cX11_machines 137 = .ok (.laload, 1) := by decide +kernel
theorem dX11_machines_138 : decode cX11_machines 138 = .ok (.lconst 0, 1) := by decide +kernel
theorem dX11_machines_139 : decode cX11_machines 139 = .ok (.ldc2_w 117, 3) := by decide +kernel
theorem dX11_machines_142 : decode cX11_machines 142 = .ok (.invokestatic 93, 3) := by decide +kernel
theorem dX11_machines_145 : decode cX11_machines 145 = .ok (.ifCond .eq 45, 3) := by decide +kernel
theorem dX11_machines_148 : decode cX11_machines 148 = .ok (.aload_n 0, 1) := by decide +kernel
theorem dX11_machines_149 : decode cX11_machines 149 = .ok (.getfield 74, 3) := by decide +kernel
theorem dX11_machines_152 : decode cX11_machines 152 = .ok (.iload 6, 2) := by decide +kernel
theorem dX11_machines_154 : decode cX11_machines 154 = .ok (.iconst 1, 1) := by decide +kernel
theorem dX11_machines_155 : decode cX11_machines 155 = .ok (.iadd, 1) := by decide +kernel
theorem dX11_machines_156 : decode cX11_machines 156 = .ok (.laload, 1) := by decide +kernel
theorem dX11_machines_157 : decode cX11_machines 157 = .ok (.lconst 0, 1) := by decide +kernel
theorem dX11_machines_158 : decode cX11_machines 158 = .ok (.ldc2_w 117, 3) := by decide +kernel
theorem dX11_machines_161 : decode cX11_machines 161 = .ok (.invokestatic 93, 3) := by decide +kernel
theorem dX11_machines_164 : decode cX11_machines 164 = .ok (.ifCond .eq 26, 3) := by decide +kernel
theorem dX11_machines_167 : decode cX11_machines 167 = .ok (.aload_n 0, 1) := by decide +kernel
theorem dX11_machines_168 : decode cX11_machines 168 = .ok (.getfield 74, 3) := by decide +kernel
theorem dX11_machines_171 : decode cX11_machines 171 = .ok (.iload 6, 2) := by decide +kernel
theorem dX11_machines_173 : decode cX11_machines 173 = .ok (.iconst 2, 1) := by decide +kernel
theorem dX11_machines_174 : decode cX11_machines 174 = .ok (.iadd, 1) := by decide +kernel
theorem dX11_machines_175 : decode cX11_machines 175 = .ok (.laload, 1) := by decide +kernel
theorem dX11_machines_176 : decode cX11_machines 176 = .ok (.lconst 0, 1) := by decide +kernel
theorem dX11_machines_177 : decode cX11_machines 177 = .ok (.ldc2_w 117, 3) := by decide +kernel
theorem dX11_machines_180 : decode cX11_machines 180 = .ok (.invokestatic 93, 3) := by decide +kernel
theorem dX11_machines_183 : decode cX11_machines 183 = .ok (.ifCond .eq 7, 3) := by decide +kernel
theorem dX11_machines_186 : decode cX11_machines 186 = .ok (.iconst 1, 1) := by decide +kernel
theorem dX11_machines_187 : decode cX11_machines 187 = .ok (.goto 4, 3) := by decide +kernel
theorem dX11_machines_190 : decode cX11_machines 190 = .ok (.iconst 0, 1) := by decide +kernel
theorem dX11_machines_191 : decode cX11_machines 191 = .ok (.istore 5, 2) := by decide +kernel
theorem dX11_machines_193 : decode cX11_machines 193 = .ok (.iload 5, 2) := by decide +kernel
theorem dX11_machines_195 : decode cX11_machines 195 = .ok (.ifCond .eq 38, 3) := by decide +kernel
theorem dX11_machines_198 : decode cX11_machines 198 = .ok (.aload_n 0, 1) := by decide +kernel
theorem dX11_machines_199 : decode cX11_machines 199 = .ok (.aload_n 0, 1) := by decide +kernel
theorem dX11_machines_200 : decode cX11_machines 200 = .ok (.getfield 74, 3) := by decide +kernel
theorem dX11_machines_203 : decode cX11_machines 203 = .ok (.iload 6, 2) := by decide +kernel
theorem dX11_machines_205 : decode cX11_machines 205 = .ok (.laload, 1) := by decide +kernel
theorem dX11_machines_206 : decode cX11_machines 206 = .ok (.l2i, 1) := by decide +kernel
theorem dX11_machines_207 : decode cX11_machines 207 = .ok (.aload_n 0, 1) := by decide +kernel
theorem dX11_machines_208 : decode cX11_machines 208 = .ok (.getfield 74, 3) := by decide +kernel
theorem dX11_machines_211 : decode cX11_machines 211 = .ok (.iload 6, 2) := by decide +kernel
theorem dX11_machines_213 : decode cX11_machines 213 = .ok (.iconst 1, 1) := by decide +kernel
theorem dX11_machines_214 : decode cX11_machines 214 = .ok (.iadd, 1) := by decide +kernel
theorem dX11_machines_215 : decode cX11_machines 215 = .ok (.laload, 1) := by decide +kernel
theorem dX11_machines_216 : decode cX11_machines 216 = .ok (.l2i, 1) := by decide +kernel
theorem dX11_machines_217 : decode cX11_machines 217 = .ok (.aload_n 0, 1) := by decide +kernel
theorem dX11_machines_218 : decode cX11_machines 218 = .ok (.getfield 74, 3) := by decide +kernel
theorem dX11_machines_221 : decode cX11_machines 221 = .ok (.iload 6, 2) := by decide +kernel
theorem dX11_machines_223 : decode cX11_machines 223 = .ok (.iconst 2, 1) := by decide +kernel
theorem dX11_machines_224 : decode cX11_machines 224 = .ok (.iadd, 1) := by decide +kernel
theorem dX11_machines_225 : decode cX11_machines 225 = .ok (.laload, 1) := by decide +kernel
theorem dX11_machines_226 : decode cX11_machines 226 = .ok (.l2i, 1) := by decide +kernel
theorem dX11_machines_227 : decode cX11_machines 227 = .ok (.invokevirtual 107, 3) := by decide +kernel
theorem dX11_machines_230 : decode cX11_machines 230 = .ok (.iinc 4 1, 3) := by decide +kernel
theorem dX11_machines_233 : decode cX11_machines 233 = .ok (.goto (-164), 3) := by decide +kernel
theorem dX11_machines_236 : decode cX11_machines 236 = .ok (.iload 4, 2) := by decide +kernel
theorem dX11_machines_238 : decode cX11_machines 238 = .ok (.ireturn, 1) := by decide +kernel
def fX11_machines_b233 (K69 : Int32 → Int32 → Int32 → Int32 → Int32 → mS → Option (Int32 × mS)) (y1 : Int32) (y2 : Int32) (y3 : Int32) (y4 : Int32) (y5 : Int32) (s : mS) : Option (Int32 × mS) :=
  K69 y1 y2 y3 y4 y5 s

def fX11_machines_b191 (K69 : Int32 → Int32 → Int32 → Int32 → Int32 → mS → Option (Int32 × mS)) (y1 : Int32) (y2 : Int32) (y3 : Int32) (y4 : Int32) (y6 : Int32) (z0 : Int32) (s : mS) : Option (Int32 × mS) :=
  bnd z0 fun v10 =>
  if v10 = 0 then
    fX11_machines_b233 K69 y1 y2 y3 y4 v10 s
  else
    ldL s lX_items 360 y6 fun v11 =>
    ldL s lX_items 360 (y6 + (nI 1)) fun v12 =>
    ldL s lX_items 360 (y6 + (nI 2)) fun v13 =>
    bO (fX11_addsMachine (Int64.toInt32 v11) (Int64.toInt32 v12) (Int64.toInt32 v13) s) fun s14 =>
    bnd (y4 + (nI 1)) fun v15 =>
    fX11_machines_b233 K69 y1 y2 y3 v15 v10 s14

def fX11_machines_b190 (K69 : Int32 → Int32 → Int32 → Int32 → Int32 → mS → Option (Int32 × mS)) (y1 : Int32) (y2 : Int32) (y3 : Int32) (y4 : Int32) (y6 : Int32) (s : mS) : Option (Int32 × mS) :=
  fX11_machines_b191 K69 y1 y2 y3 y4 y6 (nI 0) s

def fX11_machines_b111 (K69 : Int32 → Int32 → Int32 → Int32 → Int32 → mS → Option (Int32 × mS)) (y1 : Int32) (y2 : Int32) (y3 : Int32) (y4 : Int32) (z0 : Int32) (s : mS) : Option (Int32 × mS) :=
  bnd z0 fun v8 =>
  bnd ((((nI 60) * y1) + y2) + ((nI 3) * y4)) fun v9 =>
  if v8 = 0 then
    fX11_machines_b190 K69 y1 y2 y3 y4 v9 s
  else
    ldL s lX_items 360 v9 fun v16 =>
    bO (fX11_within v16 0 12 s) fun r17 =>
    if r17 = 0 then
      fX11_machines_b190 K69 y1 y2 y3 y4 v9 s
    else
      ldL s lX_items 360 (v9 + (nI 1)) fun v18 =>
      bO (fX11_within v18 0 12 s) fun r19 =>
      if r19 = 0 then
        fX11_machines_b190 K69 y1 y2 y3 y4 v9 s
      else
        ldL s lX_items 360 (v9 + (nI 2)) fun v20 =>
        bO (fX11_within v20 0 12 s) fun r21 =>
        if r21 = 0 then
          fX11_machines_b190 K69 y1 y2 y3 y4 v9 s
        else
          fX11_machines_b191 K69 y1 y2 y3 y4 v9 (nI 1) s

def fX11_machines_b110 (K69 : Int32 → Int32 → Int32 → Int32 → Int32 → mS → Option (Int32 × mS)) (y1 : Int32) (y2 : Int32) (y3 : Int32) (y4 : Int32) (s : mS) : Option (Int32 × mS) :=
  fX11_machines_b111 K69 y1 y2 y3 y4 (nI 0) s

def fX11_machines_b69 : Nat → Int32 → Int32 → Int32 → Int32 → Int32 → mS → Option (Int32 × mS)
  | 0, _, _, _, _, _, _ => none
  | k + 1, y1, y2, y3, y4, y5, s =>
    if y5 = 0 then
      some (y4, s)
    else
      if y3 ≤ y4 then
        some (y4, s)
      else
        ldA s aX_many 6 y1 fun v7 =>
        if ((v7 - (nI 3)) - ((nI 3) * y4)) < y2 then
          fX11_machines_b110 (fun u0 u1 u2 u3 u4 u5 => fX11_machines_b69 k u0 u1 u2 u3 u4 u5) y1 y2 y3 y4 s
        else
          if (nI 8) ≤ (gI s iX_machines) then
            fX11_machines_b110 (fun u0 u1 u2 u3 u4 u5 => fX11_machines_b69 k u0 u1 u2 u3 u4 u5) y1 y2 y3 y4 s
          else
            fX11_machines_b111 (fun u0 u1 u2 u3 u4 u5 => fX11_machines_b69 k u0 u1 u2 u3 u4 u5) y1 y2 y3 y4 (nI 1) s

def fX11_machines_b67 (y1 : Int32) (y2 : Int32) (y3 : Int32) (y4 : Int32) (z0 : Int32) (s : mS) : Option (Int32 × mS) :=
  bnd z0 fun v6 =>
  fX11_machines_b69 mFu y1 y2 y3 y4 v6 s

def fX11_machines_b66 (y1 : Int32) (y2 : Int32) (y3 : Int32) (y4 : Int32) (s : mS) : Option (Int32 × mS) :=
  fX11_machines_b67 y1 y2 y3 y4 (nI 0) s

def fX11_machines_b44 (y1 : Int32) (y2 : Int32) (y3 : Int32) (s : mS) : Option (Int32 × mS) :=
  bnd (nI 0) fun v4 =>
  ldA s aX_shelf 6 y1 fun v5 =>
  if v5 = (nI 50) then
    if y2 < 0 then
      fX11_machines_b66 y1 y2 y3 v4 s
    else
      fX11_machines_b67 y1 y2 y3 v4 (nI 1) s
  else
    fX11_machines_b66 y1 y2 y3 v4 s

def fX11_machines (x1 : Int32) (x2 : Int32) (x3 : Int32) (s : mS) : Option (Int32 × mS) :=
  bO (fX11_isShelf x1 s) fun r1 =>
  if r1 = 0 then
    some ((-1), s)
  else
    bO (fX11_within (Int32.toInt64 x3) 1 8 s) fun r2 =>
    if r2 = 0 then
      some ((-1), s)
    else
      ldA s aX_shelf 6 x1 fun v3 =>
      if v3 < 0 then
        fX11_machines_b44 x1 x2 x3 s
      else
        ldA s aX_shelf 6 x1 fun v22 =>
        if v22 = (nI 50) then
          fX11_machines_b44 x1 x2 x3 s
        else
          some ((-12), s)

set_option maxRecDepth 20000 in
theorem wX11_machines_b233 {ρ : mRo} {d : Nat} {P : mPo} {V : mS → List mE} (hV : mView LX V)  {res : (Int32 × mS)} {K69 : Int32 → Int32 → Int32 → Int32 → Int32 → mS → Option (Int32 × mS)} (hK69 : ∀ (y1 : Int32) (y2 : Int32) (y3 : Int32) (y4 : Int32) (y5 : Int32) (s : mS), K69 y1 y2 y3 y4 y5 s = some res → mG ρ (mC ρ (d + 2)) 11 7 cX11_machines (some .int) P 69 [(0, .ref qX), (1, .int y1), (2, .int y2), (3, .int y3), (4, .int y4), (5, .int y5)] [] (V s)) (hP : P (some (.int res.1)) (V res.2)) (y1 : Int32) (y2 : Int32) (y3 : Int32) (y4 : Int32) (y5 : Int32) (s : mS) (hf : fX11_machines_b233 K69 y1 y2 y3 y4 y5 s = some res) : mG ρ (mC ρ (d + 2)) 11 7 cX11_machines (some .int) P 233 [(0, .ref qX), (1, .int y1), (2, .int y2), (3, .int y3), (4, .int y4), (5, .int y5)] [] (V s) := by
  unfold fX11_machines_b233 at hf
  refine e_goto 69 dX11_machines_233 (by decide) ?_
  refine e_pick [0, 1, 2, 3, 4, 5] rfl ?_
  exact hK69 y1 y2 y3 y4 y5 s hf
set_option maxRecDepth 20000 in
theorem wX11_machines_b191 {ρ : mRo} {d : Nat} {P : mPo} {V : mS → List mE} (hV : mView LX V)  {res : (Int32 × mS)} {K69 : Int32 → Int32 → Int32 → Int32 → Int32 → mS → Option (Int32 × mS)} (hK69 : ∀ (y1 : Int32) (y2 : Int32) (y3 : Int32) (y4 : Int32) (y5 : Int32) (s : mS), K69 y1 y2 y3 y4 y5 s = some res → mG ρ (mC ρ (d + 2)) 11 7 cX11_machines (some .int) P 69 [(0, .ref qX), (1, .int y1), (2, .int y2), (3, .int y3), (4, .int y4), (5, .int y5)] [] (V s)) (hP : P (some (.int res.1)) (V res.2)) (y1 : Int32) (y2 : Int32) (y3 : Int32) (y4 : Int32) (y6 : Int32) (z0 : Int32) (s : mS) (hf : fX11_machines_b191 K69 y1 y2 y3 y4 y6 z0 s = some res) : mG ρ (mC ρ (d + 2)) 11 7 cX11_machines (some .int) P 191 [(0, .ref qX), (1, .int y1), (2, .int y2), (3, .int y3), (4, .int y4), (6, .int y6)] [.int z0] (V s) := by
  unfold fX11_machines_b191 at hf
  refine e_istore dX11_machines_191 (by decide) hf (fun v10 hf => ?_)
  refine e_iload 0 dX11_machines_193 rfl ?_
  refine e_if_eq 233 dX11_machines_195 (by decide) hf (fun hf => ?_) (fun hf => ?_)
  · refine e_pick [1, 2, 3, 4, 5, 0] rfl ?_
    exact wX11_machines_b233 hV hK69 hP y1 y2 y3 y4 v10 s hf
  · refine e_aload_n 1 dX11_machines_198 rfl rfl ?_
    refine e_aload_n 1 dX11_machines_199 rfl rfl ?_
    refine e_getr hV dX11_machines_200 rfl lx_X rfl ?_
    refine e_iload 6 dX11_machines_203 rfl ?_
    refine e_lald hV dX11_machines_205 lx_X_items hf (fun v11 hf => ?_)
    refine e_l2i dX11_machines_206 ?_
    refine e_aload_n 1 dX11_machines_207 rfl rfl ?_
    refine e_getr hV dX11_machines_208 rfl lx_X rfl ?_
    refine e_iload 6 dX11_machines_211 rfl ?_
    refine e_iconst (w := (nI 1)) dX11_machines_213 (by decide) ?_
    refine e_iadd dX11_machines_214 ?_
    refine e_lald hV dX11_machines_215 lx_X_items hf (fun v12 hf => ?_)
    refine e_l2i dX11_machines_216 ?_
    refine e_aload_n 1 dX11_machines_217 rfl rfl ?_
    refine e_getr hV dX11_machines_218 rfl lx_X rfl ?_
    refine e_iload 6 dX11_machines_221 rfl ?_
    refine e_iconst (w := (nI 2)) dX11_machines_223 (by decide) ?_
    refine e_iadd dX11_machines_224 ?_
    refine e_lald hV dX11_machines_225 lx_X_items hf (fun v13 hf => ?_)
    refine e_l2i dX11_machines_226 ?_
    obtain ⟨s14, hg, hf⟩ := bO_some hf
    refine e_callV (as := [.int (Int64.toInt32 v11), .int (Int64.toInt32 v12), .int (Int64.toInt32 v13)]) (v := none) (s' := s14) hV dX11_machines_227 (Or.inl rfl) rfl rfl rfl rfl (Nat.le_of_ble_eq_true rfl) lx_X rfl rfl (fun Q hQ => tX11_addsMachine (d := (d + 1)) hV  hg hQ) ?_
    refine e_iinc 5 dX11_machines_230 (by decide) rfl hf (fun v15 hf => ?_)
    refine e_pick [2, 3, 4, 5, 0, 1] rfl ?_
    exact wX11_machines_b233 hV hK69 hP y1 y2 y3 v15 v10 s14 hf
set_option maxRecDepth 20000 in
theorem wX11_machines_b190 {ρ : mRo} {d : Nat} {P : mPo} {V : mS → List mE} (hV : mView LX V)  {res : (Int32 × mS)} {K69 : Int32 → Int32 → Int32 → Int32 → Int32 → mS → Option (Int32 × mS)} (hK69 : ∀ (y1 : Int32) (y2 : Int32) (y3 : Int32) (y4 : Int32) (y5 : Int32) (s : mS), K69 y1 y2 y3 y4 y5 s = some res → mG ρ (mC ρ (d + 2)) 11 7 cX11_machines (some .int) P 69 [(0, .ref qX), (1, .int y1), (2, .int y2), (3, .int y3), (4, .int y4), (5, .int y5)] [] (V s)) (hP : P (some (.int res.1)) (V res.2)) (y1 : Int32) (y2 : Int32) (y3 : Int32) (y4 : Int32) (y6 : Int32) (s : mS) (hf : fX11_machines_b190 K69 y1 y2 y3 y4 y6 s = some res) : mG ρ (mC ρ (d + 2)) 11 7 cX11_machines (some .int) P 190 [(0, .ref qX), (1, .int y1), (2, .int y2), (3, .int y3), (4, .int y4), (6, .int y6)] [] (V s) := by
  unfold fX11_machines_b190 at hf
  refine e_iconst (w := (nI 0)) dX11_machines_190 (by decide) ?_
  refine e_pick [0, 1, 2, 3, 4, 5] rfl ?_
  exact wX11_machines_b191 hV hK69 hP y1 y2 y3 y4 y6 (nI 0) s hf
set_option maxRecDepth 20000 in
theorem wX11_machines_b111 {ρ : mRo} {d : Nat} {P : mPo} {V : mS → List mE} (hV : mView LX V)  {res : (Int32 × mS)} {K69 : Int32 → Int32 → Int32 → Int32 → Int32 → mS → Option (Int32 × mS)} (hK69 : ∀ (y1 : Int32) (y2 : Int32) (y3 : Int32) (y4 : Int32) (y5 : Int32) (s : mS), K69 y1 y2 y3 y4 y5 s = some res → mG ρ (mC ρ (d + 2)) 11 7 cX11_machines (some .int) P 69 [(0, .ref qX), (1, .int y1), (2, .int y2), (3, .int y3), (4, .int y4), (5, .int y5)] [] (V s)) (hP : P (some (.int res.1)) (V res.2)) (y1 : Int32) (y2 : Int32) (y3 : Int32) (y4 : Int32) (z0 : Int32) (s : mS) (hf : fX11_machines_b111 K69 y1 y2 y3 y4 z0 s = some res) : mG ρ (mC ρ (d + 2)) 11 7 cX11_machines (some .int) P 111 [(0, .ref qX), (1, .int y1), (2, .int y2), (3, .int y3), (4, .int y4)] [.int z0] (V s) := by
  unfold fX11_machines_b111 at hf
  refine e_istore dX11_machines_111 (by decide) hf (fun v8 hf => ?_)
  refine e_bipush (w := (nI 60)) dX11_machines_113 (by decide) ?_
  refine e_iload_n 2 dX11_machines_115 rfl rfl ?_
  refine e_imul dX11_machines_116 ?_
  refine e_iload_n 3 dX11_machines_117 rfl rfl ?_
  refine e_iadd dX11_machines_118 ?_
  refine e_iconst (w := (nI 3)) dX11_machines_119 (by decide) ?_
  refine e_iload 5 dX11_machines_120 rfl ?_
  refine e_imul dX11_machines_122 ?_
  refine e_iadd dX11_machines_123 ?_
  refine e_istore dX11_machines_124 (by decide) hf (fun v9 hf => ?_)
  refine e_iload 1 dX11_machines_126 rfl ?_
  refine e_if_eq 190 dX11_machines_128 (by decide) hf (fun hf => ?_) (fun hf => ?_)
  · refine e_pick [2, 3, 4, 5, 6, 0] rfl ?_
    exact wX11_machines_b190 hV hK69 hP y1 y2 y3 y4 v9 s hf
  · refine e_aload_n 2 dX11_machines_131 rfl rfl ?_
    refine e_getr hV dX11_machines_132 rfl lx_X rfl ?_
    refine e_iload 0 dX11_machines_135 rfl ?_
    refine e_lald hV dX11_machines_137 lx_X_items hf (fun v16 hf => ?_)
    refine e_lconst (w := 0) dX11_machines_138 (by decide) ?_
    refine e_ldc2_w (w := 12) dX11_machines_139 rfl ?_
    obtain ⟨r17, hg, hf⟩ := bO_some hf
    refine e_callS (as := [.long v16, .long 0, .long 12]) (v := (some (.int r17))) (s' := s) dX11_machines_142 rfl rfl rfl rfl rfl (Nat.le_of_ble_eq_true rfl) (fun Q hQ => tX11_within (d := (d + 1)) hV  hg hQ) ?_
    refine e_if_eq 190 dX11_machines_145 (by decide) hf (fun hf => ?_) (fun hf => ?_)
    · refine e_pick [2, 3, 4, 5, 6, 0] rfl ?_
      exact wX11_machines_b190 hV hK69 hP y1 y2 y3 y4 v9 s hf
    · refine e_aload_n 2 dX11_machines_148 rfl rfl ?_
      refine e_getr hV dX11_machines_149 rfl lx_X rfl ?_
      refine e_iload 0 dX11_machines_152 rfl ?_
      refine e_iconst (w := (nI 1)) dX11_machines_154 (by decide) ?_
      refine e_iadd dX11_machines_155 ?_
      refine e_lald hV dX11_machines_156 lx_X_items hf (fun v18 hf => ?_)
      refine e_lconst (w := 0) dX11_machines_157 (by decide) ?_
      refine e_ldc2_w (w := 12) dX11_machines_158 rfl ?_
      obtain ⟨r19, hg, hf⟩ := bO_some hf
      refine e_callS (as := [.long v18, .long 0, .long 12]) (v := (some (.int r19))) (s' := s) dX11_machines_161 rfl rfl rfl rfl rfl (Nat.le_of_ble_eq_true rfl) (fun Q hQ => tX11_within (d := (d + 1)) hV  hg hQ) ?_
      refine e_if_eq 190 dX11_machines_164 (by decide) hf (fun hf => ?_) (fun hf => ?_)
      · refine e_pick [2, 3, 4, 5, 6, 0] rfl ?_
        exact wX11_machines_b190 hV hK69 hP y1 y2 y3 y4 v9 s hf
      · refine e_aload_n 2 dX11_machines_167 rfl rfl ?_
        refine e_getr hV dX11_machines_168 rfl lx_X rfl ?_
        refine e_iload 0 dX11_machines_171 rfl ?_
        refine e_iconst (w := (nI 2)) dX11_machines_173 (by decide) ?_
        refine e_iadd dX11_machines_174 ?_
        refine e_lald hV dX11_machines_175 lx_X_items hf (fun v20 hf => ?_)
        refine e_lconst (w := 0) dX11_machines_176 (by decide) ?_
        refine e_ldc2_w (w := 12) dX11_machines_177 rfl ?_
        obtain ⟨r21, hg, hf⟩ := bO_some hf
        refine e_callS (as := [.long v20, .long 0, .long 12]) (v := (some (.int r21))) (s' := s) dX11_machines_180 rfl rfl rfl rfl rfl (Nat.le_of_ble_eq_true rfl) (fun Q hQ => tX11_within (d := (d + 1)) hV  hg hQ) ?_
        refine e_if_eq 190 dX11_machines_183 (by decide) hf (fun hf => ?_) (fun hf => ?_)
        · refine e_pick [2, 3, 4, 5, 6, 0] rfl ?_
          exact wX11_machines_b190 hV hK69 hP y1 y2 y3 y4 v9 s hf
        · refine e_iconst (w := (nI 1)) dX11_machines_186 (by decide) ?_
          refine e_goto 191 dX11_machines_187 (by decide) ?_
          refine e_pick [2, 3, 4, 5, 6, 0] rfl ?_
          exact wX11_machines_b191 hV hK69 hP y1 y2 y3 y4 v9 (nI 1) s hf
set_option maxRecDepth 20000 in
theorem wX11_machines_b110 {ρ : mRo} {d : Nat} {P : mPo} {V : mS → List mE} (hV : mView LX V)  {res : (Int32 × mS)} {K69 : Int32 → Int32 → Int32 → Int32 → Int32 → mS → Option (Int32 × mS)} (hK69 : ∀ (y1 : Int32) (y2 : Int32) (y3 : Int32) (y4 : Int32) (y5 : Int32) (s : mS), K69 y1 y2 y3 y4 y5 s = some res → mG ρ (mC ρ (d + 2)) 11 7 cX11_machines (some .int) P 69 [(0, .ref qX), (1, .int y1), (2, .int y2), (3, .int y3), (4, .int y4), (5, .int y5)] [] (V s)) (hP : P (some (.int res.1)) (V res.2)) (y1 : Int32) (y2 : Int32) (y3 : Int32) (y4 : Int32) (s : mS) (hf : fX11_machines_b110 K69 y1 y2 y3 y4 s = some res) : mG ρ (mC ρ (d + 2)) 11 7 cX11_machines (some .int) P 110 [(0, .ref qX), (1, .int y1), (2, .int y2), (3, .int y3), (4, .int y4)] [] (V s) := by
  unfold fX11_machines_b110 at hf
  refine e_iconst (w := (nI 0)) dX11_machines_110 (by decide) ?_
  refine e_pick [0, 1, 2, 3, 4] rfl ?_
  exact wX11_machines_b111 hV hK69 hP y1 y2 y3 y4 (nI 0) s hf
set_option maxRecDepth 20000 in
theorem wX11_machines_b69 {ρ : mRo} {d : Nat} {P : mPo} {V : mS → List mE} (hV : mView LX V)  {res : (Int32 × mS)} (hP : P (some (.int res.1)) (V res.2)) : ∀ (k : Nat) (y1 : Int32) (y2 : Int32) (y3 : Int32) (y4 : Int32) (y5 : Int32) (s : mS), fX11_machines_b69 k y1 y2 y3 y4 y5 s = some res → mG ρ (mC ρ (d + 2)) 11 7 cX11_machines (some .int) P 69 [(0, .ref qX), (1, .int y1), (2, .int y2), (3, .int y3), (4, .int y4), (5, .int y5)] [] (V s) := by
  intro k
  induction k with
  | zero => intro y1 y2 y3 y4 y5 s hf; rw [fX11_machines_b69] at hf; cases hf
  | succ k ih =>
    intro y1 y2 y3 y4 y5 s hf
    rw [fX11_machines_b69] at hf
    refine e_iload 5 dX11_machines_69 rfl ?_
    refine e_if_eq 236 dX11_machines_71 (by decide) hf (fun hf => ?_) (fun hf => ?_)
    · refine e_iload 4 dX11_machines_236 rfl ?_
      obtain rfl := Option.some.inj hf
      exact e_iret dX11_machines_238 trivial hP
    · refine e_iload 4 dX11_machines_74 rfl ?_
      refine e_iload_n 3 dX11_machines_76 rfl rfl ?_
      refine e_icmp_ge 236 dX11_machines_77 (by decide) hf (fun hf => ?_) (fun hf => ?_)
      · refine e_iload 4 dX11_machines_236 rfl ?_
        obtain rfl := Option.some.inj hf
        exact e_iret dX11_machines_238 trivial hP
      · refine e_iload_n 2 dX11_machines_80 rfl rfl ?_
        refine e_aload_n 0 dX11_machines_81 rfl rfl ?_
        refine e_getr hV dX11_machines_82 rfl lx_X rfl ?_
        refine e_iload_n 1 dX11_machines_85 rfl rfl ?_
        refine e_iald hV dX11_machines_86 lx_X_many hf (fun v7 hf => ?_)
        refine e_iconst (w := (nI 3)) dX11_machines_87 (by decide) ?_
        refine e_isub dX11_machines_88 ?_
        refine e_iconst (w := (nI 3)) dX11_machines_89 (by decide) ?_
        refine e_iload 4 dX11_machines_90 rfl ?_
        refine e_imul dX11_machines_92 ?_
        refine e_isub dX11_machines_93 ?_
        refine e_icmp_gt 110 dX11_machines_94 (by decide) hf (fun hf => ?_) (fun hf => ?_)
        · refine e_pick [0, 1, 2, 3, 4] rfl ?_
          exact wX11_machines_b110 hV ih hP y1 y2 y3 y4 s hf
        · refine e_aload_n 0 dX11_machines_97 rfl rfl ?_
          refine e_geti hV dX11_machines_98 rfl lx_X rfl ?_
          refine e_bipush (w := (nI 8)) dX11_machines_101 (by decide) ?_
          refine e_icmp_ge 110 dX11_machines_103 (by decide) hf (fun hf => ?_) (fun hf => ?_)
          · refine e_pick [0, 1, 2, 3, 4] rfl ?_
            exact wX11_machines_b110 hV ih hP y1 y2 y3 y4 s hf
          · refine e_iconst (w := (nI 1)) dX11_machines_106 (by decide) ?_
            refine e_goto 111 dX11_machines_107 (by decide) ?_
            refine e_pick [0, 1, 2, 3, 4] rfl ?_
            exact wX11_machines_b111 hV ih hP y1 y2 y3 y4 (nI 1) s hf
set_option maxRecDepth 20000 in
theorem wX11_machines_b67 {ρ : mRo} {d : Nat} {P : mPo} {V : mS → List mE} (hV : mView LX V)  {res : (Int32 × mS)} (hP : P (some (.int res.1)) (V res.2)) (y1 : Int32) (y2 : Int32) (y3 : Int32) (y4 : Int32) (z0 : Int32) (s : mS) (hf : fX11_machines_b67 y1 y2 y3 y4 z0 s = some res) : mG ρ (mC ρ (d + 2)) 11 7 cX11_machines (some .int) P 67 [(0, .ref qX), (1, .int y1), (2, .int y2), (3, .int y3), (4, .int y4)] [.int z0] (V s) := by
  unfold fX11_machines_b67 at hf
  refine e_istore dX11_machines_67 (by decide) hf (fun v6 hf => ?_)
  refine e_pick [1, 2, 3, 4, 5, 0] rfl ?_
  exact wX11_machines_b69 hV hP mFu y1 y2 y3 y4 v6 s hf
set_option maxRecDepth 20000 in
theorem wX11_machines_b66 {ρ : mRo} {d : Nat} {P : mPo} {V : mS → List mE} (hV : mView LX V)  {res : (Int32 × mS)} (hP : P (some (.int res.1)) (V res.2)) (y1 : Int32) (y2 : Int32) (y3 : Int32) (y4 : Int32) (s : mS) (hf : fX11_machines_b66 y1 y2 y3 y4 s = some res) : mG ρ (mC ρ (d + 2)) 11 7 cX11_machines (some .int) P 66 [(0, .ref qX), (1, .int y1), (2, .int y2), (3, .int y3), (4, .int y4)] [] (V s) := by
  unfold fX11_machines_b66 at hf
  refine e_iconst (w := (nI 0)) dX11_machines_66 (by decide) ?_
  refine e_pick [0, 1, 2, 3, 4] rfl ?_
  exact wX11_machines_b67 hV hP y1 y2 y3 y4 (nI 0) s hf
set_option maxRecDepth 20000 in
theorem wX11_machines_b44 {ρ : mRo} {d : Nat} {P : mPo} {V : mS → List mE} (hV : mView LX V)  {res : (Int32 × mS)} (hP : P (some (.int res.1)) (V res.2)) (y1 : Int32) (y2 : Int32) (y3 : Int32) (s : mS) (hf : fX11_machines_b44 y1 y2 y3 s = some res) : mG ρ (mC ρ (d + 2)) 11 7 cX11_machines (some .int) P 44 [(0, .ref qX), (1, .int y1), (2, .int y2), (3, .int y3)] [] (V s) := by
  unfold fX11_machines_b44 at hf
  refine e_iconst (w := (nI 0)) dX11_machines_44 (by decide) ?_
  refine e_istore dX11_machines_45 (by decide) hf (fun v4 hf => ?_)
  refine e_aload_n 1 dX11_machines_47 rfl rfl ?_
  refine e_getr hV dX11_machines_48 rfl lx_X rfl ?_
  refine e_iload_n 2 dX11_machines_51 rfl rfl ?_
  refine e_iald hV dX11_machines_52 lx_X_shelf hf (fun v5 hf => ?_)
  refine e_bipush (w := (nI 50)) dX11_machines_53 (by decide) ?_
  refine e_icmp_ne 66 dX11_machines_55 (by decide) hf (fun hf => ?_) (fun hf => ?_)
  · refine e_pick [1, 2, 3, 4, 0] rfl ?_
    exact wX11_machines_b66 hV hP y1 y2 y3 v4 s hf
  · refine e_iload_n 3 dX11_machines_58 rfl rfl ?_
    refine e_if_lt 66 dX11_machines_59 (by decide) hf (fun hf => ?_) (fun hf => ?_)
    · refine e_pick [1, 2, 3, 4, 0] rfl ?_
      exact wX11_machines_b66 hV hP y1 y2 y3 v4 s hf
    · refine e_iconst (w := (nI 1)) dX11_machines_62 (by decide) ?_
      refine e_goto 67 dX11_machines_63 (by decide) ?_
      refine e_pick [1, 2, 3, 4, 0] rfl ?_
      exact wX11_machines_b67 hV hP y1 y2 y3 v4 (nI 1) s hf
set_option maxRecDepth 20000 in
theorem tX11_machines {ρ : mRo} {d : Nat} {P : mPo} {V : mS → List mE} (hV : mView LX V)  {x1 : Int32} {x2 : Int32} {x3 : Int32} {s : mS} {res : (Int32 × mS)} (hf : fX11_machines x1 x2 x3 s = some res) (hP : P (some (.int res.1)) (V res.2)) : mC ρ (d + 3) 147 [.ref qX, .int x1, .int x2, .int x3] (V s) P := by
  refine ⟨_, rfl, Nat.le_of_ble_eq_true rfl, by decide, ?_⟩
  show mG ρ (mC ρ (d + 2)) 11 7 cX11_machines (some .int) P 0 [(0, .ref qX), (1, .int x1), (2, .int x2), (3, .int x3)] [] (V s)
  unfold fX11_machines at hf
  refine e_iload_n 1 dX11_machines_0 rfl rfl ?_
  obtain ⟨r1, hg, hf⟩ := bO_some hf
  refine e_callS (as := [.int x1]) (v := (some (.int r1))) (s' := s) dX11_machines_1 rfl rfl rfl rfl rfl (Nat.le_of_ble_eq_true rfl) (fun Q hQ => tX11_isShelf (d := d) hV  hg hQ) ?_
  refine e_if_eq 19 dX11_machines_4 (by decide) hf (fun hf => ?_) (fun hf => ?_)
  · refine e_iconst (w := (-1)) dX11_machines_19 (by decide) ?_
    obtain rfl := Option.some.inj hf
    exact e_iret dX11_machines_20 trivial hP
  · refine e_iload_n 3 dX11_machines_7 rfl rfl ?_
    refine e_i2l dX11_machines_8 ?_
    refine e_lconst (w := 1) dX11_machines_9 (by decide) ?_
    refine e_ldc2_w (w := 8) dX11_machines_10 rfl ?_
    obtain ⟨r2, hg, hf⟩ := bO_some hf
    refine e_callS (as := [.long (Int32.toInt64 x3), .long 1, .long 8]) (v := (some (.int r2))) (s' := s) dX11_machines_13 rfl rfl rfl rfl rfl (Nat.le_of_ble_eq_true rfl) (fun Q hQ => tX11_within (d := (d + 1)) hV  hg hQ) ?_
    refine e_if_ne 21 dX11_machines_16 (by decide) hf (fun hf => ?_) (fun hf => ?_)
    · refine e_aload_n 0 dX11_machines_21 rfl rfl ?_
      refine e_getr hV dX11_machines_22 rfl lx_X rfl ?_
      refine e_iload_n 1 dX11_machines_25 rfl rfl ?_
      refine e_iald hV dX11_machines_26 lx_X_shelf hf (fun v3 hf => ?_)
      refine e_if_lt 44 dX11_machines_27 (by decide) hf (fun hf => ?_) (fun hf => ?_)
      · refine e_pick [0, 1, 2, 3] rfl ?_
        exact wX11_machines_b44 hV hP x1 x2 x3 s hf
      · refine e_aload_n 0 dX11_machines_30 rfl rfl ?_
        refine e_getr hV dX11_machines_31 rfl lx_X rfl ?_
        refine e_iload_n 1 dX11_machines_34 rfl rfl ?_
        refine e_iald hV dX11_machines_35 lx_X_shelf hf (fun v22 hf => ?_)
        refine e_bipush (w := (nI 50)) dX11_machines_36 (by decide) ?_
        refine e_icmp_eq 44 dX11_machines_38 (by decide) hf (fun hf => ?_) (fun hf => ?_)
        · refine e_pick [0, 1, 2, 3] rfl ?_
          exact wX11_machines_b44 hV hP x1 x2 x3 s hf
        · refine e_bipush (w := (-12)) dX11_machines_41 (by decide) ?_
          obtain rfl := Option.some.inj hf
          exact e_iret dX11_machines_43 trivial hP
    · refine e_iconst (w := (-1)) dX11_machines_19 (by decide) ?_
      obtain rfl := Option.some.inj hf
      exact e_iret dX11_machines_20 trivial hP

theorem dX11_isCode_0 : decode cX11_isCode 0 = .ok (.lload_n 0, 1) := by decide +kernel
theorem dX11_isCode_1 : decode cX11_isCode 1 = .ok (.lconst 0, 1) := by decide +kernel
theorem dX11_isCode_2 : decode cX11_isCode 2 = .ok (.ldc2_w 119, 3) := by decide +kernel
theorem dX11_isCode_5 : decode cX11_isCode 5 = .ok (.invokestatic 93, 3) := by decide +kernel
theorem dX11_isCode_8 : decode cX11_isCode 8 = .ok (.ireturn, 1) := by decide +kernel
def fX11_isCode (x0 : Int64) (s : mS) : Option Int32 :=
  bO (fX11_within x0 0 2196 s) fun r1 =>
  rB r1 (some r1)

set_option maxRecDepth 20000 in
theorem tX11_isCode {ρ : mRo} {d : Nat} {P : mPo} {V : mS → List mE} (hV : mView LX V)  {x0 : Int64} {s : mS} {res : Int32} (hf : fX11_isCode x0 s = some res) (hP : P (some (.int res)) (V s)) : mC ρ (d + 2) 148 [.long x0] (V s) P := by
  refine ⟨_, rfl, Nat.le_of_ble_eq_true rfl, by decide, ?_⟩
  show mG ρ (mC ρ (d + 1)) 11 2 cX11_isCode (some .boolean) P 0 [(0, .long x0)] [] (V s)
  unfold fX11_isCode at hf
  refine e_lload_n 0 dX11_isCode_0 rfl rfl ?_
  refine e_lconst (w := 0) dX11_isCode_1 (by decide) ?_
  refine e_ldc2_w (w := 2196) dX11_isCode_2 rfl ?_
  obtain ⟨r1, hg, hf⟩ := bO_some hf
  refine e_callS (as := [.long x0, .long 0, .long 2196]) (v := (some (.int r1))) (s' := s) dX11_isCode_5 rfl rfl rfl rfl rfl (Nat.le_of_ble_eq_true rfl) (fun Q hQ => tX11_within (d := d) hV  hg hQ) ?_
  obtain ⟨hb0, hf⟩ := rB_some hf
  obtain rfl := Option.some.inj hf
  exact e_iret dX11_isCode_8 hb0 hP

theorem dX11_inCode_0 : decode cX11_inCode 0 = .ok (.iload_n 1, 1) := by decide +kernel
theorem dX11_inCode_1 : decode cX11_inCode 1 = .ok (.ifCond .ne 11, 3) := by decide +kernel
theorem dX11_inCode_4 : decode cX11_inCode 4 = .ok (.iload_n 0, 1) := by decide +kernel
theorem dX11_inCode_5 : decode cX11_inCode 5 = .ok (.sipush 169, 3) := by decide +kernel
theorem dX11_inCode_8 : decode cX11_inCode 8 = .ok (.idiv, 1) := by decide +kernel
theorem dX11_inCode_9 : decode cX11_inCode 9 = .ok (.goto 22, 3) := by decide +kernel
theorem dX11_inCode_12 : decode cX11_inCode 12 = .ok (.iload_n 1, 1) := by decide +kernel
theorem dX11_inCode_13 : decode cX11_inCode 13 = .ok (.iconst 1, 1) := by decide +kernel
theorem dX11_inCode_14 : decode cX11_inCode 14 = .ok (.if_icmp .ne 13, 3) := by decide +kernel
theorem dX11_inCode_17 : decode cX11_inCode 17 = .ok (.iload_n 0, 1) := by decide +kernel
theorem dX11_inCode_18 : decode cX11_inCode 18 = .ok (.bipush 13, 2) := by decide +kernel
theorem dX11_inCode_20 : decode cX11_inCode 20 = .ok (.idiv, 1) := by decide +kernel
theorem dX11_inCode_21 : decode cX11_inCode 21 = .ok (.bipush 13, 2) := by decide +kernel
theorem dX11_inCode_23 : decode cX11_inCode 23 = .ok (.irem, 1) := by decide +kernel
theorem dX11_inCode_24 : decode cX11_inCode 24 = .ok (.goto 7, 3) := by decide +kernel
theorem dX11_inCode_27 : decode cX11_inCode 27 = .ok (.iload_n 0, 1) := by decide +kernel
theorem dX11_inCode_28 : decode cX11_inCode 28 = .ok (.bipush 13, 2) := by decide +kernel
theorem dX11_inCode_30 : decode cX11_inCode 30 = .ok (.irem, 1) := by decide +kernel
theorem dX11_inCode_31 : decode cX11_inCode 31 = .ok (.ireturn, 1) := by decide +kernel
def fX11_inCode (x0 : Int32) (x1 : Int32) (s : mS) : Option Int32 :=
  if x1 = 0 then
    some (x0 / (nI 169))
  else
    if x1 = (nI 1) then
      some ((x0 / (nI 13)) - (x0 / (nI 13)) / (nI 13) * (nI 13))
    else
      some (x0 - x0 / (nI 13) * (nI 13))

set_option maxRecDepth 20000 in
theorem tX11_inCode {ρ : mRo} {d : Nat} {P : mPo} {V : mS → List mE} (hV : mView LX V)  {x0 : Int32} {x1 : Int32} {s : mS} {res : Int32} (hf : fX11_inCode x0 x1 s = some res) (hP : P (some (.int res)) (V s)) : mC ρ (d + 1) 149 [.int x0, .int x1] (V s) P := by
  refine ⟨_, rfl, Nat.le_of_ble_eq_true rfl, by decide, ?_⟩
  show mG ρ (mC ρ d) 11 2 cX11_inCode (some .int) P 0 [(0, .int x0), (1, .int x1)] [] (V s)
  unfold fX11_inCode at hf
  refine e_iload_n 1 dX11_inCode_0 rfl rfl ?_
  refine e_if_ne 12 dX11_inCode_1 (by decide) hf (fun hf => ?_) (fun hf => ?_)
  · refine e_iload_n 1 dX11_inCode_12 rfl rfl ?_
    refine e_iconst (w := (nI 1)) dX11_inCode_13 (by decide) ?_
    refine e_icmp_ne 27 dX11_inCode_14 (by decide) hf (fun hf => ?_) (fun hf => ?_)
    · refine e_iload_n 0 dX11_inCode_27 rfl rfl ?_
      refine e_bipush (w := (nI 13)) dX11_inCode_28 (by decide) ?_
      refine e_irem dX11_inCode_30 (by decide) ?_
      obtain rfl := Option.some.inj hf
      exact e_iret dX11_inCode_31 trivial hP
    · refine e_iload_n 0 dX11_inCode_17 rfl rfl ?_
      refine e_bipush (w := (nI 13)) dX11_inCode_18 (by decide) ?_
      refine e_idiv dX11_inCode_20 (by decide) ?_
      refine e_bipush (w := (nI 13)) dX11_inCode_21 (by decide) ?_
      refine e_irem dX11_inCode_23 (by decide) ?_
      refine e_goto 31 dX11_inCode_24 (by decide) ?_
      obtain rfl := Option.some.inj hf
      exact e_iret dX11_inCode_31 trivial hP
  · refine e_iload_n 0 dX11_inCode_4 rfl rfl ?_
    refine e_sipush (w := (nI 169)) dX11_inCode_5 (by decide) ?_
    refine e_idiv dX11_inCode_8 (by decide) ?_
    refine e_goto 31 dX11_inCode_9 (by decide) ?_
    obtain rfl := Option.some.inj hf
    exact e_iret dX11_inCode_31 trivial hP

theorem dX11_writer_0 : decode cX11_writer 0 = .ok (.iload_n 1, 1) := by decide +kernel
theorem dX11_writer_1 : decode cX11_writer 1 = .ok (.i2l, 1) := by decide +kernel
theorem dX11_writer_2 : decode cX11_writer 2 = .ok (.invokestatic 121, 3) := by decide +kernel
theorem dX11_writer_5 : decode cX11_writer 5 = .ok (.ifCond .ne 5, 3) := by decide +kernel
theorem dX11_writer_8 : decode cX11_writer 8 = .ok (.iconst (-1), 1) := by decide +kernel
theorem dX11_writer_9 : decode cX11_writer 9 = .ok (.ireturn, 1) := by decide +kernel
theorem dX11_writer_10 : decode cX11_writer 10 = .ok (.aload_n 0, 1) := by decide +kernel
theorem dX11_writer_11 : decode cX11_writer 11 = .ok (.getfield 97, 3) := by decide +kernel
theorem dX11_writer_14 : decode cX11_writer 14 = .ok (.bipush 8, 2) := by decide +kernel
theorem dX11_writer_16 : decode cX11_writer 16 = .ok (.if_icmp .ne 6, 3) := by decide +kernel
theorem dX11_writer_19 : decode cX11_writer 19 = .ok (.bipush (-3), 2) := by decide +kernel
theorem dX11_writer_21 : decode cX11_writer 21 = .ok (.ireturn, 1) := by decide +kernel
theorem dX11_writer_22 : decode cX11_writer 22 = .ok (.iconst 0, 1) := by decide +kernel
theorem dX11_writer_23 : decode cX11_writer 23 = .ok (.istore_n 2, 1) := by decide +kernel
theorem dX11_writer_24 : decode cX11_writer 24 = .ok (.iload_n 2, 1) := by decide +kernel
theorem dX11_writer_25 : decode cX11_writer 25 = .ok (.iconst 3, 1) := by decide +kernel
theorem dX11_writer_26 : decode cX11_writer 26 = .ok (.if_icmp .ge 30, 3) := by decide +kernel
theorem dX11_writer_29 : decode cX11_writer 29 = .ok (.aload_n 0, 1) := by decide +kernel
theorem dX11_writer_30 : decode cX11_writer 30 = .ok (.getfield 9, 3) := by decide +kernel
theorem dX11_writer_33 : decode cX11_writer 33 = .ok (.bipush 32, 2) := by decide +kernel
theorem dX11_writer_35 : decode cX11_writer 35 = .ok (.iconst 3, 1) := by decide +kernel
theorem dX11_writer_36 : decode cX11_writer 36 = .ok (.aload_n 0, 1) := by decide +kernel
theorem dX11_writer_37 : decode cX11_writer 37 = .ok (.getfield 97, 3) := by decide +kernel
theorem dX11_writer_40 : decode cX11_writer 40 = .ok (.imul, 1) := by decide +kernel
theorem dX11_writer_41 : decode cX11_writer 41 = .ok (.iadd, 1) := by decide +kernel
theorem dX11_writer_42 : decode cX11_writer 42 = .ok (.iload_n 2, 1) := by decide +kernel
theorem dX11_writer_43 : decode cX11_writer 43 = .ok (.iadd, 1) := by decide +kernel
theorem dX11_writer_44 : decode cX11_writer 44 = .ok (.iload_n 1, 1) := by decide +kernel
theorem dX11_writer_45 : decode cX11_writer 45 = .ok (.iload_n 2, 1) := by decide +kernel
theorem dX11_writer_46 : decode cX11_writer 46 = .ok (.invokestatic 124, 3) := by decide +kernel
theorem dX11_writer_49 : decode cX11_writer 49 = .ok (.iastore, 1) := by decide +kernel
theorem dX11_writer_50 : decode cX11_writer 50 = .ok (.iinc 2 1, 3) := by decide +kernel
theorem dX11_writer_53 : decode cX11_writer 53 = .ok (.goto (-29), 3) := by decide +kernel
theorem dX11_writer_56 : decode cX11_writer 56 = .ok (.aload_n 0, 1) := by decide +kernel
theorem dX11_writer_57 : decode cX11_writer 57 = .ok (.getfield 9, 3) := by decide +kernel
theorem dX11_writer_60 : decode cX11_writer 60 = .ok (.bipush 56, 2) := by decide +kernel
theorem dX11_writer_62 : decode cX11_writer 62 = .ok (.aload_n 0, 1) := by decide +kernel
theorem dX11_writer_63 : decode cX11_writer 63 = .ok (.getfield 97, 3) := by decide +kernel
theorem dX11_writer_66 : decode cX11_writer 66 = .ok (.iadd, 1) := by decide +kernel
theorem dX11_writer_67 : decode cX11_writer 67 = .ok (.bipush 6, 2) := by decide +kernel
theorem dX11_writer_69 : decode cX11_writer 69 = .ok (.iastore, 1) := by decide +kernel
theorem dX11_writer_70 : decode cX11_writer 70 = .ok (.aload_n 0, 1) := by decide +kernel
theorem dX11_writer_71 : decode cX11_writer 71 = .ok (.dup, 1) := by decide +kernel
theorem dX11_writer_72 : decode cX11_writer 72 = .ok (.getfield 97, 3) := by decide +kernel
theorem dX11_writer_75 : decode cX11_writer 75 = .ok (.iconst 1, 1) := by decide +kernel
theorem dX11_writer_76 : decode cX11_writer 76 = .ok (.iadd, 1) := by decide +kernel
theorem dX11_writer_77 : decode cX11_writer 77 = .ok (.putfield 97, 3) := by decide +kernel
theorem dX11_writer_80 : decode cX11_writer 80 = .ok (.aload_n 0, 1) := by decide +kernel
theorem dX11_writer_81 : decode cX11_writer 81 = .ok (.getfield 97, 3) := by decide +kernel
theorem dX11_writer_84 : decode cX11_writer 84 = .ok (.iconst 1, 1) := by decide +kernel
theorem dX11_writer_85 : decode cX11_writer 85 = .ok (.isub, 1) := by decide +kernel
theorem dX11_writer_86 : decode cX11_writer 86 = .ok (.ireturn, 1) := by decide +kernel
def fX11_writer_b24 : Nat → Int32 → Int32 → mS → Option (Int32 × mS)
  | 0, _, _, _ => none
  | k + 1, y1, y2, s =>
    if (nI 3) ≤ y2 then
      stA s aX_may 65 ((nI 56) + (gI s iX_writers)) (nI 6) fun s3 =>
      bnd (pI s3 iX_writers ((gI s3 iX_writers) + (nI 1))) fun s4 =>
      some ((gI s4 iX_writers) - (nI 1), s4)
    else
      bO (fX11_inCode y1 y2 s) fun r5 =>
      stA s aX_may 65 (((nI 32) + ((nI 3) * (gI s iX_writers))) + y2) r5 fun s6 =>
      bnd (y2 + (nI 1)) fun v7 =>
      fX11_writer_b24 k y1 v7 s6

def fX11_writer (x1 : Int32) (s : mS) : Option (Int32 × mS) :=
  bO (fX11_isCode (Int32.toInt64 x1) s) fun r1 =>
  if r1 = 0 then
    some ((-1), s)
  else
    if (gI s iX_writers) = (nI 8) then
      some ((-3), s)
    else
      bnd (nI 0) fun v2 =>
      fX11_writer_b24 mFu x1 v2 s

set_option maxRecDepth 20000 in
theorem wX11_writer_b24 {ρ : mRo} {d : Nat} {P : mPo} {V : mS → List mE} (hV : mView LX V)  {res : (Int32 × mS)} (hP : P (some (.int res.1)) (V res.2)) : ∀ (k : Nat) (y1 : Int32) (y2 : Int32) (s : mS), fX11_writer_b24 k y1 y2 s = some res → mG ρ (mC ρ (d + 2)) 11 3 cX11_writer (some .int) P 24 [(0, .ref qX), (1, .int y1), (2, .int y2)] [] (V s) := by
  intro k
  induction k with
  | zero => intro y1 y2 s hf; rw [fX11_writer_b24] at hf; cases hf
  | succ k ih =>
    intro y1 y2 s hf
    rw [fX11_writer_b24] at hf
    refine e_iload_n 2 dX11_writer_24 rfl rfl ?_
    refine e_iconst (w := (nI 3)) dX11_writer_25 (by decide) ?_
    refine e_icmp_ge 56 dX11_writer_26 (by decide) hf (fun hf => ?_) (fun hf => ?_)
    · refine e_aload_n 0 dX11_writer_56 rfl rfl ?_
      refine e_getr hV dX11_writer_57 rfl lx_X rfl ?_
      refine e_bipush (w := (nI 56)) dX11_writer_60 (by decide) ?_
      refine e_aload_n 0 dX11_writer_62 rfl rfl ?_
      refine e_geti hV dX11_writer_63 rfl lx_X rfl ?_
      refine e_iadd dX11_writer_66 ?_
      refine e_bipush (w := (nI 6)) dX11_writer_67 (by decide) ?_
      refine e_iast hV dX11_writer_69 lx_X_may hf (fun s3 hf => ?_)
      refine e_aload_n 0 dX11_writer_70 rfl rfl ?_
      refine e_dup dX11_writer_71 rfl ?_
      refine e_geti hV dX11_writer_72 rfl lx_X rfl ?_
      refine e_iconst (w := (nI 1)) dX11_writer_75 (by decide) ?_
      refine e_iadd dX11_writer_76 ?_
      refine e_puti hV dX11_writer_77 rfl rfl rfl (Or.inl rfl) lx_X rfl hf (fun s4 hf => ?_)
      refine e_aload_n 0 dX11_writer_80 rfl rfl ?_
      refine e_geti hV dX11_writer_81 rfl lx_X rfl ?_
      refine e_iconst (w := (nI 1)) dX11_writer_84 (by decide) ?_
      refine e_isub dX11_writer_85 ?_
      obtain rfl := Option.some.inj hf
      exact e_iret dX11_writer_86 trivial hP
    · refine e_aload_n 0 dX11_writer_29 rfl rfl ?_
      refine e_getr hV dX11_writer_30 rfl lx_X rfl ?_
      refine e_bipush (w := (nI 32)) dX11_writer_33 (by decide) ?_
      refine e_iconst (w := (nI 3)) dX11_writer_35 (by decide) ?_
      refine e_aload_n 0 dX11_writer_36 rfl rfl ?_
      refine e_geti hV dX11_writer_37 rfl lx_X rfl ?_
      refine e_imul dX11_writer_40 ?_
      refine e_iadd dX11_writer_41 ?_
      refine e_iload_n 2 dX11_writer_42 rfl rfl ?_
      refine e_iadd dX11_writer_43 ?_
      refine e_iload_n 1 dX11_writer_44 rfl rfl ?_
      refine e_iload_n 2 dX11_writer_45 rfl rfl ?_
      obtain ⟨r5, hg, hf⟩ := bO_some hf
      refine e_callS (as := [.int y1, .int y2]) (v := (some (.int r5))) (s' := s) dX11_writer_46 rfl rfl rfl rfl rfl (Nat.le_of_ble_eq_true rfl) (fun Q hQ => tX11_inCode (d := (d + 1)) hV  hg hQ) ?_
      refine e_iast hV dX11_writer_49 lx_X_may hf (fun s6 hf => ?_)
      refine e_iinc 2 dX11_writer_50 (by decide) rfl hf (fun v7 hf => ?_)
      refine e_goto 24 dX11_writer_53 (by decide) ?_
      refine e_pick [1, 2, 0] rfl ?_
      exact ih y1 v7 s6 hf
set_option maxRecDepth 20000 in
theorem tX11_writer {ρ : mRo} {d : Nat} {P : mPo} {V : mS → List mE} (hV : mView LX V)  {x1 : Int32} {s : mS} {res : (Int32 × mS)} (hf : fX11_writer x1 s = some res) (hP : P (some (.int res.1)) (V res.2)) : mC ρ (d + 3) 150 [.ref qX, .int x1] (V s) P := by
  refine ⟨_, rfl, Nat.le_of_ble_eq_true rfl, by decide, ?_⟩
  show mG ρ (mC ρ (d + 2)) 11 3 cX11_writer (some .int) P 0 [(0, .ref qX), (1, .int x1)] [] (V s)
  unfold fX11_writer at hf
  refine e_iload_n 1 dX11_writer_0 rfl rfl ?_
  refine e_i2l dX11_writer_1 ?_
  obtain ⟨r1, hg, hf⟩ := bO_some hf
  refine e_callS (as := [.long (Int32.toInt64 x1)]) (v := (some (.int r1))) (s' := s) dX11_writer_2 rfl rfl rfl rfl rfl (Nat.le_of_ble_eq_true rfl) (fun Q hQ => tX11_isCode (d := d) hV  hg hQ) ?_
  refine e_if_ne 10 dX11_writer_5 (by decide) hf (fun hf => ?_) (fun hf => ?_)
  · refine e_aload_n 0 dX11_writer_10 rfl rfl ?_
    refine e_geti hV dX11_writer_11 rfl lx_X rfl ?_
    refine e_bipush (w := (nI 8)) dX11_writer_14 (by decide) ?_
    refine e_icmp_ne 22 dX11_writer_16 (by decide) hf (fun hf => ?_) (fun hf => ?_)
    · refine e_iconst (w := (nI 0)) dX11_writer_22 (by decide) ?_
      refine e_istore_n dX11_writer_23 rfl (by decide) hf (fun v2 hf => ?_)
      refine e_pick [1, 2, 0] rfl ?_
      exact wX11_writer_b24 hV hP mFu x1 v2 s hf
    · refine e_bipush (w := (-3)) dX11_writer_19 (by decide) ?_
      obtain rfl := Option.some.inj hf
      exact e_iret dX11_writer_21 trivial hP
  · refine e_iconst (w := (-1)) dX11_writer_8 (by decide) ?_
    obtain rfl := Option.some.inj hf
    exact e_iret dX11_writer_9 trivial hP

theorem dX11_placeOf_0 : decode cX11_placeOf 0 = .ok (.iload_n 2, 1) := by decide +kernel
theorem dX11_placeOf_1 : decode cX11_placeOf 1 = .ok (.i2l, 1) := by decide +kernel
theorem dX11_placeOf_2 : decode cX11_placeOf 2 = .ok (.lconst 0, 1) := by decide +kernel
theorem dX11_placeOf_3 : decode cX11_placeOf 3 = .ok (.ldc2_w 128, 3) := by decide +kernel
theorem dX11_placeOf_6 : decode cX11_placeOf 6 = .ok (.invokestatic 93, 3) := by decide +kernel
theorem dX11_placeOf_9 : decode cX11_placeOf 9 = .ok (.ifCond .eq 22, 3) := by decide +kernel
theorem dX11_placeOf_12 : decode cX11_placeOf 12 = .ok (.aload_n 0, 1) := by decide +kernel
theorem dX11_placeOf_13 : decode cX11_placeOf 13 = .ok (.iload_n 1, 1) := by decide +kernel
theorem dX11_placeOf_14 : decode cX11_placeOf 14 = .ok (.i2l, 1) := by decide +kernel
theorem dX11_placeOf_15 : decode cX11_placeOf 15 = .ok (.invokevirtual 104, 3) := by decide +kernel
theorem dX11_placeOf_18 : decode cX11_placeOf 18 = .ok (.ifCond .eq 11, 3) := by decide +kernel
theorem dX11_placeOf_21 : decode cX11_placeOf 21 = .ok (.iconst 3, 1) := by decide +kernel
theorem dX11_placeOf_22 : decode cX11_placeOf 22 = .ok (.iload_n 1, 1) := by decide +kernel
theorem dX11_placeOf_23 : decode cX11_placeOf 23 = .ok (.imul, 1) := by decide +kernel
theorem dX11_placeOf_24 : decode cX11_placeOf 24 = .ok (.iload_n 2, 1) := by decide +kernel
theorem dX11_placeOf_25 : decode cX11_placeOf 25 = .ok (.iadd, 1) := by decide +kernel
theorem dX11_placeOf_26 : decode cX11_placeOf 26 = .ok (.goto 4, 3) := by decide +kernel
theorem dX11_placeOf_29 : decode cX11_placeOf 29 = .ok (.iconst (-1), 1) := by decide +kernel
theorem dX11_placeOf_30 : decode cX11_placeOf 30 = .ok (.ireturn, 1) := by decide +kernel
theorem dX11_placeOf_31 : decode cX11_placeOf 31 = .ok (.iload_n 2, 1) := by decide +kernel
theorem dX11_placeOf_32 : decode cX11_placeOf 32 = .ok (.iconst 3, 1) := by decide +kernel
theorem dX11_placeOf_33 : decode cX11_placeOf 33 = .ok (.if_icmp .ne 21, 3) := by decide +kernel
theorem dX11_placeOf_36 : decode cX11_placeOf 36 = .ok (.aload_n 0, 1) := by decide +kernel
theorem dX11_placeOf_37 : decode cX11_placeOf 37 = .ok (.iload_n 1, 1) := by decide +kernel
theorem dX11_placeOf_38 : decode cX11_placeOf 38 = .ok (.i2l, 1) := by decide +kernel
theorem dX11_placeOf_39 : decode cX11_placeOf 39 = .ok (.invokevirtual 104, 3) := by decide +kernel
theorem dX11_placeOf_42 : decode cX11_placeOf 42 = .ok (.ifCond .eq 10, 3) := by decide +kernel
theorem dX11_placeOf_45 : decode cX11_placeOf 45 = .ok (.bipush 24, 2) := by decide +kernel
theorem dX11_placeOf_47 : decode cX11_placeOf 47 = .ok (.iload_n 1, 1) := by decide +kernel
theorem dX11_placeOf_48 : decode cX11_placeOf 48 = .ok (.iadd, 1) := by decide +kernel
theorem dX11_placeOf_49 : decode cX11_placeOf 49 = .ok (.goto 4, 3) := by decide +kernel
theorem dX11_placeOf_52 : decode cX11_placeOf 52 = .ok (.iconst (-1), 1) := by decide +kernel
theorem dX11_placeOf_53 : decode cX11_placeOf 53 = .ok (.ireturn, 1) := by decide +kernel
theorem dX11_placeOf_54 : decode cX11_placeOf 54 = .ok (.iload_n 2, 1) := by decide +kernel
theorem dX11_placeOf_55 : decode cX11_placeOf 55 = .ok (.i2l, 1) := by decide +kernel
theorem dX11_placeOf_56 : decode cX11_placeOf 56 = .ok (.ldc2_w 130, 3) := by decide +kernel
theorem dX11_placeOf_59 : decode cX11_placeOf 59 = .ok (.ldc2_w 132, 3) := by decide +kernel
theorem dX11_placeOf_62 : decode cX11_placeOf 62 = .ok (.invokestatic 93, 3) := by decide +kernel
theorem dX11_placeOf_65 : decode cX11_placeOf 65 = .ok (.ifCond .eq 27, 3) := by decide +kernel
theorem dX11_placeOf_68 : decode cX11_placeOf 68 = .ok (.aload_n 0, 1) := by decide +kernel
theorem dX11_placeOf_69 : decode cX11_placeOf 69 = .ok (.iload_n 1, 1) := by decide +kernel
theorem dX11_placeOf_70 : decode cX11_placeOf 70 = .ok (.i2l, 1) := by decide +kernel
theorem dX11_placeOf_71 : decode cX11_placeOf 71 = .ok (.invokevirtual 100, 3) := by decide +kernel
theorem dX11_placeOf_74 : decode cX11_placeOf 74 = .ok (.ifCond .eq 16, 3) := by decide +kernel
theorem dX11_placeOf_77 : decode cX11_placeOf 77 = .ok (.bipush 32, 2) := by decide +kernel
theorem dX11_placeOf_79 : decode cX11_placeOf 79 = .ok (.iconst 3, 1) := by decide +kernel
theorem dX11_placeOf_80 : decode cX11_placeOf 80 = .ok (.iload_n 1, 1) := by decide +kernel
theorem dX11_placeOf_81 : decode cX11_placeOf 81 = .ok (.imul, 1) := by decide +kernel
theorem dX11_placeOf_82 : decode cX11_placeOf 82 = .ok (.iadd, 1) := by decide +kernel
theorem dX11_placeOf_83 : decode cX11_placeOf 83 = .ok (.iload_n 2, 1) := by decide +kernel
theorem dX11_placeOf_84 : decode cX11_placeOf 84 = .ok (.iadd, 1) := by decide +kernel
theorem dX11_placeOf_85 : decode cX11_placeOf 85 = .ok (.iconst 4, 1) := by decide +kernel
theorem dX11_placeOf_86 : decode cX11_placeOf 86 = .ok (.isub, 1) := by decide +kernel
theorem dX11_placeOf_87 : decode cX11_placeOf 87 = .ok (.goto 4, 3) := by decide +kernel
theorem dX11_placeOf_90 : decode cX11_placeOf 90 = .ok (.iconst (-1), 1) := by decide +kernel
theorem dX11_placeOf_91 : decode cX11_placeOf 91 = .ok (.ireturn, 1) := by decide +kernel
theorem dX11_placeOf_92 : decode cX11_placeOf 92 = .ok (.iload_n 2, 1) := by decide +kernel
theorem dX11_placeOf_93 : decode cX11_placeOf 93 = .ok (.bipush 7, 2) := by decide +kernel
theorem dX11_placeOf_95 : decode cX11_placeOf 95 = .ok (.if_icmp .ne 21, 3) := by decide +kernel
theorem dX11_placeOf_98 : decode cX11_placeOf 98 = .ok (.aload_n 0, 1) := by decide +kernel
theorem dX11_placeOf_99 : decode cX11_placeOf 99 = .ok (.iload_n 1, 1) := by decide +kernel
theorem dX11_placeOf_100 : decode cX11_placeOf 100 = .ok (.i2l, 1) := by decide +kernel
theorem dX11_placeOf_101 : decode cX11_placeOf 101 = .ok (.invokevirtual 100, 3) := by decide +kernel
theorem dX11_placeOf_104 : decode cX11_placeOf 104 = .ok (.ifCond .eq 10, 3) := by decide +kernel
theorem dX11_placeOf_107 : decode cX11_placeOf 107 = .ok (.bipush 56, 2) := by decide +kernel
theorem dX11_placeOf_109 : decode cX11_placeOf 109 = .ok (.iload_n 1, 1) := by decide +kernel
theorem dX11_placeOf_110 : decode cX11_placeOf 110 = .ok (.iadd, 1) := by decide +kernel
theorem dX11_placeOf_111 : decode cX11_placeOf 111 = .ok (.goto 4, 3) := by decide +kernel
theorem dX11_placeOf_114 : decode cX11_placeOf 114 = .ok (.iconst (-1), 1) := by decide +kernel
theorem dX11_placeOf_115 : decode cX11_placeOf 115 = .ok (.ireturn, 1) := by decide +kernel
theorem dX11_placeOf_116 : decode cX11_placeOf 116 = .ok (.iload_n 2, 1) := by decide +kernel
theorem dX11_placeOf_117 : decode cX11_placeOf 117 = .ok (.bipush 8, 2) := by decide +kernel
theorem dX11_placeOf_119 : decode cX11_placeOf 119 = .ok (.if_icmp .ne 12, 3) := by decide +kernel
theorem dX11_placeOf_122 : decode cX11_placeOf 122 = .ok (.iload_n 1, 1) := by decide +kernel
theorem dX11_placeOf_123 : decode cX11_placeOf 123 = .ok (.ifCond .ne 8, 3) := by decide +kernel
theorem dX11_placeOf_126 : decode cX11_placeOf 126 = .ok (.bipush 64, 2) := by decide +kernel
theorem dX11_placeOf_128 : decode cX11_placeOf 128 = .ok (.goto 4, 3) := by decide +kernel
theorem dX11_placeOf_131 : decode cX11_placeOf 131 = .ok (.iconst (-1), 1) := by decide +kernel
theorem dX11_placeOf_132 : decode cX11_placeOf 132 = .ok (.ireturn, 1) := by decide +kernel
def fX11_placeOf (x1 : Int32) (x2 : Int32) (s : mS) : Option Int32 :=
  bO (fX11_within (Int32.toInt64 x2) 0 2 s) fun r1 =>
  if r1 = 0 then
    if x2 = (nI 3) then
      bO (fX11_isMachine (Int32.toInt64 x1) s) fun r5 =>
      if r5 = 0 then
        some (-1)
      else
        some ((nI 24) + x1)
    else
      bO (fX11_within (Int32.toInt64 x2) 4 6 s) fun r2 =>
      if r2 = 0 then
        if x2 = (nI 7) then
          bO (fX11_isWriter (Int32.toInt64 x1) s) fun r3 =>
          if r3 = 0 then
            some (-1)
          else
            some ((nI 56) + x1)
        else
          if x2 = (nI 8) then
            if x1 = 0 then
              some (nI 64)
            else
              some (-1)
          else
            some (-1)
      else
        bO (fX11_isWriter (Int32.toInt64 x1) s) fun r4 =>
        if r4 = 0 then
          some (-1)
        else
          some ((((nI 32) + ((nI 3) * x1)) + x2) - (nI 4))
  else
    bO (fX11_isMachine (Int32.toInt64 x1) s) fun r6 =>
    if r6 = 0 then
      some (-1)
    else
      some (((nI 3) * x1) + x2)

set_option maxRecDepth 20000 in
theorem tX11_placeOf {ρ : mRo} {d : Nat} {P : mPo} {V : mS → List mE} (hV : mView LX V)  {x1 : Int32} {x2 : Int32} {s : mS} {res : Int32} (hf : fX11_placeOf x1 x2 s = some res) (hP : P (some (.int res)) (V s)) : mC ρ (d + 3) 151 [.ref qX, .int x1, .int x2] (V s) P := by
  refine ⟨_, rfl, Nat.le_of_ble_eq_true rfl, by decide, ?_⟩
  show mG ρ (mC ρ (d + 2)) 11 3 cX11_placeOf (some .int) P 0 [(0, .ref qX), (1, .int x1), (2, .int x2)] [] (V s)
  unfold fX11_placeOf at hf
  refine e_iload_n 2 dX11_placeOf_0 rfl rfl ?_
  refine e_i2l dX11_placeOf_1 ?_
  refine e_lconst (w := 0) dX11_placeOf_2 (by decide) ?_
  refine e_ldc2_w (w := 2) dX11_placeOf_3 rfl ?_
  obtain ⟨r1, hg, hf⟩ := bO_some hf
  refine e_callS (as := [.long (Int32.toInt64 x2), .long 0, .long 2]) (v := (some (.int r1))) (s' := s) dX11_placeOf_6 rfl rfl rfl rfl rfl (Nat.le_of_ble_eq_true rfl) (fun Q hQ => tX11_within (d := (d + 1)) hV  hg hQ) ?_
  refine e_if_eq 31 dX11_placeOf_9 (by decide) hf (fun hf => ?_) (fun hf => ?_)
  · refine e_iload_n 2 dX11_placeOf_31 rfl rfl ?_
    refine e_iconst (w := (nI 3)) dX11_placeOf_32 (by decide) ?_
    refine e_icmp_ne 54 dX11_placeOf_33 (by decide) hf (fun hf => ?_) (fun hf => ?_)
    · refine e_iload_n 2 dX11_placeOf_54 rfl rfl ?_
      refine e_i2l dX11_placeOf_55 ?_
      refine e_ldc2_w (w := 4) dX11_placeOf_56 rfl ?_
      refine e_ldc2_w (w := 6) dX11_placeOf_59 rfl ?_
      obtain ⟨r2, hg, hf⟩ := bO_some hf
      refine e_callS (as := [.long (Int32.toInt64 x2), .long 4, .long 6]) (v := (some (.int r2))) (s' := s) dX11_placeOf_62 rfl rfl rfl rfl rfl (Nat.le_of_ble_eq_true rfl) (fun Q hQ => tX11_within (d := (d + 1)) hV  hg hQ) ?_
      refine e_if_eq 92 dX11_placeOf_65 (by decide) hf (fun hf => ?_) (fun hf => ?_)
      · refine e_iload_n 2 dX11_placeOf_92 rfl rfl ?_
        refine e_bipush (w := (nI 7)) dX11_placeOf_93 (by decide) ?_
        refine e_icmp_ne 116 dX11_placeOf_95 (by decide) hf (fun hf => ?_) (fun hf => ?_)
        · refine e_iload_n 2 dX11_placeOf_116 rfl rfl ?_
          refine e_bipush (w := (nI 8)) dX11_placeOf_117 (by decide) ?_
          refine e_icmp_ne 131 dX11_placeOf_119 (by decide) hf (fun hf => ?_) (fun hf => ?_)
          · refine e_iconst (w := (-1)) dX11_placeOf_131 (by decide) ?_
            obtain rfl := Option.some.inj hf
            exact e_iret dX11_placeOf_132 trivial hP
          · refine e_iload_n 1 dX11_placeOf_122 rfl rfl ?_
            refine e_if_ne 131 dX11_placeOf_123 (by decide) hf (fun hf => ?_) (fun hf => ?_)
            · refine e_iconst (w := (-1)) dX11_placeOf_131 (by decide) ?_
              obtain rfl := Option.some.inj hf
              exact e_iret dX11_placeOf_132 trivial hP
            · refine e_bipush (w := (nI 64)) dX11_placeOf_126 (by decide) ?_
              refine e_goto 132 dX11_placeOf_128 (by decide) ?_
              obtain rfl := Option.some.inj hf
              exact e_iret dX11_placeOf_132 trivial hP
        · refine e_aload_n 0 dX11_placeOf_98 rfl rfl ?_
          refine e_iload_n 1 dX11_placeOf_99 rfl rfl ?_
          refine e_i2l dX11_placeOf_100 ?_
          obtain ⟨r3, hg, hf⟩ := bO_some hf
          refine e_callV (as := [.long (Int32.toInt64 x1)]) (v := (some (.int r3))) (s' := s) hV dX11_placeOf_101 (Or.inl rfl) rfl rfl rfl rfl (Nat.le_of_ble_eq_true rfl) lx_X rfl rfl (fun Q hQ => tX11_isWriter (d := d) hV  hg hQ) ?_
          refine e_if_eq 114 dX11_placeOf_104 (by decide) hf (fun hf => ?_) (fun hf => ?_)
          · refine e_iconst (w := (-1)) dX11_placeOf_114 (by decide) ?_
            obtain rfl := Option.some.inj hf
            exact e_iret dX11_placeOf_115 trivial hP
          · refine e_bipush (w := (nI 56)) dX11_placeOf_107 (by decide) ?_
            refine e_iload_n 1 dX11_placeOf_109 rfl rfl ?_
            refine e_iadd dX11_placeOf_110 ?_
            refine e_goto 115 dX11_placeOf_111 (by decide) ?_
            obtain rfl := Option.some.inj hf
            exact e_iret dX11_placeOf_115 trivial hP
      · refine e_aload_n 0 dX11_placeOf_68 rfl rfl ?_
        refine e_iload_n 1 dX11_placeOf_69 rfl rfl ?_
        refine e_i2l dX11_placeOf_70 ?_
        obtain ⟨r4, hg, hf⟩ := bO_some hf
        refine e_callV (as := [.long (Int32.toInt64 x1)]) (v := (some (.int r4))) (s' := s) hV dX11_placeOf_71 (Or.inl rfl) rfl rfl rfl rfl (Nat.le_of_ble_eq_true rfl) lx_X rfl rfl (fun Q hQ => tX11_isWriter (d := d) hV  hg hQ) ?_
        refine e_if_eq 90 dX11_placeOf_74 (by decide) hf (fun hf => ?_) (fun hf => ?_)
        · refine e_iconst (w := (-1)) dX11_placeOf_90 (by decide) ?_
          obtain rfl := Option.some.inj hf
          exact e_iret dX11_placeOf_91 trivial hP
        · refine e_bipush (w := (nI 32)) dX11_placeOf_77 (by decide) ?_
          refine e_iconst (w := (nI 3)) dX11_placeOf_79 (by decide) ?_
          refine e_iload_n 1 dX11_placeOf_80 rfl rfl ?_
          refine e_imul dX11_placeOf_81 ?_
          refine e_iadd dX11_placeOf_82 ?_
          refine e_iload_n 2 dX11_placeOf_83 rfl rfl ?_
          refine e_iadd dX11_placeOf_84 ?_
          refine e_iconst (w := (nI 4)) dX11_placeOf_85 (by decide) ?_
          refine e_isub dX11_placeOf_86 ?_
          refine e_goto 91 dX11_placeOf_87 (by decide) ?_
          obtain rfl := Option.some.inj hf
          exact e_iret dX11_placeOf_91 trivial hP
    · refine e_aload_n 0 dX11_placeOf_36 rfl rfl ?_
      refine e_iload_n 1 dX11_placeOf_37 rfl rfl ?_
      refine e_i2l dX11_placeOf_38 ?_
      obtain ⟨r5, hg, hf⟩ := bO_some hf
      refine e_callV (as := [.long (Int32.toInt64 x1)]) (v := (some (.int r5))) (s' := s) hV dX11_placeOf_39 (Or.inl rfl) rfl rfl rfl rfl (Nat.le_of_ble_eq_true rfl) lx_X rfl rfl (fun Q hQ => tX11_isMachine (d := d) hV  hg hQ) ?_
      refine e_if_eq 52 dX11_placeOf_42 (by decide) hf (fun hf => ?_) (fun hf => ?_)
      · refine e_iconst (w := (-1)) dX11_placeOf_52 (by decide) ?_
        obtain rfl := Option.some.inj hf
        exact e_iret dX11_placeOf_53 trivial hP
      · refine e_bipush (w := (nI 24)) dX11_placeOf_45 (by decide) ?_
        refine e_iload_n 1 dX11_placeOf_47 rfl rfl ?_
        refine e_iadd dX11_placeOf_48 ?_
        refine e_goto 53 dX11_placeOf_49 (by decide) ?_
        obtain rfl := Option.some.inj hf
        exact e_iret dX11_placeOf_53 trivial hP
  · refine e_aload_n 0 dX11_placeOf_12 rfl rfl ?_
    refine e_iload_n 1 dX11_placeOf_13 rfl rfl ?_
    refine e_i2l dX11_placeOf_14 ?_
    obtain ⟨r6, hg, hf⟩ := bO_some hf
    refine e_callV (as := [.long (Int32.toInt64 x1)]) (v := (some (.int r6))) (s' := s) hV dX11_placeOf_15 (Or.inl rfl) rfl rfl rfl rfl (Nat.le_of_ble_eq_true rfl) lx_X rfl rfl (fun Q hQ => tX11_isMachine (d := d) hV  hg hQ) ?_
    refine e_if_eq 29 dX11_placeOf_18 (by decide) hf (fun hf => ?_) (fun hf => ?_)
    · refine e_iconst (w := (-1)) dX11_placeOf_29 (by decide) ?_
      obtain rfl := Option.some.inj hf
      exact e_iret dX11_placeOf_30 trivial hP
    · refine e_iconst (w := (nI 3)) dX11_placeOf_21 (by decide) ?_
      refine e_iload_n 1 dX11_placeOf_22 rfl rfl ?_
      refine e_imul dX11_placeOf_23 ?_
      refine e_iload_n 2 dX11_placeOf_24 rfl rfl ?_
      refine e_iadd dX11_placeOf_25 ?_
      refine e_goto 30 dX11_placeOf_26 (by decide) ?_
      obtain rfl := Option.some.inj hf
      exact e_iret dX11_placeOf_30 trivial hP

theorem dX11_mend_0 : decode cX11_mend 0 = .ok (.aload_n 0, 1) := by decide +kernel
theorem dX11_mend_1 : decode cX11_mend 1 = .ok (.iload_n 1, 1) := by decide +kernel
theorem dX11_mend_2 : decode cX11_mend 2 = .ok (.iload_n 2, 1) := by decide +kernel
theorem dX11_mend_3 : decode cX11_mend 3 = .ok (.invokevirtual 134, 3) := by decide +kernel
theorem dX11_mend_6 : decode cX11_mend 6 = .ok (.istore 4, 2) := by decide +kernel
theorem dX11_mend_8 : decode cX11_mend 8 = .ok (.iload_n 2, 1) := by decide +kernel
theorem dX11_mend_9 : decode cX11_mend 9 = .ok (.iconst 3, 1) := by decide +kernel
theorem dX11_mend_10 : decode cX11_mend 10 = .ok (.if_icmp .ne 8, 3) := by decide +kernel
theorem dX11_mend_13 : decode cX11_mend 13 = .ok (.bipush 99, 2) := by decide +kernel
theorem dX11_mend_15 : decode cX11_mend 15 = .ok (.goto 16, 3) := by decide +kernel
theorem dX11_mend_18 : decode cX11_mend 18 = .ok (.iload_n 2, 1) := by decide +kernel
theorem dX11_mend_19 : decode cX11_mend 19 = .ok (.bipush 8, 2) := by decide +kernel
theorem dX11_mend_21 : decode cX11_mend 21 = .ok (.if_icmp .ne 8, 3) := by decide +kernel
theorem dX11_mend_24 : decode cX11_mend 24 = .ok (.bipush 9, 2) := by decide +kernel
theorem dX11_mend_26 : decode cX11_mend 26 = .ok (.goto 5, 3) := by decide +kernel
theorem dX11_mend_29 : decode cX11_mend 29 = .ok (.bipush 12, 2) := by decide +kernel
theorem dX11_mend_31 : decode cX11_mend 31 = .ok (.istore 5, 2) := by decide +kernel
theorem dX11_mend_33 : decode cX11_mend 33 = .ok (.iload 4, 2) := by decide +kernel
theorem dX11_mend_35 : decode cX11_mend 35 = .ok (.ifCond .lt 25, 3) := by decide +kernel
theorem dX11_mend_38 : decode cX11_mend 38 = .ok (.iload_n 3, 1) := by decide +kernel
theorem dX11_mend_39 : decode cX11_mend 39 = .ok (.i2l, 1) := by decide +kernel
theorem dX11_mend_40 : decode cX11_mend 40 = .ok (.lconst 0, 1) := by decide +kernel
theorem dX11_mend_41 : decode cX11_mend 41 = .ok (.iload 5, 2) := by decide +kernel
theorem dX11_mend_43 : decode cX11_mend 43 = .ok (.i2l, 1) := by decide +kernel
theorem dX11_mend_44 : decode cX11_mend 44 = .ok (.invokestatic 93, 3) := by decide +kernel
theorem dX11_mend_47 : decode cX11_mend 47 = .ok (.ifCond .eq 13, 3) := by decide +kernel
theorem dX11_mend_50 : decode cX11_mend 50 = .ok (.aload_n 0, 1) := by decide +kernel
theorem dX11_mend_51 : decode cX11_mend 51 = .ok (.iload 4, 2) := by decide +kernel
theorem dX11_mend_53 : decode cX11_mend 53 = .ok (.iload_n 3, 1) := by decide +kernel
theorem dX11_mend_54 : decode cX11_mend 54 = .ok (.invokevirtual 137, 3) := by decide +kernel
theorem dX11_mend_57 : decode cX11_mend 57 = .ok (.goto 4, 3) := by decide +kernel
theorem dX11_mend_60 : decode cX11_mend 60 = .ok (.iconst (-1), 1) := by decide +kernel
theorem dX11_mend_61 : decode cX11_mend 61 = .ok (.ireturn, 1) := by decide +kernel
def fX11_mend_b31 (y3 : Int32) (y4 : Int32) (z0 : Int32) (s : mS) : Option (Int32 × mS) :=
  bnd z0 fun v3 =>
  if y4 < 0 then
    some ((-1), s)
  else
    bO (fX11_within (Int32.toInt64 y3) 0 (Int32.toInt64 v3) s) fun r4 =>
    if r4 = 0 then
      some ((-1), s)
    else
      bP (fX11_becomes y4 y3 s) fun r5 s6 =>
      some (r5, s6)

def fX11_mend (x1 : Int32) (x2 : Int32) (x3 : Int32) (s : mS) : Option (Int32 × mS) :=
  bO (fX11_placeOf x1 x2 s) fun r1 =>
  bnd r1 fun v2 =>
  if x2 = (nI 3) then
    fX11_mend_b31 x3 v2 (nI 99) s
  else
    if x2 = (nI 8) then
      fX11_mend_b31 x3 v2 (nI 9) s
    else
      fX11_mend_b31 x3 v2 (nI 12) s

set_option maxRecDepth 20000 in
theorem wX11_mend_b31 {ρ : mRo} {d : Nat} {P : mPo} {V : mS → List mE} (hV : mView LX V)  {res : (Int32 × mS)} (hP : P (some (.int res.1)) (V res.2)) (y3 : Int32) (y4 : Int32) (z0 : Int32) (s : mS) (hf : fX11_mend_b31 y3 y4 z0 s = some res) : mG ρ (mC ρ (d + 3)) 11 6 cX11_mend (some .int) P 31 [(0, .ref qX), (3, .int y3), (4, .int y4)] [.int z0] (V s) := by
  unfold fX11_mend_b31 at hf
  refine e_istore dX11_mend_31 (by decide) hf (fun v3 hf => ?_)
  refine e_iload 3 dX11_mend_33 rfl ?_
  refine e_if_lt 60 dX11_mend_35 (by decide) hf (fun hf => ?_) (fun hf => ?_)
  · refine e_iconst (w := (-1)) dX11_mend_60 (by decide) ?_
    obtain rfl := Option.some.inj hf
    exact e_iret dX11_mend_61 trivial hP
  · refine e_iload_n 2 dX11_mend_38 rfl rfl ?_
    refine e_i2l dX11_mend_39 ?_
    refine e_lconst (w := 0) dX11_mend_40 (by decide) ?_
    refine e_iload 0 dX11_mend_41 rfl ?_
    refine e_i2l dX11_mend_43 ?_
    obtain ⟨r4, hg, hf⟩ := bO_some hf
    refine e_callS (as := [.long (Int32.toInt64 y3), .long 0, .long (Int32.toInt64 v3)]) (v := (some (.int r4))) (s' := s) dX11_mend_44 rfl rfl rfl rfl rfl (Nat.le_of_ble_eq_true rfl) (fun Q hQ => tX11_within (d := (d + 2)) hV  hg hQ) ?_
    refine e_if_eq 60 dX11_mend_47 (by decide) hf (fun hf => ?_) (fun hf => ?_)
    · refine e_iconst (w := (-1)) dX11_mend_60 (by decide) ?_
      obtain rfl := Option.some.inj hf
      exact e_iret dX11_mend_61 trivial hP
    · refine e_aload_n 1 dX11_mend_50 rfl rfl ?_
      refine e_iload 3 dX11_mend_51 rfl ?_
      refine e_iload_n 2 dX11_mend_53 rfl rfl ?_
      obtain ⟨r5, s6, hg, hf⟩ := bP_some hf
      refine e_callV (as := [.int y4, .int y3]) (v := (some (.int r5))) (s' := s6) hV dX11_mend_54 (Or.inl rfl) rfl rfl rfl rfl (Nat.le_of_ble_eq_true rfl) lx_X rfl rfl (fun Q hQ => tX11_becomes (d := (d + 2)) hV  hg hQ) ?_
      refine e_goto 61 dX11_mend_57 (by decide) ?_
      obtain rfl := Option.some.inj hf
      exact e_iret dX11_mend_61 trivial hP
set_option maxRecDepth 20000 in
theorem tX11_mend {ρ : mRo} {d : Nat} {P : mPo} {V : mS → List mE} (hV : mView LX V)  {x1 : Int32} {x2 : Int32} {x3 : Int32} {s : mS} {res : (Int32 × mS)} (hf : fX11_mend x1 x2 x3 s = some res) (hP : P (some (.int res.1)) (V res.2)) : mC ρ (d + 4) 152 [.ref qX, .int x1, .int x2, .int x3] (V s) P := by
  refine ⟨_, rfl, Nat.le_of_ble_eq_true rfl, by decide, ?_⟩
  show mG ρ (mC ρ (d + 3)) 11 6 cX11_mend (some .int) P 0 [(0, .ref qX), (1, .int x1), (2, .int x2), (3, .int x3)] [] (V s)
  unfold fX11_mend at hf
  refine e_aload_n 0 dX11_mend_0 rfl rfl ?_
  refine e_iload_n 1 dX11_mend_1 rfl rfl ?_
  refine e_iload_n 2 dX11_mend_2 rfl rfl ?_
  obtain ⟨r1, hg, hf⟩ := bO_some hf
  refine e_callV (as := [.int x1, .int x2]) (v := (some (.int r1))) (s' := s) hV dX11_mend_3 (Or.inl rfl) rfl rfl rfl rfl (Nat.le_of_ble_eq_true rfl) lx_X rfl rfl (fun Q hQ => tX11_placeOf (d := d) hV  hg hQ) ?_
  refine e_istore dX11_mend_6 (by decide) hf (fun v2 hf => ?_)
  refine e_iload_n 3 dX11_mend_8 rfl rfl ?_
  refine e_iconst (w := (nI 3)) dX11_mend_9 (by decide) ?_
  refine e_icmp_ne 18 dX11_mend_10 (by decide) hf (fun hf => ?_) (fun hf => ?_)
  · refine e_iload_n 3 dX11_mend_18 rfl rfl ?_
    refine e_bipush (w := (nI 8)) dX11_mend_19 (by decide) ?_
    refine e_icmp_ne 29 dX11_mend_21 (by decide) hf (fun hf => ?_) (fun hf => ?_)
    · refine e_bipush (w := (nI 12)) dX11_mend_29 (by decide) ?_
      refine e_pick [1, 4, 0] rfl ?_
      exact wX11_mend_b31 hV hP x3 v2 (nI 12) s hf
    · refine e_bipush (w := (nI 9)) dX11_mend_24 (by decide) ?_
      refine e_goto 31 dX11_mend_26 (by decide) ?_
      refine e_pick [1, 4, 0] rfl ?_
      exact wX11_mend_b31 hV hP x3 v2 (nI 9) s hf
  · refine e_bipush (w := (nI 99)) dX11_mend_13 (by decide) ?_
    refine e_goto 31 dX11_mend_15 (by decide) ?_
    refine e_pick [1, 4, 0] rfl ?_
    exact wX11_mend_b31 hV hP x3 v2 (nI 99) s hf

theorem dX11_of_0 : decode cX11_of 0 = .ok (.aload_n 0, 1) := by decide +kernel
theorem dX11_of_1 : decode cX11_of 1 = .ok (.iload_n 1, 1) := by decide +kernel
theorem dX11_of_2 : decode cX11_of 2 = .ok (.iload_n 2, 1) := by decide +kernel
theorem dX11_of_3 : decode cX11_of 3 = .ok (.invokevirtual 134, 3) := by decide +kernel
theorem dX11_of_6 : decode cX11_of 6 = .ok (.istore_n 3, 1) := by decide +kernel
theorem dX11_of_7 : decode cX11_of 7 = .ok (.iload_n 3, 1) := by decide +kernel
theorem dX11_of_8 : decode cX11_of 8 = .ok (.ifCond .ge 7, 3) := by decide +kernel
theorem dX11_of_11 : decode cX11_of 11 = .ok (.iconst (-1), 1) := by decide +kernel
theorem dX11_of_12 : decode cX11_of 12 = .ok (.goto 9, 3) := by decide +kernel
theorem dX11_of_15 : decode cX11_of 15 = .ok (.aload_n 0, 1) := by decide +kernel
theorem dX11_of_16 : decode cX11_of 16 = .ok (.getfield 9, 3) := by decide +kernel
theorem dX11_of_19 : decode cX11_of 19 = .ok (.iload_n 3, 1) := by decide +kernel
theorem dX11_of_20 : decode cX11_of 20 = .ok (.iaload, 1) := by decide +kernel
theorem dX11_of_21 : decode cX11_of 21 = .ok (.ireturn, 1) := by decide +kernel
def fX11_of (x1 : Int32) (x2 : Int32) (s : mS) : Option Int32 :=
  bO (fX11_placeOf x1 x2 s) fun r1 =>
  bnd r1 fun v2 =>
  if 0 ≤ v2 then
    ldA s aX_may 65 v2 fun v3 =>
    some v3
  else
    some (-1)

set_option maxRecDepth 20000 in
theorem tX11_of {ρ : mRo} {d : Nat} {P : mPo} {V : mS → List mE} (hV : mView LX V)  {x1 : Int32} {x2 : Int32} {s : mS} {res : Int32} (hf : fX11_of x1 x2 s = some res) (hP : P (some (.int res)) (V s)) : mC ρ (d + 4) 153 [.ref qX, .int x1, .int x2] (V s) P := by
  refine ⟨_, rfl, Nat.le_of_ble_eq_true rfl, by decide, ?_⟩
  show mG ρ (mC ρ (d + 3)) 11 4 cX11_of (some .int) P 0 [(0, .ref qX), (1, .int x1), (2, .int x2)] [] (V s)
  unfold fX11_of at hf
  refine e_aload_n 0 dX11_of_0 rfl rfl ?_
  refine e_iload_n 1 dX11_of_1 rfl rfl ?_
  refine e_iload_n 2 dX11_of_2 rfl rfl ?_
  obtain ⟨r1, hg, hf⟩ := bO_some hf
  refine e_callV (as := [.int x1, .int x2]) (v := (some (.int r1))) (s' := s) hV dX11_of_3 (Or.inl rfl) rfl rfl rfl rfl (Nat.le_of_ble_eq_true rfl) lx_X rfl rfl (fun Q hQ => tX11_placeOf (d := d) hV  hg hQ) ?_
  refine e_istore_n dX11_of_6 rfl (by decide) hf (fun v2 hf => ?_)
  refine e_iload_n 0 dX11_of_7 rfl rfl ?_
  refine e_if_ge 15 dX11_of_8 (by decide) hf (fun hf => ?_) (fun hf => ?_)
  · refine e_aload_n 1 dX11_of_15 rfl rfl ?_
    refine e_getr hV dX11_of_16 rfl lx_X rfl ?_
    refine e_iload_n 0 dX11_of_19 rfl rfl ?_
    refine e_iald hV dX11_of_20 lx_X_may hf (fun v3 hf => ?_)
    obtain rfl := Option.some.inj hf
    exact e_iret dX11_of_21 trivial hP
  · refine e_iconst (w := (-1)) dX11_of_11 (by decide) ?_
    refine e_goto 21 dX11_of_12 (by decide) ?_
    obtain rfl := Option.some.inj hf
    exact e_iret dX11_of_21 trivial hP

theorem dX11_feed_0 : decode cX11_feed 0 = .ok (.iload_n 1, 1) := by decide +kernel
theorem dX11_feed_1 : decode cX11_feed 1 = .ok (.i2l, 1) := by decide +kernel
theorem dX11_feed_2 : decode cX11_feed 2 = .ok (.lconst 0, 1) := by decide +kernel
theorem dX11_feed_3 : decode cX11_feed 3 = .ok (.ldc2_w 140, 3) := by decide +kernel
theorem dX11_feed_6 : decode cX11_feed 6 = .ok (.invokestatic 93, 3) := by decide +kernel
theorem dX11_feed_9 : decode cX11_feed 9 = .ok (.ifCond .ne 5, 3) := by decide +kernel
theorem dX11_feed_12 : decode cX11_feed 12 = .ok (.iconst (-1), 1) := by decide +kernel
theorem dX11_feed_13 : decode cX11_feed 13 = .ok (.ireturn, 1) := by decide +kernel
theorem dX11_feed_14 : decode cX11_feed 14 = .ok (.aload_n 0, 1) := by decide +kernel
theorem dX11_feed_15 : decode cX11_feed 15 = .ok (.getfield 142, 3) := by decide +kernel
theorem dX11_feed_18 : decode cX11_feed 18 = .ok (.bipush 120, 2) := by decide +kernel
theorem dX11_feed_20 : decode cX11_feed 20 = .ok (.if_icmp .ne 6, 3) := by decide +kernel
theorem dX11_feed_23 : decode cX11_feed 23 = .ok (.bipush (-3), 2) := by decide +kernel
theorem dX11_feed_25 : decode cX11_feed 25 = .ok (.ireturn, 1) := by decide +kernel
theorem dX11_feed_26 : decode cX11_feed 26 = .ok (.aload_n 0, 1) := by decide +kernel
theorem dX11_feed_27 : decode cX11_feed 27 = .ok (.getfield 22, 3) := by decide +kernel
theorem dX11_feed_30 : decode cX11_feed 30 = .ok (.aload_n 0, 1) := by decide +kernel
theorem dX11_feed_31 : decode cX11_feed 31 = .ok (.getfield 142, 3) := by decide +kernel
theorem dX11_feed_34 : decode cX11_feed 34 = .ok (.iload_n 1, 1) := by decide +kernel
theorem dX11_feed_35 : decode cX11_feed 35 = .ok (.iastore, 1) := by decide +kernel
theorem dX11_feed_36 : decode cX11_feed 36 = .ok (.aload_n 0, 1) := by decide +kernel
theorem dX11_feed_37 : decode cX11_feed 37 = .ok (.dup, 1) := by decide +kernel
theorem dX11_feed_38 : decode cX11_feed 38 = .ok (.getfield 142, 3) := by decide +kernel
theorem dX11_feed_41 : decode cX11_feed 41 = .ok (.iconst 1, 1) := by decide +kernel
theorem dX11_feed_42 : decode cX11_feed 42 = .ok (.iadd, 1) := by decide +kernel
theorem dX11_feed_43 : decode cX11_feed 43 = .ok (.putfield 142, 3) := by decide +kernel
theorem dX11_feed_46 : decode cX11_feed 46 = .ok (.aload_n 0, 1) := by decide +kernel
theorem dX11_feed_47 : decode cX11_feed 47 = .ok (.getfield 142, 3) := by decide +kernel
theorem dX11_feed_50 : decode cX11_feed 50 = .ok (.ireturn, 1) := by decide +kernel
def fX11_feed (x1 : Int32) (s : mS) : Option (Int32 × mS) :=
  bO (fX11_within (Int32.toInt64 x1) 0 255 s) fun r1 =>
  if r1 = 0 then
    some ((-1), s)
  else
    if (gI s iX_tapeMany) = (nI 120) then
      some ((-3), s)
    else
      stA s aX_tape 120 (gI s iX_tapeMany) x1 fun s2 =>
      bnd (pI s2 iX_tapeMany ((gI s2 iX_tapeMany) + (nI 1))) fun s3 =>
      some (gI s3 iX_tapeMany, s3)

set_option maxRecDepth 20000 in
theorem tX11_feed {ρ : mRo} {d : Nat} {P : mPo} {V : mS → List mE} (hV : mView LX V)  {x1 : Int32} {s : mS} {res : (Int32 × mS)} (hf : fX11_feed x1 s = some res) (hP : P (some (.int res.1)) (V res.2)) : mC ρ (d + 2) 154 [.ref qX, .int x1] (V s) P := by
  refine ⟨_, rfl, Nat.le_of_ble_eq_true rfl, by decide, ?_⟩
  show mG ρ (mC ρ (d + 1)) 11 2 cX11_feed (some .int) P 0 [(0, .ref qX), (1, .int x1)] [] (V s)
  unfold fX11_feed at hf
  refine e_iload_n 1 dX11_feed_0 rfl rfl ?_
  refine e_i2l dX11_feed_1 ?_
  refine e_lconst (w := 0) dX11_feed_2 (by decide) ?_
  refine e_ldc2_w (w := 255) dX11_feed_3 rfl ?_
  obtain ⟨r1, hg, hf⟩ := bO_some hf
  refine e_callS (as := [.long (Int32.toInt64 x1), .long 0, .long 255]) (v := (some (.int r1))) (s' := s) dX11_feed_6 rfl rfl rfl rfl rfl (Nat.le_of_ble_eq_true rfl) (fun Q hQ => tX11_within (d := d) hV  hg hQ) ?_
  refine e_if_ne 14 dX11_feed_9 (by decide) hf (fun hf => ?_) (fun hf => ?_)
  · refine e_aload_n 0 dX11_feed_14 rfl rfl ?_
    refine e_geti hV dX11_feed_15 rfl lx_X rfl ?_
    refine e_bipush (w := (nI 120)) dX11_feed_18 (by decide) ?_
    refine e_icmp_ne 26 dX11_feed_20 (by decide) hf (fun hf => ?_) (fun hf => ?_)
    · refine e_aload_n 0 dX11_feed_26 rfl rfl ?_
      refine e_getr hV dX11_feed_27 rfl lx_X rfl ?_
      refine e_aload_n 0 dX11_feed_30 rfl rfl ?_
      refine e_geti hV dX11_feed_31 rfl lx_X rfl ?_
      refine e_iload_n 1 dX11_feed_34 rfl rfl ?_
      refine e_iast hV dX11_feed_35 lx_X_tape hf (fun s2 hf => ?_)
      refine e_aload_n 0 dX11_feed_36 rfl rfl ?_
      refine e_dup dX11_feed_37 rfl ?_
      refine e_geti hV dX11_feed_38 rfl lx_X rfl ?_
      refine e_iconst (w := (nI 1)) dX11_feed_41 (by decide) ?_
      refine e_iadd dX11_feed_42 ?_
      refine e_puti hV dX11_feed_43 rfl rfl rfl (Or.inl rfl) lx_X rfl hf (fun s3 hf => ?_)
      refine e_aload_n 0 dX11_feed_46 rfl rfl ?_
      refine e_geti hV dX11_feed_47 rfl lx_X rfl ?_
      obtain rfl := Option.some.inj hf
      exact e_iret dX11_feed_50 trivial hP
    · refine e_bipush (w := (-3)) dX11_feed_23 (by decide) ?_
      obtain rfl := Option.some.inj hf
      exact e_iret dX11_feed_25 trivial hP
  · refine e_iconst (w := (-1)) dX11_feed_12 (by decide) ?_
    obtain rfl := Option.some.inj hf
    exact e_iret dX11_feed_13 trivial hP

theorem dX11_byteAt_0 : decode cX11_byteAt 0 = .ok (.aload_n 0, 1) := by decide +kernel
theorem dX11_byteAt_1 : decode cX11_byteAt 1 = .ok (.getfield 145, 3) := by decide +kernel
theorem dX11_byteAt_4 : decode cX11_byteAt 4 = .ok (.aload_n 0, 1) := by decide +kernel
theorem dX11_byteAt_5 : decode cX11_byteAt 5 = .ok (.getfield 148, 3) := by decide +kernel
theorem dX11_byteAt_8 : decode cX11_byteAt 8 = .ok (.if_icmp .ge 39, 3) := by decide +kernel
theorem dX11_byteAt_11 : decode cX11_byteAt 11 = .ok (.aload_n 0, 1) := by decide +kernel
theorem dX11_byteAt_12 : decode cX11_byteAt 12 = .ok (.getfield 151, 3) := by decide +kernel
theorem dX11_byteAt_15 : decode cX11_byteAt 15 = .ok (.ifCond .ge 15, 3) := by decide +kernel
theorem dX11_byteAt_18 : decode cX11_byteAt 18 = .ok (.aload_n 0, 1) := by decide +kernel
theorem dX11_byteAt_19 : decode cX11_byteAt 19 = .ok (.getfield 22, 3) := by decide +kernel
theorem dX11_byteAt_22 : decode cX11_byteAt 22 = .ok (.aload_n 0, 1) := by decide +kernel
theorem dX11_byteAt_23 : decode cX11_byteAt 23 = .ok (.getfield 145, 3) := by decide +kernel
theorem dX11_byteAt_26 : decode cX11_byteAt 26 = .ok (.iaload, 1) := by decide +kernel
theorem dX11_byteAt_27 : decode cX11_byteAt 27 = .ok (.goto 21, 3) := by decide +kernel
theorem dX11_byteAt_30 : decode cX11_byteAt 30 = .ok (.aload_n 0, 1) := by decide +kernel
theorem dX11_byteAt_31 : decode cX11_byteAt 31 = .ok (.getfield 25, 3) := by decide +kernel
theorem dX11_byteAt_34 : decode cX11_byteAt 34 = .ok (.aload_n 0, 1) := by decide +kernel
theorem dX11_byteAt_35 : decode cX11_byteAt 35 = .ok (.getfield 151, 3) := by decide +kernel
theorem dX11_byteAt_38 : decode cX11_byteAt 38 = .ok (.aload_n 0, 1) := by decide +kernel
theorem dX11_byteAt_39 : decode cX11_byteAt 39 = .ok (.getfield 145, 3) := by decide +kernel
theorem dX11_byteAt_42 : decode cX11_byteAt 42 = .ok (.iadd, 1) := by decide +kernel
theorem dX11_byteAt_43 : decode cX11_byteAt 43 = .ok (.iaload, 1) := by decide +kernel
theorem dX11_byteAt_44 : decode cX11_byteAt 44 = .ok (.goto 4, 3) := by decide +kernel
theorem dX11_byteAt_47 : decode cX11_byteAt 47 = .ok (.iconst 0, 1) := by decide +kernel
theorem dX11_byteAt_48 : decode cX11_byteAt 48 = .ok (.ireturn, 1) := by decide +kernel
def fX11_byteAt (s : mS) : Option Int32 :=
  if (gI s iX_ends) ≤ (gI s iX_at) then
    some (nI 0)
  else
    if 0 ≤ (gI s iX_base) then
      ldA s aX_text 120 ((gI s iX_base) + (gI s iX_at)) fun v1 =>
      some v1
    else
      ldA s aX_tape 120 (gI s iX_at) fun v2 =>
      some v2

set_option maxRecDepth 20000 in
theorem tX11_byteAt {ρ : mRo} {d : Nat} {P : mPo} {V : mS → List mE} (hV : mView LX V)  {s : mS} {res : Int32} (hf : fX11_byteAt s = some res) (hP : P (some (.int res)) (V s)) : mC ρ (d + 1) 155 [.ref qX] (V s) P := by
  refine ⟨_, rfl, Nat.le_of_ble_eq_true rfl, by decide, ?_⟩
  show mG ρ (mC ρ d) 11 1 cX11_byteAt (some .int) P 0 [(0, .ref qX)] [] (V s)
  unfold fX11_byteAt at hf
  refine e_aload_n 0 dX11_byteAt_0 rfl rfl ?_
  refine e_geti hV dX11_byteAt_1 rfl lx_X rfl ?_
  refine e_aload_n 0 dX11_byteAt_4 rfl rfl ?_
  refine e_geti hV dX11_byteAt_5 rfl lx_X rfl ?_
  refine e_icmp_ge 47 dX11_byteAt_8 (by decide) hf (fun hf => ?_) (fun hf => ?_)
  · refine e_iconst (w := (nI 0)) dX11_byteAt_47 (by decide) ?_
    obtain rfl := Option.some.inj hf
    exact e_iret dX11_byteAt_48 trivial hP
  · refine e_aload_n 0 dX11_byteAt_11 rfl rfl ?_
    refine e_geti hV dX11_byteAt_12 rfl lx_X rfl ?_
    refine e_if_ge 30 dX11_byteAt_15 (by decide) hf (fun hf => ?_) (fun hf => ?_)
    · refine e_aload_n 0 dX11_byteAt_30 rfl rfl ?_
      refine e_getr hV dX11_byteAt_31 rfl lx_X rfl ?_
      refine e_aload_n 0 dX11_byteAt_34 rfl rfl ?_
      refine e_geti hV dX11_byteAt_35 rfl lx_X rfl ?_
      refine e_aload_n 0 dX11_byteAt_38 rfl rfl ?_
      refine e_geti hV dX11_byteAt_39 rfl lx_X rfl ?_
      refine e_iadd dX11_byteAt_42 ?_
      refine e_iald hV dX11_byteAt_43 lx_X_text hf (fun v1 hf => ?_)
      refine e_goto 48 dX11_byteAt_44 (by decide) ?_
      obtain rfl := Option.some.inj hf
      exact e_iret dX11_byteAt_48 trivial hP
    · refine e_aload_n 0 dX11_byteAt_18 rfl rfl ?_
      refine e_getr hV dX11_byteAt_19 rfl lx_X rfl ?_
      refine e_aload_n 0 dX11_byteAt_22 rfl rfl ?_
      refine e_geti hV dX11_byteAt_23 rfl lx_X rfl ?_
      refine e_iald hV dX11_byteAt_26 lx_X_tape hf (fun v2 hf => ?_)
      refine e_goto 48 dX11_byteAt_27 (by decide) ?_
      obtain rfl := Option.some.inj hf
      exact e_iret dX11_byteAt_48 trivial hP

theorem dX11_wrong_0 : decode cX11_wrong 0 = .ok (.aload_n 0, 1) := by decide +kernel
theorem dX11_wrong_1 : decode cX11_wrong 1 = .ok (.aload_n 0, 1) := by decide +kernel
theorem dX11_wrong_2 : decode cX11_wrong 2 = .ok (.getfield 154, 3) := by decide +kernel
theorem dX11_wrong_5 : decode cX11_wrong 5 = .ok (.ifCond .ge 10, 3) := by decide +kernel
theorem dX11_wrong_8 : decode cX11_wrong 8 = .ok (.aload_n 0, 1) := by decide +kernel
theorem dX11_wrong_9 : decode cX11_wrong 9 = .ok (.getfield 145, 3) := by decide +kernel
theorem dX11_wrong_12 : decode cX11_wrong 12 = .ok (.goto 7, 3) := by decide +kernel
theorem dX11_wrong_15 : decode cX11_wrong 15 = .ok (.aload_n 0, 1) := by decide +kernel
theorem dX11_wrong_16 : decode cX11_wrong 16 = .ok (.getfield 154, 3) := by decide +kernel
theorem dX11_wrong_19 : decode cX11_wrong 19 = .ok (.putfield 154, 3) := by decide +kernel
theorem dX11_wrong_22 : decode cX11_wrong 22 = .ok (.iconst 0, 1) := by decide +kernel
theorem dX11_wrong_23 : decode cX11_wrong 23 = .ok (.ireturn, 1) := by decide +kernel
def fX11_wrong_b19 (z0 : Int32) (s : mS) : Option (Int32 × mS) :=
  bnd (pI s iX_fault z0) fun s1 =>
  some ((nI 0), s1)

def fX11_wrong (s : mS) : Option (Int32 × mS) :=
  if 0 ≤ (gI s iX_fault) then
    fX11_wrong_b19 (gI s iX_fault) s
  else
    fX11_wrong_b19 (gI s iX_at) s

set_option maxRecDepth 20000 in
theorem wX11_wrong_b19 {ρ : mRo} {d : Nat} {P : mPo} {V : mS → List mE} (hV : mView LX V)  {res : (Int32 × mS)} (hP : P (some (.int res.1)) (V res.2)) (z0 : Int32) (s : mS) (hf : fX11_wrong_b19 z0 s = some res) : mG ρ (mC ρ d) 11 1 cX11_wrong (some .int) P 19 [] [.int z0, .ref qX] (V s) := by
  unfold fX11_wrong_b19 at hf
  refine e_puti hV dX11_wrong_19 rfl rfl rfl (Or.inl rfl) lx_X rfl hf (fun s1 hf => ?_)
  refine e_iconst (w := (nI 0)) dX11_wrong_22 (by decide) ?_
  obtain rfl := Option.some.inj hf
  exact e_iret dX11_wrong_23 trivial hP
set_option maxRecDepth 20000 in
theorem tX11_wrong {ρ : mRo} {d : Nat} {P : mPo} {V : mS → List mE} (hV : mView LX V)  {s : mS} {res : (Int32 × mS)} (hf : fX11_wrong s = some res) (hP : P (some (.int res.1)) (V res.2)) : mC ρ (d + 1) 156 [.ref qX] (V s) P := by
  refine ⟨_, rfl, Nat.le_of_ble_eq_true rfl, by decide, ?_⟩
  show mG ρ (mC ρ d) 11 1 cX11_wrong (some .int) P 0 [(0, .ref qX)] [] (V s)
  unfold fX11_wrong at hf
  refine e_aload_n 0 dX11_wrong_0 rfl rfl ?_
  refine e_aload_n 0 dX11_wrong_1 rfl rfl ?_
  refine e_geti hV dX11_wrong_2 rfl lx_X rfl ?_
  refine e_if_ge 15 dX11_wrong_5 (by decide) hf (fun hf => ?_) (fun hf => ?_)
  · refine e_aload_n 0 dX11_wrong_15 rfl rfl ?_
    refine e_geti hV dX11_wrong_16 rfl lx_X rfl ?_
    refine e_pick [] rfl ?_
    exact wX11_wrong_b19 hV hP (gI s iX_fault) s hf
  · refine e_aload_n 0 dX11_wrong_8 rfl rfl ?_
    refine e_geti hV dX11_wrong_9 rfl lx_X rfl ?_
    refine e_goto 19 dX11_wrong_12 (by decide) ?_
    refine e_pick [] rfl ?_
    exact wX11_wrong_b19 hV hP (gI s iX_at) s hf
