-- bytecode to functions, by program (wip/gen/decomp.py)
theorem dX10_ribbons_0 : decode cX10_ribbons 0 = .ok (.iload_n 2, 1) := by decide +kernel
theorem dX10_ribbons_1 : decode cX10_ribbons 1 = .ok (.ifCond .lt 8, 3) := by decide +kernel
theorem dX10_ribbons_4 : decode cX10_ribbons 4 = .ok (.iload_n 2, 1) := by decide +kernel
theorem dX10_ribbons_5 : decode cX10_ribbons 5 = .ok (.iconst 1, 1) := by decide +kernel
theorem dX10_ribbons_6 : decode cX10_ribbons 6 = .ok (.if_icmp .le 5, 3) := by decide +kernel
theorem dX10_ribbons_9 : decode cX10_ribbons 9 = .ok (.iconst (-1), 1) := by decide +kernel
theorem dX10_ribbons_10 : decode cX10_ribbons 10 = .ok (.ireturn, 1) := by decide +kernel
theorem dX10_ribbons_11 : decode cX10_ribbons 11 = .ok (.aload_n 0, 1) := by decide +kernel
theorem dX10_ribbons_12 : decode cX10_ribbons 12 = .ok (.iload_n 1, 1) := by decide +kernel
theorem dX10_ribbons_13 : decode cX10_ribbons 13 = .ok (.iconst 1, 1) := by decide +kernel
theorem dX10_ribbons_14 : decode cX10_ribbons 14 = .ok (.invokevirtual 177, 3) := by decide +kernel
theorem dX10_ribbons_17 : decode cX10_ribbons 17 = .ok (.istore_n 3, 1) := by decide +kernel
theorem dX10_ribbons_18 : decode cX10_ribbons 18 = .ok (.iload_n 3, 1) := by decide +kernel
theorem dX10_ribbons_19 : decode cX10_ribbons 19 = .ok (.ifCond .eq 5, 3) := by decide +kernel
theorem dX10_ribbons_22 : decode cX10_ribbons 22 = .ok (.iload_n 3, 1) := by decide +kernel
theorem dX10_ribbons_23 : decode cX10_ribbons 23 = .ok (.ireturn, 1) := by decide +kernel
theorem dX10_ribbons_24 : decode cX10_ribbons 24 = .ok (.iconst 0, 1) := by decide +kernel
theorem dX10_ribbons_25 : decode cX10_ribbons 25 = .ok (.istore 4, 2) := by decide +kernel
theorem dX10_ribbons_27 : decode cX10_ribbons 27 = .ok (.bipush (-2), 2) := by decide +kernel
theorem dX10_ribbons_29 : decode cX10_ribbons 29 = .ok (.istore 5, 2) := by decide +kernel
theorem dX10_ribbons_31 : decode cX10_ribbons 31 = .ok (.bipush 9, 2) := by decide +kernel
theorem dX10_ribbons_33 : decode cX10_ribbons 33 = .ok (.istore 6, 2) := by decide +kernel
theorem dX10_ribbons_35 : decode cX10_ribbons 35 = .ok (.iload 6, 2) := by decide +kernel
theorem dX10_ribbons_37 : decode cX10_ribbons 37 = .ok (.ifCond .lt 35, 3) := by decide +kernel
theorem dX10_ribbons_40 : decode cX10_ribbons 40 = .ok (.aload_n 0, 1) := by decide +kernel
theorem dX10_ribbons_41 : decode cX10_ribbons 41 = .ok (.aload_n 0, 1) := by decide +kernel
theorem dX10_ribbons_42 : decode cX10_ribbons 42 = .ok (.getfield 42, 3) := by decide +kernel
theorem dX10_ribbons_45 : decode cX10_ribbons 45 = .ok (.iload_n 1, 1) := by decide +kernel
theorem dX10_ribbons_46 : decode cX10_ribbons 46 = .ok (.aaload, 1) := by decide +kernel
theorem dX10_ribbons_47 : decode cX10_ribbons 47 = .ok (.iload 6, 2) := by decide +kernel
theorem dX10_ribbons_49 : decode cX10_ribbons 49 = .ok (.iconst (-1), 1) := by decide +kernel
theorem dX10_ribbons_50 : decode cX10_ribbons 50 = .ok (.iconst (-1), 1) := by decide +kernel
theorem dX10_ribbons_51 : decode cX10_ribbons 51 = .ok (.invokevirtual 261, 3) := by decide +kernel
theorem dX10_ribbons_54 : decode cX10_ribbons 54 = .ok (.bipush (-2), 2) := by decide +kernel
theorem dX10_ribbons_56 : decode cX10_ribbons 56 = .ok (.if_icmp .ne 10, 3) := by decide +kernel
theorem dX10_ribbons_59 : decode cX10_ribbons 59 = .ok (.iinc 4 1, 3) := by decide +kernel
theorem dX10_ribbons_62 : decode cX10_ribbons 62 = .ok (.iload 6, 2) := by decide +kernel
theorem dX10_ribbons_64 : decode cX10_ribbons 64 = .ok (.istore 5, 2) := by decide +kernel
theorem dX10_ribbons_66 : decode cX10_ribbons 66 = .ok (.iinc 6 (-1), 3) := by decide +kernel
theorem dX10_ribbons_69 : decode cX10_ribbons 69 = .ok (.goto (-34), 3) := by decide +kernel
theorem dX10_ribbons_72 : decode cX10_ribbons 72 = .ok (.iload_n 2, 1) := by decide +kernel
theorem dX10_ribbons_73 : decode cX10_ribbons 73 = .ok (.ifCond .ne 8, 3) := by decide +kernel
theorem dX10_ribbons_76 : decode cX10_ribbons 76 = .ok (.iload 4, 2) := by decide +kernel
theorem dX10_ribbons_78 : decode cX10_ribbons 78 = .ok (.goto 5, 3) := by decide +kernel
theorem dX10_ribbons_81 : decode cX10_ribbons 81 = .ok (.iload 5, 2) := by decide +kernel
theorem dX10_ribbons_83 : decode cX10_ribbons 83 = .ok (.ireturn, 1) := by decide +kernel
def fX10_ribbons_b66 (K35 : Int32 → Int32 → Int32 → Int32 → Int32 → mS → Option (Int32 × mS)) (y1 : Int32) (y2 : Int32) (y4 : Int32) (y5 : Int32) (y6 : Int32) (s : mS) : Option (Int32 × mS) :=
  bnd (y6 + (-1)) fun v9 =>
  K35 y1 y2 y4 y5 v9 s

def fX10_ribbons_b35 : Nat → Int32 → Int32 → Int32 → Int32 → Int32 → mS → Option (Int32 × mS)
  | 0, _, _, _, _, _, _ => none
  | k + 1, y1, y2, y4, y5, y6, s =>
    if y6 < 0 then
      if y2 = 0 then
        some (y4, s)
      else
        some (y5, s)
    else
      ldS 6 y1 fun j6 =>
      bP (fX10_firstWrong j6 y6 (-1) (-1) s) fun r7 s8 =>
      if r7 = (-2) then
        bnd (y4 + (nI 1)) fun v10 =>
        bnd y6 fun v11 =>
        fX10_ribbons_b66 (fun u0 u1 u2 u3 u4 u5 => fX10_ribbons_b35 k u0 u1 u2 u3 u4 u5) y1 y2 v10 v11 y6 s8
      else
        fX10_ribbons_b66 (fun u0 u1 u2 u3 u4 u5 => fX10_ribbons_b35 k u0 u1 u2 u3 u4 u5) y1 y2 y4 y5 y6 s8

def fX10_ribbons (x1 : Int32) (x2 : Int32) (s : mS) : Option (Int32 × mS) :=
  if x2 < 0 then
    some ((-1), s)
  else
    if x2 ≤ (nI 1) then
      bO (fX10_rowRefusal x1 (nI 1) s) fun r1 =>
      bnd r1 fun v2 =>
      if v2 = 0 then
        bnd (nI 0) fun v3 =>
        bnd (-2) fun v4 =>
        bnd (nI 9) fun v5 =>
        fX10_ribbons_b35 mFu x1 x2 v3 v4 v5 s
      else
        some (v2, s)
    else
      some ((-1), s)

set_option maxRecDepth 20000 in
theorem wX10_ribbons_b66 {ρ : mRo} {d : Nat} {P : mPo} {V : mS → List mE} (hV : mView LC V)  {res : (Int32 × mS)} {K35 : Int32 → Int32 → Int32 → Int32 → Int32 → mS → Option (Int32 × mS)} (hK35 : ∀ (y1 : Int32) (y2 : Int32) (y4 : Int32) (y5 : Int32) (y6 : Int32) (s : mS), K35 y1 y2 y4 y5 y6 s = some res → mG ρ (mC ρ (d + 7)) 10 7 cX10_ribbons (some .int) P 35 [(0, .ref qT), (1, .int y1), (2, .int y2), (4, .int y4), (5, .int y5), (6, .int y6)] [] (V s)) (hP : P (some (.int res.1)) (V res.2)) (y1 : Int32) (y2 : Int32) (y4 : Int32) (y5 : Int32) (y6 : Int32) (s : mS) (hf : fX10_ribbons_b66 K35 y1 y2 y4 y5 y6 s = some res) : mG ρ (mC ρ (d + 7)) 10 7 cX10_ribbons (some .int) P 66 [(0, .ref qT), (1, .int y1), (2, .int y2), (4, .int y4), (5, .int y5), (6, .int y6)] [] (V s) := by
  unfold fX10_ribbons_b66 at hf
  refine e_iinc 5 dX10_ribbons_66 (by decide) rfl hf (fun v9 hf => ?_)
  refine e_goto 35 dX10_ribbons_69 (by decide) ?_
  refine e_pick [1, 2, 3, 4, 5, 0] rfl ?_
  exact hK35 y1 y2 y4 y5 v9 s hf
set_option maxRecDepth 20000 in
theorem wX10_ribbons_b35 {ρ : mRo} {d : Nat} {P : mPo} {V : mS → List mE} (hV : mView LC V)  {res : (Int32 × mS)} (hP : P (some (.int res.1)) (V res.2)) : ∀ (k : Nat) (y1 : Int32) (y2 : Int32) (y4 : Int32) (y5 : Int32) (y6 : Int32) (s : mS), fX10_ribbons_b35 k y1 y2 y4 y5 y6 s = some res → mG ρ (mC ρ (d + 7)) 10 7 cX10_ribbons (some .int) P 35 [(0, .ref qT), (1, .int y1), (2, .int y2), (4, .int y4), (5, .int y5), (6, .int y6)] [] (V s) := by
  intro k
  induction k with
  | zero => intro y1 y2 y4 y5 y6 s hf; rw [fX10_ribbons_b35] at hf; cases hf
  | succ k ih =>
    intro y1 y2 y4 y5 y6 s hf
    rw [fX10_ribbons_b35] at hf
    refine e_iload 5 dX10_ribbons_35 rfl ?_
    refine e_if_lt 72 dX10_ribbons_37 (by decide) hf (fun hf => ?_) (fun hf => ?_)
    · refine e_iload_n 2 dX10_ribbons_72 rfl rfl ?_
      refine e_if_ne 81 dX10_ribbons_73 (by decide) hf (fun hf => ?_) (fun hf => ?_)
      · refine e_iload 4 dX10_ribbons_81 rfl ?_
        obtain rfl := Option.some.inj hf
        exact e_iret dX10_ribbons_83 trivial hP
      · refine e_iload 3 dX10_ribbons_76 rfl ?_
        refine e_goto 83 dX10_ribbons_78 (by decide) ?_
        obtain rfl := Option.some.inj hf
        exact e_iret dX10_ribbons_83 trivial hP
    · refine e_aload_n 0 dX10_ribbons_40 rfl rfl ?_
      refine e_aload_n 0 dX10_ribbons_41 rfl rfl ?_
      refine e_getr hV dX10_ribbons_42 rfl lc_T rfl ?_
      refine e_iload_n 1 dX10_ribbons_45 rfl rfl ?_
      refine e_aald hV dX10_ribbons_46 lc_T_shelves rfl lc_T_shelves_at hf (fun j6 hj6 hf => ?_)
      refine e_iload 5 dX10_ribbons_47 rfl ?_
      refine e_iconst (w := (-1)) dX10_ribbons_49 (by decide) ?_
      refine e_iconst (w := (-1)) dX10_ribbons_50 (by decide) ?_
      obtain ⟨r7, s8, hg, hf⟩ := bP_some hf
      refine e_callV (as := [.ref (qS j6), .int y6, .int (-1), .int (-1)]) (v := (some (.int r7))) (s' := s8) hV dX10_ribbons_51 (Or.inl rfl) rfl rfl rfl rfl (Nat.le_of_ble_eq_true rfl) lc_T rfl rfl (fun Q hQ => tX10_firstWrong (d := d) hV hj6 hg hQ) ?_
      refine e_bipush (w := (-2)) dX10_ribbons_54 (by decide) ?_
      refine e_icmp_ne 66 dX10_ribbons_56 (by decide) hf (fun hf => ?_) (fun hf => ?_)
      · refine e_pick [0, 1, 2, 3, 4, 5] rfl ?_
        exact wX10_ribbons_b66 hV ih hP y1 y2 y4 y5 y6 s8 hf
      · refine e_iinc 3 dX10_ribbons_59 (by decide) rfl hf (fun v10 hf => ?_)
        refine e_iload 5 dX10_ribbons_62 rfl ?_
        refine e_istore dX10_ribbons_64 (by decide) hf (fun v11 hf => ?_)
        refine e_pick [2, 3, 4, 1, 0, 5] rfl ?_
        exact wX10_ribbons_b66 hV ih hP y1 y2 v10 v11 y6 s8 hf
set_option maxRecDepth 20000 in
theorem tX10_ribbons {ρ : mRo} {d : Nat} {P : mPo} {V : mS → List mE} (hV : mView LC V)  {x1 : Int32} {x2 : Int32} {s : mS} {res : (Int32 × mS)} (hf : fX10_ribbons x1 x2 s = some res) (hP : P (some (.int res.1)) (V res.2)) : mC ρ (d + 8) 86 [.ref qT, .int x1, .int x2] (V s) P := by
  refine ⟨_, rfl, Nat.le_of_ble_eq_true rfl, by decide, ?_⟩
  show mG ρ (mC ρ (d + 7)) 10 7 cX10_ribbons (some .int) P 0 [(0, .ref qT), (1, .int x1), (2, .int x2)] [] (V s)
  unfold fX10_ribbons at hf
  refine e_iload_n 2 dX10_ribbons_0 rfl rfl ?_
  refine e_if_lt 9 dX10_ribbons_1 (by decide) hf (fun hf => ?_) (fun hf => ?_)
  · refine e_iconst (w := (-1)) dX10_ribbons_9 (by decide) ?_
    obtain rfl := Option.some.inj hf
    exact e_iret dX10_ribbons_10 trivial hP
  · refine e_iload_n 2 dX10_ribbons_4 rfl rfl ?_
    refine e_iconst (w := (nI 1)) dX10_ribbons_5 (by decide) ?_
    refine e_icmp_le 11 dX10_ribbons_6 (by decide) hf (fun hf => ?_) (fun hf => ?_)
    · refine e_aload_n 0 dX10_ribbons_11 rfl rfl ?_
      refine e_iload_n 1 dX10_ribbons_12 rfl rfl ?_
      refine e_iconst (w := (nI 1)) dX10_ribbons_13 (by decide) ?_
      obtain ⟨r1, hg, hf⟩ := bO_some hf
      refine e_callV (as := [.int x1, .int (nI 1)]) (v := (some (.int r1))) (s' := s) hV dX10_ribbons_14 (Or.inl rfl) rfl rfl rfl rfl (Nat.le_of_ble_eq_true rfl) lc_T rfl rfl (fun Q hQ => tX10_rowRefusal (d := (d + 5)) hV  hg hQ) ?_
      refine e_istore_n dX10_ribbons_17 rfl (by decide) hf (fun v2 hf => ?_)
      refine e_iload_n 0 dX10_ribbons_18 rfl rfl ?_
      refine e_if_eq 24 dX10_ribbons_19 (by decide) hf (fun hf => ?_) (fun hf => ?_)
      · refine e_iconst (w := (nI 0)) dX10_ribbons_24 (by decide) ?_
        refine e_istore dX10_ribbons_25 (by decide) hf (fun v3 hf => ?_)
        refine e_bipush (w := (-2)) dX10_ribbons_27 (by decide) ?_
        refine e_istore dX10_ribbons_29 (by decide) hf (fun v4 hf => ?_)
        refine e_bipush (w := (nI 9)) dX10_ribbons_31 (by decide) ?_
        refine e_istore dX10_ribbons_33 (by decide) hf (fun v5 hf => ?_)
        refine e_pick [4, 5, 6, 2, 1, 0] rfl ?_
        exact wX10_ribbons_b35 hV hP mFu x1 x2 v3 v4 v5 s hf
      · refine e_iload_n 0 dX10_ribbons_22 rfl rfl ?_
        obtain rfl := Option.some.inj hf
        exact e_iret dX10_ribbons_23 trivial hP
    · refine e_iconst (w := (-1)) dX10_ribbons_9 (by decide) ?_
      obtain rfl := Option.some.inj hf
      exact e_iret dX10_ribbons_10 trivial hP

theorem dX10_morning_0 : decode cX10_morning 0 = .ok (.aload_n 0, 1) := by decide +kernel
theorem dX10_morning_1 : decode cX10_morning 1 = .ok (.getfield 10, 3) := by decide +kernel
theorem dX10_morning_4 : decode cX10_morning 4 = .ok (.iload_n 1, 1) := by decide +kernel
theorem dX10_morning_5 : decode cX10_morning 5 = .ok (.invokevirtual 174, 3) := by decide +kernel
theorem dX10_morning_8 : decode cX10_morning 8 = .ok (.ifCond .eq 22, 3) := by decide +kernel
theorem dX10_morning_11 : decode cX10_morning 11 = .ok (.iload_n 2, 1) := by decide +kernel
theorem dX10_morning_12 : decode cX10_morning 12 = .ok (.ifCond .lt 18, 3) := by decide +kernel
theorem dX10_morning_15 : decode cX10_morning 15 = .ok (.iload_n 2, 1) := by decide +kernel
theorem dX10_morning_16 : decode cX10_morning 16 = .ok (.bipush 60, 2) := by decide +kernel
theorem dX10_morning_18 : decode cX10_morning 18 = .ok (.if_icmp .gt 12, 3) := by decide +kernel
theorem dX10_morning_21 : decode cX10_morning 21 = .ok (.iload_n 3, 1) := by decide +kernel
theorem dX10_morning_22 : decode cX10_morning 22 = .ok (.ifCond .lt 8, 3) := by decide +kernel
theorem dX10_morning_25 : decode cX10_morning 25 = .ok (.iload_n 3, 1) := by decide +kernel
theorem dX10_morning_26 : decode cX10_morning 26 = .ok (.iconst 3, 1) := by decide +kernel
theorem dX10_morning_27 : decode cX10_morning 27 = .ok (.if_icmp .lt 5, 3) := by decide +kernel
theorem dX10_morning_30 : decode cX10_morning 30 = .ok (.iconst (-1), 1) := by decide +kernel
theorem dX10_morning_31 : decode cX10_morning 31 = .ok (.ireturn, 1) := by decide +kernel
theorem dX10_morning_32 : decode cX10_morning 32 = .ok (.aload_n 0, 1) := by decide +kernel
theorem dX10_morning_33 : decode cX10_morning 33 = .ok (.getfield 16, 3) := by decide +kernel
theorem dX10_morning_36 : decode cX10_morning 36 = .ok (.aload_n 0, 1) := by decide +kernel
theorem dX10_morning_37 : decode cX10_morning 37 = .ok (.getfield 10, 3) := by decide +kernel
theorem dX10_morning_40 : decode cX10_morning 40 = .ok (.invokevirtual 197, 3) := by decide +kernel
theorem dX10_morning_43 : decode cX10_morning 43 = .ok (.iconst 0, 1) := by decide +kernel
theorem dX10_morning_44 : decode cX10_morning 44 = .ok (.istore 4, 2) := by decide +kernel
theorem dX10_morning_46 : decode cX10_morning 46 = .ok (.iload 4, 2) := by decide +kernel
theorem dX10_morning_48 : decode cX10_morning 48 = .ok (.iload_n 2, 1) := by decide +kernel
theorem dX10_morning_49 : decode cX10_morning 49 = .ok (.if_icmp .ge 16, 3) := by decide +kernel
theorem dX10_morning_52 : decode cX10_morning 52 = .ok (.aload_n 0, 1) := by decide +kernel
theorem dX10_morning_53 : decode cX10_morning 53 = .ok (.getfield 16, 3) := by decide +kernel
theorem dX10_morning_56 : decode cX10_morning 56 = .ok (.invokevirtual 265, 3) := by decide +kernel
theorem dX10_morning_59 : decode cX10_morning 59 = .ok (.iinc 4 1, 3) := by decide +kernel
theorem dX10_morning_62 : decode cX10_morning 62 = .ok (.goto (-16), 3) := by decide +kernel
theorem dX10_morning_65 : decode cX10_morning 65 = .ok (.aload_n 0, 1) := by decide +kernel
theorem dX10_morning_66 : decode cX10_morning 66 = .ok (.getfield 16, 3) := by decide +kernel
theorem dX10_morning_69 : decode cX10_morning 69 = .ok (.iload_n 1, 1) := by decide +kernel
theorem dX10_morning_70 : decode cX10_morning 70 = .ok (.iload_n 3, 1) := by decide +kernel
theorem dX10_morning_71 : decode cX10_morning 71 = .ok (.invokevirtual 187, 3) := by decide +kernel
theorem dX10_morning_74 : decode cX10_morning 74 = .ok (.ireturn, 1) := by decide +kernel
def fX10_morning_b46 : Nat → Int32 → Int32 → Int32 → Int32 → mS → Option (Int32 × mS)
  | 0, _, _, _, _, _ => none
  | k + 1, y1, y2, y3, y4, s =>
    if y2 ≤ y4 then
      bO (fX6_pull 1 y1 y3 s) fun r4 =>
      some (r4, s)
    else
      bO (fX6_passNight 1 s) fun s5 =>
      bnd (y4 + (nI 1)) fun v6 =>
      fX10_morning_b46 k y1 y2 y3 v6 s5

def fX10_morning (x1 : Int32) (x2 : Int32) (x3 : Int32) (s : mS) : Option (Int32 × mS) :=
  bO (fX6_has 0 x1 s) fun r1 =>
  if r1 = 0 then
    some ((-1), s)
  else
    if x2 < 0 then
      some ((-1), s)
    else
      if (nI 60) < x2 then
        some ((-1), s)
      else
        if x3 < 0 then
          some ((-1), s)
        else
          if x3 < (nI 3) then
            bO (fX6_copy 1 0 s) fun s2 =>
            bnd (nI 0) fun v3 =>
            fX10_morning_b46 mFu x1 x2 x3 v3 s2
          else
            some ((-1), s)

set_option maxRecDepth 20000 in
theorem wX10_morning_b46 {ρ : mRo} {d : Nat} {P : mPo} {V : mS → List mE} (hV : mView LC V)  {res : (Int32 × mS)} (hP : P (some (.int res.1)) (V res.2)) : ∀ (k : Nat) (y1 : Int32) (y2 : Int32) (y3 : Int32) (y4 : Int32) (s : mS), fX10_morning_b46 k y1 y2 y3 y4 s = some res → mG ρ (mC ρ (d + 2)) 10 5 cX10_morning (some .int) P 46 [(0, .ref qT), (1, .int y1), (2, .int y2), (3, .int y3), (4, .int y4)] [] (V s) := by
  intro k
  induction k with
  | zero => intro y1 y2 y3 y4 s hf; rw [fX10_morning_b46] at hf; cases hf
  | succ k ih =>
    intro y1 y2 y3 y4 s hf
    rw [fX10_morning_b46] at hf
    refine e_iload 4 dX10_morning_46 rfl ?_
    refine e_iload_n 2 dX10_morning_48 rfl rfl ?_
    refine e_icmp_ge 65 dX10_morning_49 (by decide) hf (fun hf => ?_) (fun hf => ?_)
    · refine e_aload_n 0 dX10_morning_65 rfl rfl ?_
      refine e_getr hV dX10_morning_66 rfl lc_T rfl ?_
      refine e_iload_n 1 dX10_morning_69 rfl rfl ?_
      refine e_iload_n 3 dX10_morning_70 rfl rfl ?_
      obtain ⟨r4, hg, hf⟩ := bO_some hf
      refine e_callV (as := [.int y1, .int y3]) (v := (some (.int r4))) (s' := s) hV dX10_morning_71 (Or.inl rfl) rfl rfl rfl rfl (Nat.le_of_ble_eq_true rfl) (lc_M (by decide)) rfl rfl (fun Q hQ => tX6_pull (d := (d + 1)) hV (by decide) hg hQ) ?_
      obtain rfl := Option.some.inj hf
      exact e_iret dX10_morning_74 trivial hP
    · refine e_aload_n 0 dX10_morning_52 rfl rfl ?_
      refine e_getr hV dX10_morning_53 rfl lc_T rfl ?_
      obtain ⟨s5, hg, hf⟩ := bO_some hf
      refine e_callV (as := []) (v := none) (s' := s5) hV dX10_morning_56 (Or.inl rfl) rfl rfl rfl rfl (Nat.le_of_ble_eq_true rfl) (lc_M (by decide)) rfl rfl (fun Q hQ => tX6_passNight (d := d) hV (by decide) hg hQ) ?_
      refine e_iinc 4 dX10_morning_59 (by decide) rfl hf (fun v6 hf => ?_)
      refine e_goto 46 dX10_morning_62 (by decide) ?_
      refine e_pick [1, 2, 3, 4, 0] rfl ?_
      exact ih y1 y2 y3 v6 s5 hf
set_option maxRecDepth 20000 in
theorem tX10_morning {ρ : mRo} {d : Nat} {P : mPo} {V : mS → List mE} (hV : mView LC V)  {x1 : Int32} {x2 : Int32} {x3 : Int32} {s : mS} {res : (Int32 × mS)} (hf : fX10_morning x1 x2 x3 s = some res) (hP : P (some (.int res.1)) (V res.2)) : mC ρ (d + 3) 87 [.ref qT, .int x1, .int x2, .int x3] (V s) P := by
  refine ⟨_, rfl, Nat.le_of_ble_eq_true rfl, by decide, ?_⟩
  show mG ρ (mC ρ (d + 2)) 10 5 cX10_morning (some .int) P 0 [(0, .ref qT), (1, .int x1), (2, .int x2), (3, .int x3)] [] (V s)
  unfold fX10_morning at hf
  refine e_aload_n 0 dX10_morning_0 rfl rfl ?_
  refine e_getr hV dX10_morning_1 rfl lc_T rfl ?_
  refine e_iload_n 1 dX10_morning_4 rfl rfl ?_
  obtain ⟨r1, hg, hf⟩ := bO_some hf
  refine e_callV (as := [.int x1]) (v := (some (.int r1))) (s' := s) hV dX10_morning_5 (Or.inl rfl) rfl rfl rfl rfl (Nat.le_of_ble_eq_true rfl) (lc_M (by decide)) rfl rfl (fun Q hQ => tX6_has (d := (d + 1)) hV (by decide) hg hQ) ?_
  refine e_if_eq 30 dX10_morning_8 (by decide) hf (fun hf => ?_) (fun hf => ?_)
  · refine e_iconst (w := (-1)) dX10_morning_30 (by decide) ?_
    obtain rfl := Option.some.inj hf
    exact e_iret dX10_morning_31 trivial hP
  · refine e_iload_n 2 dX10_morning_11 rfl rfl ?_
    refine e_if_lt 30 dX10_morning_12 (by decide) hf (fun hf => ?_) (fun hf => ?_)
    · refine e_iconst (w := (-1)) dX10_morning_30 (by decide) ?_
      obtain rfl := Option.some.inj hf
      exact e_iret dX10_morning_31 trivial hP
    · refine e_iload_n 2 dX10_morning_15 rfl rfl ?_
      refine e_bipush (w := (nI 60)) dX10_morning_16 (by decide) ?_
      refine e_icmp_gt 30 dX10_morning_18 (by decide) hf (fun hf => ?_) (fun hf => ?_)
      · refine e_iconst (w := (-1)) dX10_morning_30 (by decide) ?_
        obtain rfl := Option.some.inj hf
        exact e_iret dX10_morning_31 trivial hP
      · refine e_iload_n 3 dX10_morning_21 rfl rfl ?_
        refine e_if_lt 30 dX10_morning_22 (by decide) hf (fun hf => ?_) (fun hf => ?_)
        · refine e_iconst (w := (-1)) dX10_morning_30 (by decide) ?_
          obtain rfl := Option.some.inj hf
          exact e_iret dX10_morning_31 trivial hP
        · refine e_iload_n 3 dX10_morning_25 rfl rfl ?_
          refine e_iconst (w := (nI 3)) dX10_morning_26 (by decide) ?_
          refine e_icmp_lt 32 dX10_morning_27 (by decide) hf (fun hf => ?_) (fun hf => ?_)
          · refine e_aload_n 0 dX10_morning_32 rfl rfl ?_
            refine e_getr hV dX10_morning_33 rfl lc_T rfl ?_
            refine e_aload_n 0 dX10_morning_36 rfl rfl ?_
            refine e_getr hV dX10_morning_37 rfl lc_T rfl ?_
            obtain ⟨s2, hg, hf⟩ := bO_some hf
            refine e_callV (as := [.ref (qM 0)]) (v := none) (s' := s2) hV dX10_morning_40 (Or.inl rfl) rfl rfl rfl rfl (Nat.le_of_ble_eq_true rfl) (lc_M (by decide)) rfl rfl (fun Q hQ => tX6_copy (d := d) hV (by decide) (by decide) hg hQ) ?_
            refine e_iconst (w := (nI 0)) dX10_morning_43 (by decide) ?_
            refine e_istore dX10_morning_44 (by decide) hf (fun v3 hf => ?_)
            refine e_pick [1, 2, 3, 4, 0] rfl ?_
            exact wX10_morning_b46 hV hP mFu x1 x2 x3 v3 s2 hf
          · refine e_iconst (w := (-1)) dX10_morning_30 (by decide) ?_
            obtain rfl := Option.some.inj hf
            exact e_iret dX10_morning_31 trivial hP

theorem dX10_alike_0 : decode cX10_alike 0 = .ok (.aload_n 0, 1) := by decide +kernel
theorem dX10_alike_1 : decode cX10_alike 1 = .ok (.getfield 16, 3) := by decide +kernel
theorem dX10_alike_4 : decode cX10_alike 4 = .ok (.aload_n 0, 1) := by decide +kernel
theorem dX10_alike_5 : decode cX10_alike 5 = .ok (.getfield 10, 3) := by decide +kernel
theorem dX10_alike_8 : decode cX10_alike 8 = .ok (.invokevirtual 197, 3) := by decide +kernel
theorem dX10_alike_11 : decode cX10_alike 11 = .ok (.iconst 0, 1) := by decide +kernel
theorem dX10_alike_12 : decode cX10_alike 12 = .ok (.istore_n 1, 1) := by decide +kernel
theorem dX10_alike_13 : decode cX10_alike 13 = .ok (.iload_n 1, 1) := by decide +kernel
theorem dX10_alike_14 : decode cX10_alike 14 = .ok (.bipush 99, 2) := by decide +kernel
theorem dX10_alike_16 : decode cX10_alike 16 = .ok (.if_icmp .gt 28, 3) := by decide +kernel
theorem dX10_alike_19 : decode cX10_alike 19 = .ok (.aload_n 0, 1) := by decide +kernel
theorem dX10_alike_20 : decode cX10_alike 20 = .ok (.getfield 16, 3) := by decide +kernel
theorem dX10_alike_23 : decode cX10_alike 23 = .ok (.invokevirtual 268, 3) := by decide +kernel
theorem dX10_alike_26 : decode cX10_alike 26 = .ok (.ifCond .eq 5, 3) := by decide +kernel
theorem dX10_alike_29 : decode cX10_alike 29 = .ok (.iload_n 1, 1) := by decide +kernel
theorem dX10_alike_30 : decode cX10_alike 30 = .ok (.ireturn, 1) := by decide +kernel
theorem dX10_alike_31 : decode cX10_alike 31 = .ok (.aload_n 0, 1) := by decide +kernel
theorem dX10_alike_32 : decode cX10_alike 32 = .ok (.getfield 16, 3) := by decide +kernel
theorem dX10_alike_35 : decode cX10_alike 35 = .ok (.invokevirtual 265, 3) := by decide +kernel
theorem dX10_alike_38 : decode cX10_alike 38 = .ok (.iinc 1 1, 3) := by decide +kernel
theorem dX10_alike_41 : decode cX10_alike 41 = .ok (.goto (-28), 3) := by decide +kernel
theorem dX10_alike_44 : decode cX10_alike 44 = .ok (.bipush (-2), 2) := by decide +kernel
theorem dX10_alike_46 : decode cX10_alike 46 = .ok (.ireturn, 1) := by decide +kernel
def fX10_alike_b13 : Nat → Int32 → mS → Option (Int32 × mS)
  | 0, _, _ => none
  | k + 1, y1, s =>
    if (nI 99) < y1 then
      some ((-2), s)
    else
      bO (fX6_areAllAlike 1 s) fun r3 =>
      if r3 = 0 then
        bO (fX6_passNight 1 s) fun s4 =>
        bnd (y1 + (nI 1)) fun v5 =>
        fX10_alike_b13 k v5 s4
      else
        some (y1, s)

def fX10_alike (s : mS) : Option (Int32 × mS) :=
  bO (fX6_copy 1 0 s) fun s1 =>
  bnd (nI 0) fun v2 =>
  fX10_alike_b13 mFu v2 s1

set_option maxRecDepth 20000 in
theorem wX10_alike_b13 {ρ : mRo} {d : Nat} {P : mPo} {V : mS → List mE} (hV : mView LC V)  {res : (Int32 × mS)} (hP : P (some (.int res.1)) (V res.2)) : ∀ (k : Nat) (y1 : Int32) (s : mS), fX10_alike_b13 k y1 s = some res → mG ρ (mC ρ (d + 2)) 10 2 cX10_alike (some .int) P 13 [(0, .ref qT), (1, .int y1)] [] (V s) := by
  intro k
  induction k with
  | zero => intro y1 s hf; rw [fX10_alike_b13] at hf; cases hf
  | succ k ih =>
    intro y1 s hf
    rw [fX10_alike_b13] at hf
    refine e_iload_n 1 dX10_alike_13 rfl rfl ?_
    refine e_bipush (w := (nI 99)) dX10_alike_14 (by decide) ?_
    refine e_icmp_gt 44 dX10_alike_16 (by decide) hf (fun hf => ?_) (fun hf => ?_)
    · refine e_bipush (w := (-2)) dX10_alike_44 (by decide) ?_
      obtain rfl := Option.some.inj hf
      exact e_iret dX10_alike_46 trivial hP
    · refine e_aload_n 0 dX10_alike_19 rfl rfl ?_
      refine e_getr hV dX10_alike_20 rfl lc_T rfl ?_
      obtain ⟨r3, hg, hf⟩ := bO_some hf
      refine e_callV (as := []) (v := (some (.int r3))) (s' := s) hV dX10_alike_23 (Or.inl rfl) rfl rfl rfl rfl (Nat.le_of_ble_eq_true rfl) (lc_M (by decide)) rfl rfl (fun Q hQ => tX6_areAllAlike (d := (d + 1)) hV (by decide) hg hQ) ?_
      refine e_if_eq 31 dX10_alike_26 (by decide) hf (fun hf => ?_) (fun hf => ?_)
      · refine e_aload_n 0 dX10_alike_31 rfl rfl ?_
        refine e_getr hV dX10_alike_32 rfl lc_T rfl ?_
        obtain ⟨s4, hg, hf⟩ := bO_some hf
        refine e_callV (as := []) (v := none) (s' := s4) hV dX10_alike_35 (Or.inl rfl) rfl rfl rfl rfl (Nat.le_of_ble_eq_true rfl) (lc_M (by decide)) rfl rfl (fun Q hQ => tX6_passNight (d := d) hV (by decide) hg hQ) ?_
        refine e_iinc 1 dX10_alike_38 (by decide) rfl hf (fun v5 hf => ?_)
        refine e_goto 13 dX10_alike_41 (by decide) ?_
        refine e_pick [1, 0] rfl ?_
        exact ih v5 s4 hf
      · refine e_iload_n 1 dX10_alike_29 rfl rfl ?_
        obtain rfl := Option.some.inj hf
        exact e_iret dX10_alike_30 trivial hP
set_option maxRecDepth 20000 in
theorem tX10_alike {ρ : mRo} {d : Nat} {P : mPo} {V : mS → List mE} (hV : mView LC V)  {s : mS} {res : (Int32 × mS)} (hf : fX10_alike s = some res) (hP : P (some (.int res.1)) (V res.2)) : mC ρ (d + 3) 88 [.ref qT] (V s) P := by
  refine ⟨_, rfl, Nat.le_of_ble_eq_true rfl, by decide, ?_⟩
  show mG ρ (mC ρ (d + 2)) 10 2 cX10_alike (some .int) P 0 [(0, .ref qT)] [] (V s)
  unfold fX10_alike at hf
  refine e_aload_n 0 dX10_alike_0 rfl rfl ?_
  refine e_getr hV dX10_alike_1 rfl lc_T rfl ?_
  refine e_aload_n 0 dX10_alike_4 rfl rfl ?_
  refine e_getr hV dX10_alike_5 rfl lc_T rfl ?_
  obtain ⟨s1, hg, hf⟩ := bO_some hf
  refine e_callV (as := [.ref (qM 0)]) (v := none) (s' := s1) hV dX10_alike_8 (Or.inl rfl) rfl rfl rfl rfl (Nat.le_of_ble_eq_true rfl) (lc_M (by decide)) rfl rfl (fun Q hQ => tX6_copy (d := d) hV (by decide) (by decide) hg hQ) ?_
  refine e_iconst (w := (nI 0)) dX10_alike_11 (by decide) ?_
  refine e_istore_n dX10_alike_12 rfl (by decide) hf (fun v2 hf => ?_)
  refine e_pick [1, 0] rfl ?_
  exact wX10_alike_b13 hV hP mFu v2 s1 hf

theorem dX10_pence_0 : decode cX10_pence 0 = .ok (.aload_n 0, 1) := by decide +kernel
theorem dX10_pence_1 : decode cX10_pence 1 = .ok (.iload_n 1, 1) := by decide +kernel
theorem dX10_pence_2 : decode cX10_pence 2 = .ok (.invokevirtual 212, 3) := by decide +kernel
theorem dX10_pence_5 : decode cX10_pence 5 = .ok (.istore_n 2, 1) := by decide +kernel
theorem dX10_pence_6 : decode cX10_pence 6 = .ok (.iload_n 2, 1) := by decide +kernel
theorem dX10_pence_7 : decode cX10_pence 7 = .ok (.ifCond .ge 8, 3) := by decide +kernel
theorem dX10_pence_10 : decode cX10_pence 10 = .ok (.bipush 50, 2) := by decide +kernel
theorem dX10_pence_12 : decode cX10_pence 12 = .ok (.goto 15, 3) := by decide +kernel
theorem dX10_pence_15 : decode cX10_pence 15 = .ok (.iconst 3, 1) := by decide +kernel
theorem dX10_pence_16 : decode cX10_pence 16 = .ok (.aload_n 0, 1) := by decide +kernel
theorem dX10_pence_17 : decode cX10_pence 17 = .ok (.aload_n 0, 1) := by decide +kernel
theorem dX10_pence_18 : decode cX10_pence 18 = .ok (.getfield 10, 3) := by decide +kernel
theorem dX10_pence_21 : decode cX10_pence 21 = .ok (.iload_n 2, 1) := by decide +kernel
theorem dX10_pence_22 : decode cX10_pence 22 = .ok (.iload_n 1, 1) := by decide +kernel
theorem dX10_pence_23 : decode cX10_pence 23 = .ok (.invokevirtual 205, 3) := by decide +kernel
theorem dX10_pence_26 : decode cX10_pence 26 = .ok (.imul, 1) := by decide +kernel
theorem dX10_pence_27 : decode cX10_pence 27 = .ok (.istore_n 3, 1) := by decide +kernel
theorem dX10_pence_28 : decode cX10_pence 28 = .ok (.iconst 0, 1) := by decide +kernel
theorem dX10_pence_29 : decode cX10_pence 29 = .ok (.bipush 100, 2) := by decide +kernel
theorem dX10_pence_31 : decode cX10_pence 31 = .ok (.iload_n 3, 1) := by decide +kernel
theorem dX10_pence_32 : decode cX10_pence 32 = .ok (.isub, 1) := by decide +kernel
theorem dX10_pence_33 : decode cX10_pence 33 = .ok (.aload_n 0, 1) := by decide +kernel
theorem dX10_pence_34 : decode cX10_pence 34 = .ok (.getfield 10, 3) := by decide +kernel
theorem dX10_pence_37 : decode cX10_pence 37 = .ok (.getfield 184, 3) := by decide +kernel
theorem dX10_pence_40 : decode cX10_pence 40 = .ok (.iload_n 1, 1) := by decide +kernel
theorem dX10_pence_41 : decode cX10_pence 41 = .ok (.iaload, 1) := by decide +kernel
theorem dX10_pence_42 : decode cX10_pence 42 = .ok (.iconst 2, 1) := by decide +kernel
theorem dX10_pence_43 : decode cX10_pence 43 = .ok (.idiv, 1) := by decide +kernel
theorem dX10_pence_44 : decode cX10_pence 44 = .ok (.isub, 1) := by decide +kernel
theorem dX10_pence_45 : decode cX10_pence 45 = .ok (.invokestatic 438, 3) := by decide +kernel
theorem dX10_pence_48 : decode cX10_pence 48 = .ok (.ireturn, 1) := by decide +kernel
def fX10_pence_b27 (y1 : Int32) (z0 : Int32) (s : mS) : Option Int32 :=
  bnd z0 fun v4 =>
  ldA s (aM_ages 0) 8 y1 fun v5 =>
  some (if (nI 0) < (((nI 100) - v4) - (v5 / (nI 2))) then (((nI 100) - v4) - (v5 / (nI 2))) else (nI 0))

def fX10_pence (x1 : Int32) (s : mS) : Option Int32 :=
  bO (fX10_nearestWriter x1 s) fun r1 =>
  bnd r1 fun v2 =>
  if 0 ≤ v2 then
    bO (fX10_apart 0 v2 x1 s) fun r3 =>
    fX10_pence_b27 x1 ((nI 3) * r3) s
  else
    fX10_pence_b27 x1 (nI 50) s

set_option maxRecDepth 20000 in
theorem wX10_pence_b27 {ρ : mRo} {d : Nat} {P : mPo} {V : mS → List mE} (hV : mView LC V)  {res : Int32} {s : mS} (hP : P (some (.int res)) (V s)) (y1 : Int32) (z0 : Int32) (hf : fX10_pence_b27 y1 z0 s = some res) : mG ρ (mC ρ (d + 3)) 10 4 cX10_pence (some .int) P 27 [(0, .ref qT), (1, .int y1)] [.int z0] (V s) := by
  unfold fX10_pence_b27 at hf
  refine e_istore_n dX10_pence_27 rfl (by decide) hf (fun v4 hf => ?_)
  refine e_iconst (w := (nI 0)) dX10_pence_28 (by decide) ?_
  refine e_bipush (w := (nI 100)) dX10_pence_29 (by decide) ?_
  refine e_iload_n 0 dX10_pence_31 rfl rfl ?_
  refine e_isub dX10_pence_32 ?_
  refine e_aload_n 1 dX10_pence_33 rfl rfl ?_
  refine e_getr hV dX10_pence_34 rfl lc_T rfl ?_
  refine e_getr hV dX10_pence_37 rfl (lc_M (by decide)) rfl ?_
  refine e_iload_n 2 dX10_pence_40 rfl rfl ?_
  refine e_iald hV dX10_pence_41 (lc_M_ages (by decide)) hf (fun v5 hf => ?_)
  refine e_iconst (w := (nI 2)) dX10_pence_42 (by decide) ?_
  refine e_idiv dX10_pence_43 (by decide) ?_
  refine e_isub dX10_pence_44 ?_
  refine e_max dX10_pence_45 rfl (Nat.le_of_ble_eq_true rfl) ?_
  obtain rfl := Option.some.inj hf
  exact e_iret dX10_pence_48 trivial hP
set_option maxRecDepth 20000 in
theorem tX10_pence {ρ : mRo} {d : Nat} {P : mPo} {V : mS → List mE} (hV : mView LC V)  {x1 : Int32} {s : mS} {res : Int32} (hf : fX10_pence x1 s = some res) (hP : P (some (.int res)) (V s)) : mC ρ (d + 4) 135 [.ref qT, .int x1] (V s) P := by
  refine ⟨_, rfl, Nat.le_of_ble_eq_true rfl, by decide, ?_⟩
  show mG ρ (mC ρ (d + 3)) 10 4 cX10_pence (some .int) P 0 [(0, .ref qT), (1, .int x1)] [] (V s)
  unfold fX10_pence at hf
  refine e_aload_n 0 dX10_pence_0 rfl rfl ?_
  refine e_iload_n 1 dX10_pence_1 rfl rfl ?_
  obtain ⟨r1, hg, hf⟩ := bO_some hf
  refine e_callV (as := [.int x1]) (v := (some (.int r1))) (s' := s) hV dX10_pence_2 (Or.inl rfl) rfl rfl rfl rfl (Nat.le_of_ble_eq_true rfl) lc_T rfl rfl (fun Q hQ => tX10_nearestWriter (d := d) hV  hg hQ) ?_
  refine e_istore_n dX10_pence_5 rfl (by decide) hf (fun v2 hf => ?_)
  refine e_iload_n 0 dX10_pence_6 rfl rfl ?_
  refine e_if_ge 15 dX10_pence_7 (by decide) hf (fun hf => ?_) (fun hf => ?_)
  · refine e_iconst (w := (nI 3)) dX10_pence_15 (by decide) ?_
    refine e_aload_n 1 dX10_pence_16 rfl rfl ?_
    refine e_aload_n 1 dX10_pence_17 rfl rfl ?_
    refine e_getr hV dX10_pence_18 rfl lc_T rfl ?_
    refine e_iload_n 0 dX10_pence_21 rfl rfl ?_
    refine e_iload_n 2 dX10_pence_22 rfl rfl ?_
    obtain ⟨r3, hg, hf⟩ := bO_some hf
    refine e_callV (as := [.ref (qM 0), .int v2, .int x1]) (v := (some (.int r3))) (s' := s) hV dX10_pence_23 (Or.inl rfl) rfl rfl rfl rfl (Nat.le_of_ble_eq_true rfl) lc_T rfl rfl (fun Q hQ => tX10_apart (d := (d + 1)) hV (by decide) hg hQ) ?_
    refine e_imul dX10_pence_26 ?_
    refine e_pick [1, 2] rfl ?_
    exact wX10_pence_b27 hV hP x1 ((nI 3) * r3) hf
  · refine e_bipush (w := (nI 50)) dX10_pence_10 (by decide) ?_
    refine e_goto 27 dX10_pence_12 (by decide) ?_
    refine e_pick [1, 2] rfl ?_
    exact wX10_pence_b27 hV hP x1 (nI 50) hf

theorem dX10_price_0 : decode cX10_price 0 = .ok (.aload_n 0, 1) := by decide +kernel
theorem dX10_price_1 : decode cX10_price 1 = .ok (.getfield 10, 3) := by decide +kernel
theorem dX10_price_4 : decode cX10_price 4 = .ok (.iload_n 1, 1) := by decide +kernel
theorem dX10_price_5 : decode cX10_price 5 = .ok (.invokevirtual 174, 3) := by decide +kernel
theorem dX10_price_8 : decode cX10_price 8 = .ok (.ifCond .eq 11, 3) := by decide +kernel
theorem dX10_price_11 : decode cX10_price 11 = .ok (.aload_n 0, 1) := by decide +kernel
theorem dX10_price_12 : decode cX10_price 12 = .ok (.iload_n 1, 1) := by decide +kernel
theorem dX10_price_13 : decode cX10_price 13 = .ok (.invokevirtual 271, 3) := by decide +kernel
theorem dX10_price_16 : decode cX10_price 16 = .ok (.goto 4, 3) := by decide +kernel
theorem dX10_price_19 : decode cX10_price 19 = .ok (.iconst (-1), 1) := by decide +kernel
theorem dX10_price_20 : decode cX10_price 20 = .ok (.ireturn, 1) := by decide +kernel
def fX10_price (x1 : Int32) (s : mS) : Option Int32 :=
  bO (fX6_has 0 x1 s) fun r1 =>
  if r1 = 0 then
    some (-1)
  else
    bO (fX10_pence x1 s) fun r2 =>
    some r2

set_option maxRecDepth 20000 in
theorem tX10_price {ρ : mRo} {d : Nat} {P : mPo} {V : mS → List mE} (hV : mView LC V)  {x1 : Int32} {s : mS} {res : Int32} (hf : fX10_price x1 s = some res) (hP : P (some (.int res)) (V s)) : mC ρ (d + 5) 89 [.ref qT, .int x1] (V s) P := by
  refine ⟨_, rfl, Nat.le_of_ble_eq_true rfl, by decide, ?_⟩
  show mG ρ (mC ρ (d + 4)) 10 2 cX10_price (some .int) P 0 [(0, .ref qT), (1, .int x1)] [] (V s)
  unfold fX10_price at hf
  refine e_aload_n 0 dX10_price_0 rfl rfl ?_
  refine e_getr hV dX10_price_1 rfl lc_T rfl ?_
  refine e_iload_n 1 dX10_price_4 rfl rfl ?_
  obtain ⟨r1, hg, hf⟩ := bO_some hf
  refine e_callV (as := [.int x1]) (v := (some (.int r1))) (s' := s) hV dX10_price_5 (Or.inl rfl) rfl rfl rfl rfl (Nat.le_of_ble_eq_true rfl) (lc_M (by decide)) rfl rfl (fun Q hQ => tX6_has (d := (d + 3)) hV (by decide) hg hQ) ?_
  refine e_if_eq 19 dX10_price_8 (by decide) hf (fun hf => ?_) (fun hf => ?_)
  · refine e_iconst (w := (-1)) dX10_price_19 (by decide) ?_
    obtain rfl := Option.some.inj hf
    exact e_iret dX10_price_20 trivial hP
  · refine e_aload_n 0 dX10_price_11 rfl rfl ?_
    refine e_iload_n 1 dX10_price_12 rfl rfl ?_
    obtain ⟨r2, hg, hf⟩ := bO_some hf
    refine e_callV (as := [.int x1]) (v := (some (.int r2))) (s' := s) hV dX10_price_13 (Or.inl rfl) rfl rfl rfl rfl (Nat.le_of_ble_eq_true rfl) lc_T rfl rfl (fun Q hQ => tX10_pence (d := d) hV  hg hQ) ?_
    refine e_goto 20 dX10_price_16 (by decide) ?_
    obtain rfl := Option.some.inj hf
    exact e_iret dX10_price_20 trivial hP

theorem dX10_penceOf_0 : decode cX10_penceOf 0 = .ok (.iconst 0, 1) := by decide +kernel
theorem dX10_penceOf_1 : decode cX10_penceOf 1 = .ok (.istore_n 2, 1) := by decide +kernel
theorem dX10_penceOf_2 : decode cX10_penceOf 2 = .ok (.iconst 0, 1) := by decide +kernel
theorem dX10_penceOf_3 : decode cX10_penceOf 3 = .ok (.istore_n 3, 1) := by decide +kernel
theorem dX10_penceOf_4 : decode cX10_penceOf 4 = .ok (.iload_n 3, 1) := by decide +kernel
theorem dX10_penceOf_5 : decode cX10_penceOf 5 = .ok (.aload_n 0, 1) := by decide +kernel
theorem dX10_penceOf_6 : decode cX10_penceOf 6 = .ok (.getfield 10, 3) := by decide +kernel
theorem dX10_penceOf_9 : decode cX10_penceOf 9 = .ok (.getfield 216, 3) := by decide +kernel
theorem dX10_penceOf_12 : decode cX10_penceOf 12 = .ok (.if_icmp .ge 26, 3) := by decide +kernel
theorem dX10_penceOf_15 : decode cX10_penceOf 15 = .ok (.iload_n 1, 1) := by decide +kernel
theorem dX10_penceOf_16 : decode cX10_penceOf 16 = .ok (.iconst 1, 1) := by decide +kernel
theorem dX10_penceOf_17 : decode cX10_penceOf 17 = .ok (.iload_n 3, 1) := by decide +kernel
theorem dX10_penceOf_18 : decode cX10_penceOf 18 = .ok (.ishl, 1) := by decide +kernel
theorem dX10_penceOf_19 : decode cX10_penceOf 19 = .ok (.iand, 1) := by decide +kernel
theorem dX10_penceOf_20 : decode cX10_penceOf 20 = .ok (.ifCond .eq 12, 3) := by decide +kernel
theorem dX10_penceOf_23 : decode cX10_penceOf 23 = .ok (.iload_n 2, 1) := by decide +kernel
theorem dX10_penceOf_24 : decode cX10_penceOf 24 = .ok (.aload_n 0, 1) := by decide +kernel
theorem dX10_penceOf_25 : decode cX10_penceOf 25 = .ok (.getfield 78, 3) := by decide +kernel
theorem dX10_penceOf_28 : decode cX10_penceOf 28 = .ok (.iload_n 3, 1) := by decide +kernel
theorem dX10_penceOf_29 : decode cX10_penceOf 29 = .ok (.iaload, 1) := by decide +kernel
theorem dX10_penceOf_30 : decode cX10_penceOf 30 = .ok (.iadd, 1) := by decide +kernel
theorem dX10_penceOf_31 : decode cX10_penceOf 31 = .ok (.istore_n 2, 1) := by decide +kernel
theorem dX10_penceOf_32 : decode cX10_penceOf 32 = .ok (.iinc 3 1, 3) := by decide +kernel
theorem dX10_penceOf_35 : decode cX10_penceOf 35 = .ok (.goto (-31), 3) := by decide +kernel
theorem dX10_penceOf_38 : decode cX10_penceOf 38 = .ok (.iload_n 2, 1) := by decide +kernel
theorem dX10_penceOf_39 : decode cX10_penceOf 39 = .ok (.ireturn, 1) := by decide +kernel
def fX10_penceOf_b32 (K4 : Int32 → Int32 → Int32 → mS → Option Int32) (y1 : Int32) (y2 : Int32) (y3 : Int32) (s : mS) : Option Int32 :=
  bnd (y3 + (nI 1)) fun v3 =>
  K4 y1 y2 v3 s

def fX10_penceOf_b4 : Nat → Int32 → Int32 → Int32 → mS → Option Int32
  | 0, _, _, _, _ => none
  | k + 1, y1, y2, y3, s =>
    if (gI s (iM_size 0)) ≤ y3 then
      some y2
    else
      if (y1 &&& ((nI 1) <<< (y3 &&& 31))) = 0 then
        fX10_penceOf_b32 (fun u0 u1 u2 u3 => fX10_penceOf_b4 k u0 u1 u2 u3) y1 y2 y3 s
      else
        ldA s aT_prices 8 y3 fun v4 =>
        bnd (y2 + v4) fun v5 =>
        fX10_penceOf_b32 (fun u0 u1 u2 u3 => fX10_penceOf_b4 k u0 u1 u2 u3) y1 v5 y3 s

def fX10_penceOf (x1 : Int32) (s : mS) : Option Int32 :=
  bnd (nI 0) fun v1 =>
  bnd (nI 0) fun v2 =>
  fX10_penceOf_b4 mFu x1 v1 v2 s

set_option maxRecDepth 20000 in
theorem wX10_penceOf_b32 {ρ : mRo} {d : Nat} {P : mPo} {V : mS → List mE} (hV : mView LC V)  {res : Int32} {s : mS} {K4 : Int32 → Int32 → Int32 → mS → Option Int32} (hK4 : ∀ (y1 : Int32) (y2 : Int32) (y3 : Int32), K4 y1 y2 y3 s = some res → mG ρ (mC ρ d) 10 4 cX10_penceOf (some .int) P 4 [(0, .ref qT), (1, .int y1), (2, .int y2), (3, .int y3)] [] (V s)) (hP : P (some (.int res)) (V s)) (y1 : Int32) (y2 : Int32) (y3 : Int32) (hf : fX10_penceOf_b32 K4 y1 y2 y3 s = some res) : mG ρ (mC ρ d) 10 4 cX10_penceOf (some .int) P 32 [(0, .ref qT), (1, .int y1), (2, .int y2), (3, .int y3)] [] (V s) := by
  unfold fX10_penceOf_b32 at hf
  refine e_iinc 3 dX10_penceOf_32 (by decide) rfl hf (fun v3 hf => ?_)
  refine e_goto 4 dX10_penceOf_35 (by decide) ?_
  refine e_pick [1, 2, 3, 0] rfl ?_
  exact hK4 y1 y2 v3 hf
set_option maxRecDepth 20000 in
theorem wX10_penceOf_b4 {ρ : mRo} {d : Nat} {P : mPo} {V : mS → List mE} (hV : mView LC V)  {res : Int32} {s : mS} (hP : P (some (.int res)) (V s)) : ∀ (k : Nat) (y1 : Int32) (y2 : Int32) (y3 : Int32), fX10_penceOf_b4 k y1 y2 y3 s = some res → mG ρ (mC ρ d) 10 4 cX10_penceOf (some .int) P 4 [(0, .ref qT), (1, .int y1), (2, .int y2), (3, .int y3)] [] (V s) := by
  intro k
  induction k with
  | zero => intro y1 y2 y3 hf; rw [fX10_penceOf_b4] at hf; cases hf
  | succ k ih =>
    intro y1 y2 y3 hf
    rw [fX10_penceOf_b4] at hf
    refine e_iload_n 3 dX10_penceOf_4 rfl rfl ?_
    refine e_aload_n 0 dX10_penceOf_5 rfl rfl ?_
    refine e_getr hV dX10_penceOf_6 rfl lc_T rfl ?_
    refine e_geti hV dX10_penceOf_9 rfl (lc_M (by decide)) rfl ?_
    refine e_icmp_ge 38 dX10_penceOf_12 (by decide) hf (fun hf => ?_) (fun hf => ?_)
    · refine e_iload_n 2 dX10_penceOf_38 rfl rfl ?_
      obtain rfl := Option.some.inj hf
      exact e_iret dX10_penceOf_39 trivial hP
    · refine e_iload_n 1 dX10_penceOf_15 rfl rfl ?_
      refine e_iconst (w := (nI 1)) dX10_penceOf_16 (by decide) ?_
      refine e_iload_n 3 dX10_penceOf_17 rfl rfl ?_
      refine e_ishl dX10_penceOf_18 ?_
      refine e_iand dX10_penceOf_19 ?_
      refine e_if_eq 32 dX10_penceOf_20 (by decide) hf (fun hf => ?_) (fun hf => ?_)
      · refine e_pick [0, 1, 2, 3] rfl ?_
        exact wX10_penceOf_b32 hV ih hP y1 y2 y3 hf
      · refine e_iload_n 2 dX10_penceOf_23 rfl rfl ?_
        refine e_aload_n 0 dX10_penceOf_24 rfl rfl ?_
        refine e_getr hV dX10_penceOf_25 rfl lc_T rfl ?_
        refine e_iload_n 3 dX10_penceOf_28 rfl rfl ?_
        refine e_iald hV dX10_penceOf_29 lc_T_prices hf (fun v4 hf => ?_)
        refine e_iadd dX10_penceOf_30 ?_
        refine e_istore_n dX10_penceOf_31 rfl (by decide) hf (fun v5 hf => ?_)
        refine e_pick [1, 2, 0, 3] rfl ?_
        exact wX10_penceOf_b32 hV ih hP y1 v5 y3 hf
set_option maxRecDepth 20000 in
theorem tX10_penceOf {ρ : mRo} {d : Nat} {P : mPo} {V : mS → List mE} (hV : mView LC V)  {x1 : Int32} {s : mS} {res : Int32} (hf : fX10_penceOf x1 s = some res) (hP : P (some (.int res)) (V s)) : mC ρ (d + 1) 136 [.ref qT, .int x1] (V s) P := by
  refine ⟨_, rfl, Nat.le_of_ble_eq_true rfl, by decide, ?_⟩
  show mG ρ (mC ρ d) 10 4 cX10_penceOf (some .int) P 0 [(0, .ref qT), (1, .int x1)] [] (V s)
  unfold fX10_penceOf at hf
  refine e_iconst (w := (nI 0)) dX10_penceOf_0 (by decide) ?_
  refine e_istore_n dX10_penceOf_1 rfl (by decide) hf (fun v1 hf => ?_)
  refine e_iconst (w := (nI 0)) dX10_penceOf_2 (by decide) ?_
  refine e_istore_n dX10_penceOf_3 rfl (by decide) hf (fun v2 hf => ?_)
  refine e_pick [2, 3, 1, 0] rfl ?_
  exact wX10_penceOf_b4 hV hP mFu x1 v1 v2 hf

theorem dX10_buy_0 : decode cX10_buy 0 = .ok (.iload_n 1, 1) := by decide +kernel
theorem dX10_buy_1 : decode cX10_buy 1 = .ok (.ifCond .lt 19, 3) := by decide +kernel
theorem dX10_buy_4 : decode cX10_buy 4 = .ok (.iload_n 1, 1) := by decide +kernel
theorem dX10_buy_5 : decode cX10_buy 5 = .ok (.sipush 999, 3) := by decide +kernel
theorem dX10_buy_8 : decode cX10_buy 8 = .ok (.if_icmp .gt 12, 3) := by decide +kernel
theorem dX10_buy_11 : decode cX10_buy 11 = .ok (.iload_n 2, 1) := by decide +kernel
theorem dX10_buy_12 : decode cX10_buy 12 = .ok (.ifCond .lt 8, 3) := by decide +kernel
theorem dX10_buy_15 : decode cX10_buy 15 = .ok (.iload_n 2, 1) := by decide +kernel
theorem dX10_buy_16 : decode cX10_buy 16 = .ok (.iconst 1, 1) := by decide +kernel
theorem dX10_buy_17 : decode cX10_buy 17 = .ok (.if_icmp .le 5, 3) := by decide +kernel
theorem dX10_buy_20 : decode cX10_buy 20 = .ok (.iconst (-1), 1) := by decide +kernel
theorem dX10_buy_21 : decode cX10_buy 21 = .ok (.ireturn, 1) := by decide +kernel
theorem dX10_buy_22 : decode cX10_buy 22 = .ok (.iconst 0, 1) := by decide +kernel
theorem dX10_buy_23 : decode cX10_buy 23 = .ok (.istore_n 3, 1) := by decide +kernel
theorem dX10_buy_24 : decode cX10_buy 24 = .ok (.iload_n 3, 1) := by decide +kernel
theorem dX10_buy_25 : decode cX10_buy 25 = .ok (.aload_n 0, 1) := by decide +kernel
theorem dX10_buy_26 : decode cX10_buy 26 = .ok (.getfield 10, 3) := by decide +kernel
theorem dX10_buy_29 : decode cX10_buy 29 = .ok (.getfield 216, 3) := by decide +kernel
theorem dX10_buy_32 : decode cX10_buy 32 = .ok (.if_icmp .ge 20, 3) := by decide +kernel
theorem dX10_buy_35 : decode cX10_buy 35 = .ok (.aload_n 0, 1) := by decide +kernel
theorem dX10_buy_36 : decode cX10_buy 36 = .ok (.getfield 78, 3) := by decide +kernel
theorem dX10_buy_39 : decode cX10_buy 39 = .ok (.iload_n 3, 1) := by decide +kernel
theorem dX10_buy_40 : decode cX10_buy 40 = .ok (.aload_n 0, 1) := by decide +kernel
theorem dX10_buy_41 : decode cX10_buy 41 = .ok (.iload_n 3, 1) := by decide +kernel
theorem dX10_buy_42 : decode cX10_buy 42 = .ok (.invokevirtual 271, 3) := by decide +kernel
theorem dX10_buy_45 : decode cX10_buy 45 = .ok (.iastore, 1) := by decide +kernel
theorem dX10_buy_46 : decode cX10_buy 46 = .ok (.iinc 3 1, 3) := by decide +kernel
theorem dX10_buy_49 : decode cX10_buy 49 = .ok (.goto (-25), 3) := by decide +kernel
theorem dX10_buy_52 : decode cX10_buy 52 = .ok (.iconst 0, 1) := by decide +kernel
theorem dX10_buy_53 : decode cX10_buy 53 = .ok (.istore_n 3, 1) := by decide +kernel
theorem dX10_buy_54 : decode cX10_buy 54 = .ok (.iconst 0, 1) := by decide +kernel
theorem dX10_buy_55 : decode cX10_buy 55 = .ok (.istore 4, 2) := by decide +kernel
theorem dX10_buy_57 : decode cX10_buy 57 = .ok (.iconst 1, 1) := by decide +kernel
theorem dX10_buy_58 : decode cX10_buy 58 = .ok (.istore 5, 2) := by decide +kernel
theorem dX10_buy_60 : decode cX10_buy 60 = .ok (.iload 5, 2) := by decide +kernel
theorem dX10_buy_62 : decode cX10_buy 62 = .ok (.iconst 1, 1) := by decide +kernel
theorem dX10_buy_63 : decode cX10_buy 63 = .ok (.aload_n 0, 1) := by decide +kernel
theorem dX10_buy_64 : decode cX10_buy 64 = .ok (.getfield 10, 3) := by decide +kernel
theorem dX10_buy_67 : decode cX10_buy 67 = .ok (.getfield 216, 3) := by decide +kernel
theorem dX10_buy_70 : decode cX10_buy 70 = .ok (.ishl, 1) := by decide +kernel
theorem dX10_buy_71 : decode cX10_buy 71 = .ok (.if_icmp .ge 59, 3) := by decide +kernel
theorem dX10_buy_74 : decode cX10_buy 74 = .ok (.aload_n 0, 1) := by decide +kernel
theorem dX10_buy_75 : decode cX10_buy 75 = .ok (.iload 5, 2) := by decide +kernel
theorem dX10_buy_77 : decode cX10_buy 77 = .ok (.invokevirtual 274, 3) := by decide +kernel
theorem dX10_buy_80 : decode cX10_buy 80 = .ok (.istore 6, 2) := by decide +kernel
theorem dX10_buy_82 : decode cX10_buy 82 = .ok (.iload 5, 2) := by decide +kernel
theorem dX10_buy_84 : decode cX10_buy 84 = .ok (.invokestatic 246, 3) := by decide +kernel
theorem dX10_buy_87 : decode cX10_buy 87 = .ok (.iload_n 3, 1) := by decide +kernel
theorem dX10_buy_88 : decode cX10_buy 88 = .ok (.invokestatic 246, 3) := by decide +kernel
theorem dX10_buy_91 : decode cX10_buy 91 = .ok (.isub, 1) := by decide +kernel
theorem dX10_buy_92 : decode cX10_buy 92 = .ok (.istore 7, 2) := by decide +kernel
theorem dX10_buy_94 : decode cX10_buy 94 = .ok (.iload 6, 2) := by decide +kernel
theorem dX10_buy_96 : decode cX10_buy 96 = .ok (.iload_n 1, 1) := by decide +kernel
theorem dX10_buy_97 : decode cX10_buy 97 = .ok (.if_icmp .gt 27, 3) := by decide +kernel
theorem dX10_buy_100 : decode cX10_buy 100 = .ok (.iload 7, 2) := by decide +kernel
theorem dX10_buy_102 : decode cX10_buy 102 = .ok (.ifCond .gt 15, 3) := by decide +kernel
theorem dX10_buy_105 : decode cX10_buy 105 = .ok (.iload 7, 2) := by decide +kernel
theorem dX10_buy_107 : decode cX10_buy 107 = .ok (.ifCond .ne 17, 3) := by decide +kernel
theorem dX10_buy_110 : decode cX10_buy 110 = .ok (.iload 6, 2) := by decide +kernel
theorem dX10_buy_112 : decode cX10_buy 112 = .ok (.iload 4, 2) := by decide +kernel
theorem dX10_buy_114 : decode cX10_buy 114 = .ok (.if_icmp .ge 10, 3) := by decide +kernel
theorem dX10_buy_117 : decode cX10_buy 117 = .ok (.iload 5, 2) := by decide +kernel
theorem dX10_buy_119 : decode cX10_buy 119 = .ok (.istore_n 3, 1) := by decide +kernel
theorem dX10_buy_120 : decode cX10_buy 120 = .ok (.iload 6, 2) := by decide +kernel
theorem dX10_buy_122 : decode cX10_buy 122 = .ok (.istore 4, 2) := by decide +kernel
theorem dX10_buy_124 : decode cX10_buy 124 = .ok (.iinc 5 1, 3) := by decide +kernel
theorem dX10_buy_127 : decode cX10_buy 127 = .ok (.goto (-67), 3) := by decide +kernel
theorem dX10_buy_130 : decode cX10_buy 130 = .ok (.iload_n 2, 1) := by decide +kernel
theorem dX10_buy_131 : decode cX10_buy 131 = .ok (.ifCond .ne 10, 3) := by decide +kernel
theorem dX10_buy_134 : decode cX10_buy 134 = .ok (.iload_n 3, 1) := by decide +kernel
theorem dX10_buy_135 : decode cX10_buy 135 = .ok (.invokestatic 246, 3) := by decide +kernel
theorem dX10_buy_138 : decode cX10_buy 138 = .ok (.goto 4, 3) := by decide +kernel
theorem dX10_buy_141 : decode cX10_buy 141 = .ok (.iload_n 3, 1) := by decide +kernel
theorem dX10_buy_142 : decode cX10_buy 142 = .ok (.ireturn, 1) := by decide +kernel
def fX10_buy_b124 (K60 : Int32 → Int32 → Int32 → Int32 → Int32 → mS → Option (Int32 × mS)) (y1 : Int32) (y2 : Int32) (y3 : Int32) (y4 : Int32) (y5 : Int32) (s : mS) : Option (Int32 × mS) :=
  bnd (y5 + (nI 1)) fun v11 =>
  K60 y1 y2 y3 y4 v11 s

def fX10_buy_b117 (K60 : Int32 → Int32 → Int32 → Int32 → Int32 → mS → Option (Int32 × mS)) (y1 : Int32) (y2 : Int32) (y5 : Int32) (y6 : Int32) (s : mS) : Option (Int32 × mS) :=
  bnd y5 fun v12 =>
  bnd y6 fun v13 =>
  fX10_buy_b124 K60 y1 y2 v12 v13 y5 s

def fX10_buy_b60 : Nat → Int32 → Int32 → Int32 → Int32 → Int32 → mS → Option (Int32 × mS)
  | 0, _, _, _, _, _, _ => none
  | k + 1, y1, y2, y3, y4, y5, s =>
    if ((nI 1) <<< ((gI s (iM_size 0)) &&& 31)) ≤ y5 then
      if y2 = 0 then
        bO (fJ6_bitCount_0f7a4 y3 s) fun r5 =>
        some (r5, s)
      else
        some (y3, s)
    else
      bO (fX10_penceOf y5 s) fun r6 =>
      bnd r6 fun v7 =>
      bO (fJ6_bitCount_0f7a4 y5 s) fun r8 =>
      bO (fJ6_bitCount_0f7a4 y3 s) fun r9 =>
      bnd (r8 - r9) fun v10 =>
      if y1 < v7 then
        fX10_buy_b124 (fun u0 u1 u2 u3 u4 u5 => fX10_buy_b60 k u0 u1 u2 u3 u4 u5) y1 y2 y3 y4 y5 s
      else
        if 0 < v10 then
          fX10_buy_b117 (fun u0 u1 u2 u3 u4 u5 => fX10_buy_b60 k u0 u1 u2 u3 u4 u5) y1 y2 y5 v7 s
        else
          if v10 = 0 then
            if y4 ≤ v7 then
              fX10_buy_b124 (fun u0 u1 u2 u3 u4 u5 => fX10_buy_b60 k u0 u1 u2 u3 u4 u5) y1 y2 y3 y4 y5 s
            else
              fX10_buy_b117 (fun u0 u1 u2 u3 u4 u5 => fX10_buy_b60 k u0 u1 u2 u3 u4 u5) y1 y2 y5 v7 s
          else
            fX10_buy_b124 (fun u0 u1 u2 u3 u4 u5 => fX10_buy_b60 k u0 u1 u2 u3 u4 u5) y1 y2 y3 y4 y5 s

def fX10_buy_b24 : Nat → Int32 → Int32 → Int32 → mS → Option (Int32 × mS)
  | 0, _, _, _, _ => none
  | k + 1, y1, y2, y3, s =>
    if (gI s (iM_size 0)) ≤ y3 then
      bnd (nI 0) fun v2 =>
      bnd (nI 0) fun v3 =>
      bnd (nI 1) fun v4 =>
      fX10_buy_b60 mFu y1 y2 v2 v3 v4 s
    else
      bO (fX10_pence y3 s) fun r14 =>
      stA s aT_prices 8 y3 r14 fun s15 =>
      bnd (y3 + (nI 1)) fun v16 =>
      fX10_buy_b24 k y1 y2 v16 s15

def fX10_buy (x1 : Int32) (x2 : Int32) (s : mS) : Option (Int32 × mS) :=
  if x1 < 0 then
    some ((-1), s)
  else
    if (nI 999) < x1 then
      some ((-1), s)
    else
      if x2 < 0 then
        some ((-1), s)
      else
        if x2 ≤ (nI 1) then
          bnd (nI 0) fun v1 =>
          fX10_buy_b24 mFu x1 x2 v1 s
        else
          some ((-1), s)

set_option maxRecDepth 20000 in
theorem wX10_buy_b124 {ρ : mRo} {d : Nat} {P : mPo} {V : mS → List mE} (hV : mView LC V)  {res : (Int32 × mS)} {K60 : Int32 → Int32 → Int32 → Int32 → Int32 → mS → Option (Int32 × mS)} (hK60 : ∀ (y1 : Int32) (y2 : Int32) (y3 : Int32) (y4 : Int32) (y5 : Int32) (s : mS), K60 y1 y2 y3 y4 y5 s = some res → mG ρ (mC ρ (d + 4)) 10 8 cX10_buy (some .int) P 60 [(0, .ref qT), (1, .int y1), (2, .int y2), (3, .int y3), (4, .int y4), (5, .int y5)] [] (V s)) (hP : P (some (.int res.1)) (V res.2)) (y1 : Int32) (y2 : Int32) (y3 : Int32) (y4 : Int32) (y5 : Int32) (s : mS) (hf : fX10_buy_b124 K60 y1 y2 y3 y4 y5 s = some res) : mG ρ (mC ρ (d + 4)) 10 8 cX10_buy (some .int) P 124 [(0, .ref qT), (1, .int y1), (2, .int y2), (3, .int y3), (4, .int y4), (5, .int y5)] [] (V s) := by
  unfold fX10_buy_b124 at hf
  refine e_iinc 5 dX10_buy_124 (by decide) rfl hf (fun v11 hf => ?_)
  refine e_goto 60 dX10_buy_127 (by decide) ?_
  refine e_pick [1, 2, 3, 4, 5, 0] rfl ?_
  exact hK60 y1 y2 y3 y4 v11 s hf
set_option maxRecDepth 20000 in
theorem wX10_buy_b117 {ρ : mRo} {d : Nat} {P : mPo} {V : mS → List mE} (hV : mView LC V)  {res : (Int32 × mS)} {K60 : Int32 → Int32 → Int32 → Int32 → Int32 → mS → Option (Int32 × mS)} (hK60 : ∀ (y1 : Int32) (y2 : Int32) (y3 : Int32) (y4 : Int32) (y5 : Int32) (s : mS), K60 y1 y2 y3 y4 y5 s = some res → mG ρ (mC ρ (d + 4)) 10 8 cX10_buy (some .int) P 60 [(0, .ref qT), (1, .int y1), (2, .int y2), (3, .int y3), (4, .int y4), (5, .int y5)] [] (V s)) (hP : P (some (.int res.1)) (V res.2)) (y1 : Int32) (y2 : Int32) (y5 : Int32) (y6 : Int32) (s : mS) (hf : fX10_buy_b117 K60 y1 y2 y5 y6 s = some res) : mG ρ (mC ρ (d + 4)) 10 8 cX10_buy (some .int) P 117 [(0, .ref qT), (1, .int y1), (2, .int y2), (5, .int y5), (6, .int y6)] [] (V s) := by
  unfold fX10_buy_b117 at hf
  refine e_iload 3 dX10_buy_117 rfl ?_
  refine e_istore_n dX10_buy_119 rfl (by decide) hf (fun v12 hf => ?_)
  refine e_iload 5 dX10_buy_120 rfl ?_
  refine e_istore dX10_buy_122 (by decide) hf (fun v13 hf => ?_)
  refine e_pick [2, 3, 4, 1, 0, 5] rfl ?_
  exact wX10_buy_b124 hV hK60 hP y1 y2 v12 v13 y5 s hf
set_option maxRecDepth 20000 in
theorem wX10_buy_b60 {ρ : mRo} {d : Nat} {P : mPo} {V : mS → List mE} (hV : mView LC V)  {res : (Int32 × mS)} (hP : P (some (.int res.1)) (V res.2)) : ∀ (k : Nat) (y1 : Int32) (y2 : Int32) (y3 : Int32) (y4 : Int32) (y5 : Int32) (s : mS), fX10_buy_b60 k y1 y2 y3 y4 y5 s = some res → mG ρ (mC ρ (d + 4)) 10 8 cX10_buy (some .int) P 60 [(0, .ref qT), (1, .int y1), (2, .int y2), (3, .int y3), (4, .int y4), (5, .int y5)] [] (V s) := by
  intro k
  induction k with
  | zero => intro y1 y2 y3 y4 y5 s hf; rw [fX10_buy_b60] at hf; cases hf
  | succ k ih =>
    intro y1 y2 y3 y4 y5 s hf
    rw [fX10_buy_b60] at hf
    refine e_iload 5 dX10_buy_60 rfl ?_
    refine e_iconst (w := (nI 1)) dX10_buy_62 (by decide) ?_
    refine e_aload_n 0 dX10_buy_63 rfl rfl ?_
    refine e_getr hV dX10_buy_64 rfl lc_T rfl ?_
    refine e_geti hV dX10_buy_67 rfl (lc_M (by decide)) rfl ?_
    refine e_ishl dX10_buy_70 ?_
    refine e_icmp_ge 130 dX10_buy_71 (by decide) hf (fun hf => ?_) (fun hf => ?_)
    · refine e_iload_n 2 dX10_buy_130 rfl rfl ?_
      refine e_if_ne 141 dX10_buy_131 (by decide) hf (fun hf => ?_) (fun hf => ?_)
      · refine e_iload_n 3 dX10_buy_141 rfl rfl ?_
        obtain rfl := Option.some.inj hf
        exact e_iret dX10_buy_142 trivial hP
      · refine e_iload_n 3 dX10_buy_134 rfl rfl ?_
        obtain ⟨r5, hg, hf⟩ := bO_some hf
        refine e_callS (as := [.int y3]) (v := (some (.int r5))) (s' := s) dX10_buy_135 rfl rfl rfl rfl rfl (Nat.le_of_ble_eq_true rfl) (fun Q hQ => tJ6_bitCount_0f7a4 (d := (d + 3)) hV  hg hQ) ?_
        refine e_goto 142 dX10_buy_138 (by decide) ?_
        obtain rfl := Option.some.inj hf
        exact e_iret dX10_buy_142 trivial hP
    · refine e_aload_n 0 dX10_buy_74 rfl rfl ?_
      refine e_iload 5 dX10_buy_75 rfl ?_
      obtain ⟨r6, hg, hf⟩ := bO_some hf
      refine e_callV (as := [.int y5]) (v := (some (.int r6))) (s' := s) hV dX10_buy_77 (Or.inl rfl) rfl rfl rfl rfl (Nat.le_of_ble_eq_true rfl) lc_T rfl rfl (fun Q hQ => tX10_penceOf (d := (d + 3)) hV  hg hQ) ?_
      refine e_istore dX10_buy_80 (by decide) hf (fun v7 hf => ?_)
      refine e_iload 6 dX10_buy_82 rfl ?_
      obtain ⟨r8, hg, hf⟩ := bO_some hf
      refine e_callS (as := [.int y5]) (v := (some (.int r8))) (s' := s) dX10_buy_84 rfl rfl rfl rfl rfl (Nat.le_of_ble_eq_true rfl) (fun Q hQ => tJ6_bitCount_0f7a4 (d := (d + 3)) hV  hg hQ) ?_
      refine e_iload_n 4 dX10_buy_87 rfl rfl ?_
      obtain ⟨r9, hg, hf⟩ := bO_some hf
      refine e_callS (as := [.int y3]) (v := (some (.int r9))) (s' := s) dX10_buy_88 rfl rfl rfl rfl rfl (Nat.le_of_ble_eq_true rfl) (fun Q hQ => tJ6_bitCount_0f7a4 (d := (d + 3)) hV  hg hQ) ?_
      refine e_isub dX10_buy_91 ?_
      refine e_istore dX10_buy_92 (by decide) hf (fun v10 hf => ?_)
      refine e_iload 1 dX10_buy_94 rfl ?_
      refine e_iload_n 3 dX10_buy_96 rfl rfl ?_
      refine e_icmp_gt 124 dX10_buy_97 (by decide) hf (fun hf => ?_) (fun hf => ?_)
      · refine e_pick [2, 3, 4, 5, 6, 7] rfl ?_
        exact wX10_buy_b124 hV ih hP y1 y2 y3 y4 y5 s hf
      · refine e_iload 0 dX10_buy_100 rfl ?_
        refine e_if_gt 117 dX10_buy_102 (by decide) hf (fun hf => ?_) (fun hf => ?_)
        · refine e_pick [2, 3, 4, 7, 1] rfl ?_
          exact wX10_buy_b117 hV ih hP y1 y2 y5 v7 s hf
        · refine e_iload 0 dX10_buy_105 rfl ?_
          refine e_if_ne 124 dX10_buy_107 (by decide) hf (fun hf => ?_) (fun hf => ?_)
          · refine e_pick [2, 3, 4, 5, 6, 7] rfl ?_
            exact wX10_buy_b124 hV ih hP y1 y2 y3 y4 y5 s hf
          · refine e_iload 1 dX10_buy_110 rfl ?_
            refine e_iload 6 dX10_buy_112 rfl ?_
            refine e_icmp_ge 124 dX10_buy_114 (by decide) hf (fun hf => ?_) (fun hf => ?_)
            · refine e_pick [2, 3, 4, 5, 6, 7] rfl ?_
              exact wX10_buy_b124 hV ih hP y1 y2 y3 y4 y5 s hf
            · refine e_pick [2, 3, 4, 7, 1] rfl ?_
              exact wX10_buy_b117 hV ih hP y1 y2 y5 v7 s hf
set_option maxRecDepth 20000 in
theorem wX10_buy_b24 {ρ : mRo} {d : Nat} {P : mPo} {V : mS → List mE} (hV : mView LC V)  {res : (Int32 × mS)} (hP : P (some (.int res.1)) (V res.2)) : ∀ (k : Nat) (y1 : Int32) (y2 : Int32) (y3 : Int32) (s : mS), fX10_buy_b24 k y1 y2 y3 s = some res → mG ρ (mC ρ (d + 4)) 10 8 cX10_buy (some .int) P 24 [(0, .ref qT), (1, .int y1), (2, .int y2), (3, .int y3)] [] (V s) := by
  intro k
  induction k with
  | zero => intro y1 y2 y3 s hf; rw [fX10_buy_b24] at hf; cases hf
  | succ k ih =>
    intro y1 y2 y3 s hf
    rw [fX10_buy_b24] at hf
    refine e_iload_n 3 dX10_buy_24 rfl rfl ?_
    refine e_aload_n 0 dX10_buy_25 rfl rfl ?_
    refine e_getr hV dX10_buy_26 rfl lc_T rfl ?_
    refine e_geti hV dX10_buy_29 rfl (lc_M (by decide)) rfl ?_
    refine e_icmp_ge 52 dX10_buy_32 (by decide) hf (fun hf => ?_) (fun hf => ?_)
    · refine e_iconst (w := (nI 0)) dX10_buy_52 (by decide) ?_
      refine e_istore_n dX10_buy_53 rfl (by decide) hf (fun v2 hf => ?_)
      refine e_iconst (w := (nI 0)) dX10_buy_54 (by decide) ?_
      refine e_istore dX10_buy_55 (by decide) hf (fun v3 hf => ?_)
      refine e_iconst (w := (nI 1)) dX10_buy_57 (by decide) ?_
      refine e_istore dX10_buy_58 (by decide) hf (fun v4 hf => ?_)
      refine e_pick [3, 4, 5, 2, 1, 0] rfl ?_
      exact wX10_buy_b60 hV hP mFu y1 y2 v2 v3 v4 s hf
    · refine e_aload_n 0 dX10_buy_35 rfl rfl ?_
      refine e_getr hV dX10_buy_36 rfl lc_T rfl ?_
      refine e_iload_n 3 dX10_buy_39 rfl rfl ?_
      refine e_aload_n 0 dX10_buy_40 rfl rfl ?_
      refine e_iload_n 3 dX10_buy_41 rfl rfl ?_
      obtain ⟨r14, hg, hf⟩ := bO_some hf
      refine e_callV (as := [.int y3]) (v := (some (.int r14))) (s' := s) hV dX10_buy_42 (Or.inl rfl) rfl rfl rfl rfl (Nat.le_of_ble_eq_true rfl) lc_T rfl rfl (fun Q hQ => tX10_pence (d := d) hV  hg hQ) ?_
      refine e_iast hV dX10_buy_45 lc_T_prices hf (fun s15 hf => ?_)
      refine e_iinc 3 dX10_buy_46 (by decide) rfl hf (fun v16 hf => ?_)
      refine e_goto 24 dX10_buy_49 (by decide) ?_
      refine e_pick [1, 2, 3, 0] rfl ?_
      exact ih y1 y2 v16 s15 hf
set_option maxRecDepth 20000 in
theorem tX10_buy {ρ : mRo} {d : Nat} {P : mPo} {V : mS → List mE} (hV : mView LC V)  {x1 : Int32} {x2 : Int32} {s : mS} {res : (Int32 × mS)} (hf : fX10_buy x1 x2 s = some res) (hP : P (some (.int res.1)) (V res.2)) : mC ρ (d + 5) 90 [.ref qT, .int x1, .int x2] (V s) P := by
  refine ⟨_, rfl, Nat.le_of_ble_eq_true rfl, by decide, ?_⟩
  show mG ρ (mC ρ (d + 4)) 10 8 cX10_buy (some .int) P 0 [(0, .ref qT), (1, .int x1), (2, .int x2)] [] (V s)
  unfold fX10_buy at hf
  refine e_iload_n 1 dX10_buy_0 rfl rfl ?_
  refine e_if_lt 20 dX10_buy_1 (by decide) hf (fun hf => ?_) (fun hf => ?_)
  · refine e_iconst (w := (-1)) dX10_buy_20 (by decide) ?_
    obtain rfl := Option.some.inj hf
    exact e_iret dX10_buy_21 trivial hP
  · refine e_iload_n 1 dX10_buy_4 rfl rfl ?_
    refine e_sipush (w := (nI 999)) dX10_buy_5 (by decide) ?_
    refine e_icmp_gt 20 dX10_buy_8 (by decide) hf (fun hf => ?_) (fun hf => ?_)
    · refine e_iconst (w := (-1)) dX10_buy_20 (by decide) ?_
      obtain rfl := Option.some.inj hf
      exact e_iret dX10_buy_21 trivial hP
    · refine e_iload_n 2 dX10_buy_11 rfl rfl ?_
      refine e_if_lt 20 dX10_buy_12 (by decide) hf (fun hf => ?_) (fun hf => ?_)
      · refine e_iconst (w := (-1)) dX10_buy_20 (by decide) ?_
        obtain rfl := Option.some.inj hf
        exact e_iret dX10_buy_21 trivial hP
      · refine e_iload_n 2 dX10_buy_15 rfl rfl ?_
        refine e_iconst (w := (nI 1)) dX10_buy_16 (by decide) ?_
        refine e_icmp_le 22 dX10_buy_17 (by decide) hf (fun hf => ?_) (fun hf => ?_)
        · refine e_iconst (w := (nI 0)) dX10_buy_22 (by decide) ?_
          refine e_istore_n dX10_buy_23 rfl (by decide) hf (fun v1 hf => ?_)
          refine e_pick [1, 2, 3, 0] rfl ?_
          exact wX10_buy_b24 hV hP mFu x1 x2 v1 s hf
        · refine e_iconst (w := (-1)) dX10_buy_20 (by decide) ?_
          obtain rfl := Option.some.inj hf
          exact e_iret dX10_buy_21 trivial hP

theorem dX10_allApart_0 : decode cX10_allApart 0 = .ok (.iconst 0, 1) := by decide +kernel
theorem dX10_allApart_1 : decode cX10_allApart 1 = .ok (.istore_n 2, 1) := by decide +kernel
theorem dX10_allApart_2 : decode cX10_allApart 2 = .ok (.iconst 0, 1) := by decide +kernel
theorem dX10_allApart_3 : decode cX10_allApart 3 = .ok (.istore_n 3, 1) := by decide +kernel
theorem dX10_allApart_4 : decode cX10_allApart 4 = .ok (.iload_n 3, 1) := by decide +kernel
theorem dX10_allApart_5 : decode cX10_allApart 5 = .ok (.aload_n 0, 1) := by decide +kernel
theorem dX10_allApart_6 : decode cX10_allApart 6 = .ok (.getfield 22, 3) := by decide +kernel
theorem dX10_allApart_9 : decode cX10_allApart 9 = .ok (.getfield 215, 3) := by decide +kernel
theorem dX10_allApart_12 : decode cX10_allApart 12 = .ok (.if_icmp .ge 38, 3) := by decide +kernel
theorem dX10_allApart_15 : decode cX10_allApart 15 = .ok (.iconst 0, 1) := by decide +kernel
theorem dX10_allApart_16 : decode cX10_allApart 16 = .ok (.istore 4, 2) := by decide +kernel
theorem dX10_allApart_18 : decode cX10_allApart 18 = .ok (.iload 4, 2) := by decide +kernel
theorem dX10_allApart_20 : decode cX10_allApart 20 = .ok (.aload_n 1, 1) := by decide +kernel
theorem dX10_allApart_21 : decode cX10_allApart 21 = .ok (.getfield 216, 3) := by decide +kernel
theorem dX10_allApart_24 : decode cX10_allApart 24 = .ok (.if_icmp .ge 20, 3) := by decide +kernel
theorem dX10_allApart_27 : decode cX10_allApart 27 = .ok (.iload_n 2, 1) := by decide +kernel
theorem dX10_allApart_28 : decode cX10_allApart 28 = .ok (.aload_n 0, 1) := by decide +kernel
theorem dX10_allApart_29 : decode cX10_allApart 29 = .ok (.aload_n 1, 1) := by decide +kernel
theorem dX10_allApart_30 : decode cX10_allApart 30 = .ok (.iload_n 3, 1) := by decide +kernel
theorem dX10_allApart_31 : decode cX10_allApart 31 = .ok (.iload 4, 2) := by decide +kernel
theorem dX10_allApart_33 : decode cX10_allApart 33 = .ok (.invokevirtual 205, 3) := by decide +kernel
theorem dX10_allApart_36 : decode cX10_allApart 36 = .ok (.iadd, 1) := by decide +kernel
theorem dX10_allApart_37 : decode cX10_allApart 37 = .ok (.istore_n 2, 1) := by decide +kernel
theorem dX10_allApart_38 : decode cX10_allApart 38 = .ok (.iinc 4 1, 3) := by decide +kernel
theorem dX10_allApart_41 : decode cX10_allApart 41 = .ok (.goto (-23), 3) := by decide +kernel
theorem dX10_allApart_44 : decode cX10_allApart 44 = .ok (.iinc 3 1, 3) := by decide +kernel
theorem dX10_allApart_47 : decode cX10_allApart 47 = .ok (.goto (-43), 3) := by decide +kernel
theorem dX10_allApart_50 : decode cX10_allApart 50 = .ok (.iload_n 2, 1) := by decide +kernel
theorem dX10_allApart_51 : decode cX10_allApart 51 = .ok (.ireturn, 1) := by decide +kernel
def fX10_allApart_b18 (K4 : Nat → Int32 → Int32 → mS → Option Int32) : Nat → Nat → Int32 → Int32 → Int32 → mS → Option Int32
  | 0, _, _, _, _, _ => none
  | k + 1, k1, y2, y3, y4, s =>
    if (gI s (iM_size k1)) ≤ y4 then
      bnd (y3 + (nI 1)) fun v4 =>
      K4 k1 y2 v4 s
    else
      bO (fX10_apart k1 y3 y4 s) fun r5 =>
      bnd (y2 + r5) fun v6 =>
      bnd (y4 + (nI 1)) fun v7 =>
      fX10_allApart_b18 K4 k k1 v6 y3 v7 s

def fX10_allApart_b4 : Nat → Nat → Int32 → Int32 → mS → Option Int32
  | 0, _, _, _, _ => none
  | k + 1, k1, y2, y3, s =>
    if (gI s (iW_size 0)) ≤ y3 then
      some y2
    else
      bnd (nI 0) fun v3 =>
      fX10_allApart_b18 (fun u0 u1 u2 u3 => fX10_allApart_b4 k u0 u1 u2 u3) mFu k1 y2 y3 v3 s

def fX10_allApart (k1 : Nat) (s : mS) : Option Int32 :=
  bnd (nI 0) fun v1 =>
  bnd (nI 0) fun v2 =>
  fX10_allApart_b4 mFu k1 v1 v2 s

set_option maxRecDepth 20000 in
theorem wX10_allApart_b18 {ρ : mRo} {d : Nat} {P : mPo} {V : mS → List mE} (hV : mView LC V)  {res : Int32} {s : mS} {K4 : Nat → Int32 → Int32 → mS → Option Int32} (hK4 : ∀ (k1 : Nat) (hk1 : k1 < 3) (y2 : Int32) (y3 : Int32), K4 k1 y2 y3 s = some res → mG ρ (mC ρ (d + 2)) 10 5 cX10_allApart (some .int) P 4 [(0, .ref qT), (1, .ref (qM k1)), (2, .int y2), (3, .int y3)] [] (V s)) (hP : P (some (.int res)) (V s)) : ∀ (k : Nat) (k1 : Nat) (hk1 : k1 < 3) (y2 : Int32) (y3 : Int32) (y4 : Int32), fX10_allApart_b18 K4 k k1 y2 y3 y4 s = some res → mG ρ (mC ρ (d + 2)) 10 5 cX10_allApart (some .int) P 18 [(0, .ref qT), (1, .ref (qM k1)), (2, .int y2), (3, .int y3), (4, .int y4)] [] (V s) := by
  intro k
  induction k with
  | zero => intro k1 hk1 y2 y3 y4 hf; rw [fX10_allApart_b18] at hf; cases hf
  | succ k ih =>
    intro k1 hk1 y2 y3 y4 hf
    rw [fX10_allApart_b18] at hf
    refine e_iload 4 dX10_allApart_18 rfl ?_
    refine e_aload_n 1 dX10_allApart_20 rfl rfl ?_
    refine e_geti hV dX10_allApart_21 rfl (lc_M hk1) rfl ?_
    refine e_icmp_ge 44 dX10_allApart_24 (by decide) hf (fun hf => ?_) (fun hf => ?_)
    · refine e_iinc 3 dX10_allApart_44 (by decide) rfl hf (fun v4 hf => ?_)
      refine e_goto 4 dX10_allApart_47 (by decide) ?_
      refine e_pick [1, 2, 3, 0] rfl ?_
      exact hK4 k1 hk1 y2 v4 hf
    · refine e_iload_n 2 dX10_allApart_27 rfl rfl ?_
      refine e_aload_n 0 dX10_allApart_28 rfl rfl ?_
      refine e_aload_n 1 dX10_allApart_29 rfl rfl ?_
      refine e_iload_n 3 dX10_allApart_30 rfl rfl ?_
      refine e_iload 4 dX10_allApart_31 rfl ?_
      obtain ⟨r5, hg, hf⟩ := bO_some hf
      refine e_callV (as := [.ref (qM k1), .int y3, .int y4]) (v := (some (.int r5))) (s' := s) hV dX10_allApart_33 (Or.inl rfl) rfl rfl rfl rfl (Nat.le_of_ble_eq_true rfl) lc_T rfl rfl (fun Q hQ => tX10_apart (d := d) hV hk1 hg hQ) ?_
      refine e_iadd dX10_allApart_36 ?_
      refine e_istore_n dX10_allApart_37 rfl (by decide) hf (fun v6 hf => ?_)
      refine e_iinc 4 dX10_allApart_38 (by decide) rfl hf (fun v7 hf => ?_)
      refine e_goto 18 dX10_allApart_41 (by decide) ?_
      refine e_pick [2, 3, 1, 4, 0] rfl ?_
      exact ih k1 hk1 v6 y3 v7 hf
set_option maxRecDepth 20000 in
theorem wX10_allApart_b4 {ρ : mRo} {d : Nat} {P : mPo} {V : mS → List mE} (hV : mView LC V)  {res : Int32} {s : mS} (hP : P (some (.int res)) (V s)) : ∀ (k : Nat) (k1 : Nat) (hk1 : k1 < 3) (y2 : Int32) (y3 : Int32), fX10_allApart_b4 k k1 y2 y3 s = some res → mG ρ (mC ρ (d + 2)) 10 5 cX10_allApart (some .int) P 4 [(0, .ref qT), (1, .ref (qM k1)), (2, .int y2), (3, .int y3)] [] (V s) := by
  intro k
  induction k with
  | zero => intro k1 hk1 y2 y3 hf; rw [fX10_allApart_b4] at hf; cases hf
  | succ k ih =>
    intro k1 hk1 y2 y3 hf
    rw [fX10_allApart_b4] at hf
    refine e_iload_n 3 dX10_allApart_4 rfl rfl ?_
    refine e_aload_n 0 dX10_allApart_5 rfl rfl ?_
    refine e_getr hV dX10_allApart_6 rfl lc_T rfl ?_
    refine e_geti hV dX10_allApart_9 rfl (lc_W (by decide)) rfl ?_
    refine e_icmp_ge 50 dX10_allApart_12 (by decide) hf (fun hf => ?_) (fun hf => ?_)
    · refine e_iload_n 2 dX10_allApart_50 rfl rfl ?_
      obtain rfl := Option.some.inj hf
      exact e_iret dX10_allApart_51 trivial hP
    · refine e_iconst (w := (nI 0)) dX10_allApart_15 (by decide) ?_
      refine e_istore dX10_allApart_16 (by decide) hf (fun v3 hf => ?_)
      refine e_pick [1, 2, 3, 4, 0] rfl ?_
      exact wX10_allApart_b18 hV ih hP mFu k1 hk1 y2 y3 v3 hf
set_option maxRecDepth 20000 in
theorem tX10_allApart {ρ : mRo} {d : Nat} {P : mPo} {V : mS → List mE} (hV : mView LC V)  {k1 : Nat} (hk1 : k1 < 3) {s : mS} {res : Int32} (hf : fX10_allApart k1 s = some res) (hP : P (some (.int res)) (V s)) : mC ρ (d + 3) 127 [.ref qT, .ref (qM k1)] (V s) P := by
  refine ⟨_, rfl, Nat.le_of_ble_eq_true rfl, by decide, ?_⟩
  show mG ρ (mC ρ (d + 2)) 10 5 cX10_allApart (some .int) P 0 [(0, .ref qT), (1, .ref (qM k1))] [] (V s)
  unfold fX10_allApart at hf
  refine e_iconst (w := (nI 0)) dX10_allApart_0 (by decide) ?_
  refine e_istore_n dX10_allApart_1 rfl (by decide) hf (fun v1 hf => ?_)
  refine e_iconst (w := (nI 0)) dX10_allApart_2 (by decide) ?_
  refine e_istore_n dX10_allApart_3 rfl (by decide) hf (fun v2 hf => ?_)
  refine e_pick [2, 3, 1, 0] rfl ?_
  exact wX10_allApart_b4 hV hP mFu k1 hk1 v1 v2 hf

theorem dX10_drawn_0 : decode cX10_drawn 0 = .ok (.iload_n 2, 1) := by decide +kernel
theorem dX10_drawn_1 : decode cX10_drawn 1 = .ok (.bipush 100, 2) := by decide +kernel
theorem dX10_drawn_3 : decode cX10_drawn 3 = .ok (.idiv, 1) := by decide +kernel
theorem dX10_drawn_4 : decode cX10_drawn 4 = .ok (.istore 4, 2) := by decide +kernel
theorem dX10_drawn_6 : decode cX10_drawn 6 = .ok (.iload_n 2, 1) := by decide +kernel
theorem dX10_drawn_7 : decode cX10_drawn 7 = .ok (.bipush 100, 2) := by decide +kernel
theorem dX10_drawn_9 : decode cX10_drawn 9 = .ok (.irem, 1) := by decide +kernel
theorem dX10_drawn_10 : decode cX10_drawn 10 = .ok (.istore 5, 2) := by decide +kernel
theorem dX10_drawn_12 : decode cX10_drawn 12 = .ok (.iload 4, 2) := by decide +kernel
theorem dX10_drawn_14 : decode cX10_drawn 14 = .ok (.iconst 1, 1) := by decide +kernel
theorem dX10_drawn_15 : decode cX10_drawn 15 = .ok (.if_icmp .lt 39, 3) := by decide +kernel
theorem dX10_drawn_18 : decode cX10_drawn 18 = .ok (.iload 4, 2) := by decide +kernel
theorem dX10_drawn_20 : decode cX10_drawn 20 = .ok (.bipush 30, 2) := by decide +kernel
theorem dX10_drawn_22 : decode cX10_drawn 22 = .ok (.if_icmp .gt 32, 3) := by decide +kernel
theorem dX10_drawn_25 : decode cX10_drawn 25 = .ok (.iload 5, 2) := by decide +kernel
theorem dX10_drawn_27 : decode cX10_drawn 27 = .ok (.iconst 1, 1) := by decide +kernel
theorem dX10_drawn_28 : decode cX10_drawn 28 = .ok (.if_icmp .lt 26, 3) := by decide +kernel
theorem dX10_drawn_31 : decode cX10_drawn 31 = .ok (.iload 5, 2) := by decide +kernel
theorem dX10_drawn_33 : decode cX10_drawn 33 = .ok (.bipush 30, 2) := by decide +kernel
theorem dX10_drawn_35 : decode cX10_drawn 35 = .ok (.if_icmp .gt 19, 3) := by decide +kernel
theorem dX10_drawn_38 : decode cX10_drawn 38 = .ok (.iload_n 3, 1) := by decide +kernel
theorem dX10_drawn_39 : decode cX10_drawn 39 = .ok (.iconst (-1), 1) := by decide +kernel
theorem dX10_drawn_40 : decode cX10_drawn 40 = .ok (.if_icmp .eq 16, 3) := by decide +kernel
theorem dX10_drawn_43 : decode cX10_drawn 43 = .ok (.aload_n 0, 1) := by decide +kernel
theorem dX10_drawn_44 : decode cX10_drawn 44 = .ok (.getfield 10, 3) := by decide +kernel
theorem dX10_drawn_47 : decode cX10_drawn 47 = .ok (.iload_n 3, 1) := by decide +kernel
theorem dX10_drawn_48 : decode cX10_drawn 48 = .ok (.invokevirtual 174, 3) := by decide +kernel
theorem dX10_drawn_51 : decode cX10_drawn 51 = .ok (.ifCond .ne 5, 3) := by decide +kernel
theorem dX10_drawn_54 : decode cX10_drawn 54 = .ok (.iconst (-1), 1) := by decide +kernel
theorem dX10_drawn_55 : decode cX10_drawn 55 = .ok (.ireturn, 1) := by decide +kernel
theorem dX10_drawn_56 : decode cX10_drawn 56 = .ok (.aload_n 0, 1) := by decide +kernel
theorem dX10_drawn_57 : decode cX10_drawn 57 = .ok (.getfield 22, 3) := by decide +kernel
theorem dX10_drawn_60 : decode cX10_drawn 60 = .ok (.getfield 215, 3) := by decide +kernel
theorem dX10_drawn_63 : decode cX10_drawn 63 = .ok (.ifCond .eq 13, 3) := by decide +kernel
theorem dX10_drawn_66 : decode cX10_drawn 66 = .ok (.aload_n 0, 1) := by decide +kernel
theorem dX10_drawn_67 : decode cX10_drawn 67 = .ok (.getfield 10, 3) := by decide +kernel
theorem dX10_drawn_70 : decode cX10_drawn 70 = .ok (.getfield 216, 3) := by decide +kernel
theorem dX10_drawn_73 : decode cX10_drawn 73 = .ok (.ifCond .ne 5, 3) := by decide +kernel
theorem dX10_drawn_76 : decode cX10_drawn 76 = .ok (.iconst 0, 1) := by decide +kernel
theorem dX10_drawn_77 : decode cX10_drawn 77 = .ok (.ireturn, 1) := by decide +kernel
theorem dX10_drawn_78 : decode cX10_drawn 78 = .ok (.iload_n 1, 1) := by decide +kernel
theorem dX10_drawn_79 : decode cX10_drawn 79 = .ok (.istore 6, 2) := by decide +kernel
theorem dX10_drawn_81 : decode cX10_drawn 81 = .ok (.iconst 0, 1) := by decide +kernel
theorem dX10_drawn_82 : decode cX10_drawn 82 = .ok (.istore 7, 2) := by decide +kernel
theorem dX10_drawn_84 : decode cX10_drawn 84 = .ok (.iconst 0, 1) := by decide +kernel
theorem dX10_drawn_85 : decode cX10_drawn 85 = .ok (.istore 8, 2) := by decide +kernel
theorem dX10_drawn_87 : decode cX10_drawn 87 = .ok (.iconst 0, 1) := by decide +kernel
theorem dX10_drawn_88 : decode cX10_drawn 88 = .ok (.istore 9, 2) := by decide +kernel
theorem dX10_drawn_90 : decode cX10_drawn 90 = .ok (.iload 9, 2) := by decide +kernel
theorem dX10_drawn_92 : decode cX10_drawn 92 = .ok (.iload 4, 2) := by decide +kernel
theorem dX10_drawn_94 : decode cX10_drawn 94 = .ok (.if_icmp .ge 115, 3) := by decide +kernel
theorem dX10_drawn_97 : decode cX10_drawn 97 = .ok (.aload_n 0, 1) := by decide +kernel
theorem dX10_drawn_98 : decode cX10_drawn 98 = .ok (.getfield 16, 3) := by decide +kernel
theorem dX10_drawn_101 : decode cX10_drawn 101 = .ok (.aload_n 0, 1) := by decide +kernel
theorem dX10_drawn_102 : decode cX10_drawn 102 = .ok (.getfield 10, 3) := by decide +kernel
theorem dX10_drawn_105 : decode cX10_drawn 105 = .ok (.invokevirtual 197, 3) := by decide +kernel
theorem dX10_drawn_108 : decode cX10_drawn 108 = .ok (.iconst 0, 1) := by decide +kernel
theorem dX10_drawn_109 : decode cX10_drawn 109 = .ok (.istore 10, 2) := by decide +kernel
theorem dX10_drawn_111 : decode cX10_drawn 111 = .ok (.iload 10, 2) := by decide +kernel
theorem dX10_drawn_113 : decode cX10_drawn 113 = .ok (.iload 5, 2) := by decide +kernel
theorem dX10_drawn_115 : decode cX10_drawn 115 = .ok (.if_icmp .ge 75, 3) := by decide +kernel
theorem dX10_drawn_118 : decode cX10_drawn 118 = .ok (.iload 6, 2) := by decide +kernel
theorem dX10_drawn_120 : decode cX10_drawn 120 = .ok (.ldc_w 277, 3) := by decide +kernel
theorem dX10_drawn_123 : decode cX10_drawn 123 = .ok (.imul, 1) := by decide +kernel
theorem dX10_drawn_124 : decode cX10_drawn 124 = .ok (.sipush 12345, 3) := by decide +kernel
theorem dX10_drawn_127 : decode cX10_drawn 127 = .ok (.iadd, 1) := by decide +kernel
theorem dX10_drawn_128 : decode cX10_drawn 128 = .ok (.istore 6, 2) := by decide +kernel
theorem dX10_drawn_130 : decode cX10_drawn 130 = .ok (.iload 6, 2) := by decide +kernel
theorem dX10_drawn_132 : decode cX10_drawn 132 = .ok (.bipush 16, 2) := by decide +kernel
theorem dX10_drawn_134 : decode cX10_drawn 134 = .ok (.iushr, 1) := by decide +kernel
theorem dX10_drawn_135 : decode cX10_drawn 135 = .ok (.aload_n 0, 1) := by decide +kernel
theorem dX10_drawn_136 : decode cX10_drawn 136 = .ok (.getfield 10, 3) := by decide +kernel
theorem dX10_drawn_139 : decode cX10_drawn 139 = .ok (.getfield 216, 3) := by decide +kernel
theorem dX10_drawn_142 : decode cX10_drawn 142 = .ok (.irem, 1) := by decide +kernel
theorem dX10_drawn_143 : decode cX10_drawn 143 = .ok (.istore 11, 2) := by decide +kernel
theorem dX10_drawn_145 : decode cX10_drawn 145 = .ok (.aload_n 0, 1) := by decide +kernel
theorem dX10_drawn_146 : decode cX10_drawn 146 = .ok (.aload_n 0, 1) := by decide +kernel
theorem dX10_drawn_147 : decode cX10_drawn 147 = .ok (.getfield 16, 3) := by decide +kernel
theorem dX10_drawn_150 : decode cX10_drawn 150 = .ok (.iload 6, 2) := by decide +kernel
theorem dX10_drawn_152 : decode cX10_drawn 152 = .ok (.bipush 8, 2) := by decide +kernel
theorem dX10_drawn_154 : decode cX10_drawn 154 = .ok (.iushr, 1) := by decide +kernel
theorem dX10_drawn_155 : decode cX10_drawn 155 = .ok (.aload_n 0, 1) := by decide +kernel
theorem dX10_drawn_156 : decode cX10_drawn 156 = .ok (.getfield 22, 3) := by decide +kernel
theorem dX10_drawn_159 : decode cX10_drawn 159 = .ok (.getfield 215, 3) := by decide +kernel
theorem dX10_drawn_162 : decode cX10_drawn 162 = .ok (.irem, 1) := by decide +kernel
theorem dX10_drawn_163 : decode cX10_drawn 163 = .ok (.iload 11, 2) := by decide +kernel
theorem dX10_drawn_165 : decode cX10_drawn 165 = .ok (.invokevirtual 254, 3) := by decide +kernel
theorem dX10_drawn_168 : decode cX10_drawn 168 = .ok (.iload 8, 2) := by decide +kernel
theorem dX10_drawn_170 : decode cX10_drawn 170 = .ok (.iload 11, 2) := by decide +kernel
theorem dX10_drawn_172 : decode cX10_drawn 172 = .ok (.iload_n 3, 1) := by decide +kernel
theorem dX10_drawn_173 : decode cX10_drawn 173 = .ok (.if_icmp .ne 7, 3) := by decide +kernel
theorem dX10_drawn_176 : decode cX10_drawn 176 = .ok (.iconst 1, 1) := by decide +kernel
theorem dX10_drawn_177 : decode cX10_drawn 177 = .ok (.goto 4, 3) := by decide +kernel
theorem dX10_drawn_180 : decode cX10_drawn 180 = .ok (.iconst 0, 1) := by decide +kernel
theorem dX10_drawn_181 : decode cX10_drawn 181 = .ok (.iadd, 1) := by decide +kernel
theorem dX10_drawn_182 : decode cX10_drawn 182 = .ok (.istore 8, 2) := by decide +kernel
theorem dX10_drawn_184 : decode cX10_drawn 184 = .ok (.iinc 10 1, 3) := by decide +kernel
theorem dX10_drawn_187 : decode cX10_drawn 187 = .ok (.goto (-76), 3) := by decide +kernel
theorem dX10_drawn_190 : decode cX10_drawn 190 = .ok (.iload 7, 2) := by decide +kernel
theorem dX10_drawn_192 : decode cX10_drawn 192 = .ok (.aload_n 0, 1) := by decide +kernel
theorem dX10_drawn_193 : decode cX10_drawn 193 = .ok (.aload_n 0, 1) := by decide +kernel
theorem dX10_drawn_194 : decode cX10_drawn 194 = .ok (.getfield 16, 3) := by decide +kernel
theorem dX10_drawn_197 : decode cX10_drawn 197 = .ok (.invokevirtual 278, 3) := by decide +kernel
theorem dX10_drawn_200 : decode cX10_drawn 200 = .ok (.iadd, 1) := by decide +kernel
theorem dX10_drawn_201 : decode cX10_drawn 201 = .ok (.istore 7, 2) := by decide +kernel
theorem dX10_drawn_203 : decode cX10_drawn 203 = .ok (.iinc 9 1, 3) := by decide +kernel
theorem dX10_drawn_206 : decode cX10_drawn 206 = .ok (.goto (-116), 3) := by decide +kernel
theorem dX10_drawn_209 : decode cX10_drawn 209 = .ok (.iload_n 3, 1) := by decide +kernel
theorem dX10_drawn_210 : decode cX10_drawn 210 = .ok (.iconst (-1), 1) := by decide +kernel
theorem dX10_drawn_211 : decode cX10_drawn 211 = .ok (.if_icmp .ne 8, 3) := by decide +kernel
theorem dX10_drawn_214 : decode cX10_drawn 214 = .ok (.iload 7, 2) := by decide +kernel
theorem dX10_drawn_216 : decode cX10_drawn 216 = .ok (.goto 5, 3) := by decide +kernel
theorem dX10_drawn_219 : decode cX10_drawn 219 = .ok (.iload 8, 2) := by decide +kernel
theorem dX10_drawn_221 : decode cX10_drawn 221 = .ok (.ireturn, 1) := by decide +kernel
def fX10_drawn_b181 (K90 : Int32 → Int32 → Int32 → Int32 → Int32 → Int32 → Int32 → mS → Option (Int32 × mS)) (K111 : Int32 → Int32 → Int32 → Int32 → Int32 → Int32 → Int32 → Int32 → mS → Option (Int32 × mS)) (y3 : Int32) (y4 : Int32) (y5 : Int32) (y6 : Int32) (y7 : Int32) (y9 : Int32) (y10 : Int32) (z0 : Int32) (z1 : Int32) (s : mS) : Option (Int32 × mS) :=
  bnd (z1 + z0) fun v17 =>
  bnd (y10 + (nI 1)) fun v18 =>
  K111 y3 y4 y5 y6 y7 v17 y9 v18 s

def fX10_drawn_b111 (K90 : Int32 → Int32 → Int32 → Int32 → Int32 → Int32 → Int32 → mS → Option (Int32 × mS)) : Nat → Int32 → Int32 → Int32 → Int32 → Int32 → Int32 → Int32 → Int32 → mS → Option (Int32 × mS)
  | 0, _, _, _, _, _, _, _, _, _ => none
  | k + 1, y3, y4, y5, y6, y7, y8, y9, y10, s =>
    if y5 ≤ y10 then
      bO (fX10_allApart 1 s) fun r9 =>
      bnd (y7 + r9) fun v10 =>
      bnd (y9 + (nI 1)) fun v11 =>
      K90 y3 y4 y5 y6 v10 y8 v11 s
    else
      bnd ((y6 * (nI 1103515245)) + (nI 12345)) fun v12 =>
      rmI ((Int32.toUInt32 v12 >>> (Int32.toUInt32 (nI 16) &&& Int32.toUInt32 31)).toInt32) (gI s (iM_size 0)) fun v13 =>
      bnd v13 fun v14 =>
      rmI ((Int32.toUInt32 v12 >>> (Int32.toUInt32 (nI 8) &&& Int32.toUInt32 31)).toInt32) (gI s (iW_size 0)) fun v15 =>
      bO (fX10_pass 1 v15 v14 s) fun s16 =>
      if v14 = y3 then
        fX10_drawn_b181 K90 (fun u0 u1 u2 u3 u4 u5 u6 u7 u8 => fX10_drawn_b111 K90 k u0 u1 u2 u3 u4 u5 u6 u7 u8) y3 y4 y5 v12 y7 y9 y10 (nI 1) y8 s16
      else
        fX10_drawn_b181 K90 (fun u0 u1 u2 u3 u4 u5 u6 u7 u8 => fX10_drawn_b111 K90 k u0 u1 u2 u3 u4 u5 u6 u7 u8) y3 y4 y5 v12 y7 y9 y10 (nI 0) y8 s16

def fX10_drawn_b90 : Nat → Int32 → Int32 → Int32 → Int32 → Int32 → Int32 → Int32 → mS → Option (Int32 × mS)
  | 0, _, _, _, _, _, _, _, _ => none
  | k + 1, y3, y4, y5, y6, y7, y8, y9, s =>
    if y4 ≤ y9 then
      if y3 = (-1) then
        some (y7, s)
      else
        some (y8, s)
    else
      bO (fX6_copy 1 0 s) fun s7 =>
      bnd (nI 0) fun v8 =>
      fX10_drawn_b111 (fun u0 u1 u2 u3 u4 u5 u6 u7 => fX10_drawn_b90 k u0 u1 u2 u3 u4 u5 u6 u7) mFu y3 y4 y5 y6 y7 y8 y9 v8 s7

def fX10_drawn_b56 (y1 : Int32) (y3 : Int32) (y4 : Int32) (y5 : Int32) (s : mS) : Option (Int32 × mS) :=
  if (gI s (iW_size 0)) = 0 then
    some ((nI 0), s)
  else
    if (gI s (iM_size 0)) = 0 then
      some ((nI 0), s)
    else
      bnd y1 fun v3 =>
      bnd (nI 0) fun v4 =>
      bnd (nI 0) fun v5 =>
      bnd (nI 0) fun v6 =>
      fX10_drawn_b90 mFu y3 y4 y5 v3 v4 v5 v6 s

def fX10_drawn (x1 : Int32) (x2 : Int32) (x3 : Int32) (s : mS) : Option (Int32 × mS) :=
  bnd (x2 / (nI 100)) fun v1 =>
  bnd (x2 - x2 / (nI 100) * (nI 100)) fun v2 =>
  if v1 < (nI 1) then
    some ((-1), s)
  else
    if (nI 30) < v1 then
      some ((-1), s)
    else
      if v2 < (nI 1) then
        some ((-1), s)
      else
        if (nI 30) < v2 then
          some ((-1), s)
        else
          if x3 = (-1) then
            fX10_drawn_b56 x1 x3 v1 v2 s
          else
            bO (fX6_has 0 x3 s) fun r19 =>
            if r19 = 0 then
              some ((-1), s)
            else
              fX10_drawn_b56 x1 x3 v1 v2 s

set_option maxRecDepth 20000 in
theorem wX10_drawn_b181 {ρ : mRo} {d : Nat} {P : mPo} {V : mS → List mE} (hV : mView LC V)  {res : (Int32 × mS)} {K90 : Int32 → Int32 → Int32 → Int32 → Int32 → Int32 → Int32 → mS → Option (Int32 × mS)} (hK90 : ∀ (y3 : Int32) (y4 : Int32) (y5 : Int32) (y6 : Int32) (y7 : Int32) (y8 : Int32) (y9 : Int32) (s : mS), K90 y3 y4 y5 y6 y7 y8 y9 s = some res → mG ρ (mC ρ (d + 3)) 10 12 cX10_drawn (some .int) P 90 [(0, .ref qT), (3, .int y3), (4, .int y4), (5, .int y5), (6, .int y6), (7, .int y7), (8, .int y8), (9, .int y9)] [] (V s)) {K111 : Int32 → Int32 → Int32 → Int32 → Int32 → Int32 → Int32 → Int32 → mS → Option (Int32 × mS)} (hK111 : ∀ (y3 : Int32) (y4 : Int32) (y5 : Int32) (y6 : Int32) (y7 : Int32) (y8 : Int32) (y9 : Int32) (y10 : Int32) (s : mS), K111 y3 y4 y5 y6 y7 y8 y9 y10 s = some res → mG ρ (mC ρ (d + 3)) 10 12 cX10_drawn (some .int) P 111 [(0, .ref qT), (3, .int y3), (4, .int y4), (5, .int y5), (6, .int y6), (7, .int y7), (8, .int y8), (9, .int y9), (10, .int y10)] [] (V s)) (hP : P (some (.int res.1)) (V res.2)) (y3 : Int32) (y4 : Int32) (y5 : Int32) (y6 : Int32) (y7 : Int32) (y9 : Int32) (y10 : Int32) (z0 : Int32) (z1 : Int32) (s : mS) (hf : fX10_drawn_b181 K90 K111 y3 y4 y5 y6 y7 y9 y10 z0 z1 s = some res) : mG ρ (mC ρ (d + 3)) 10 12 cX10_drawn (some .int) P 181 [(0, .ref qT), (3, .int y3), (4, .int y4), (5, .int y5), (6, .int y6), (7, .int y7), (9, .int y9), (10, .int y10)] [.int z0, .int z1] (V s) := by
  unfold fX10_drawn_b181 at hf
  refine e_iadd dX10_drawn_181 ?_
  refine e_istore dX10_drawn_182 (by decide) hf (fun v17 hf => ?_)
  refine e_iinc 8 dX10_drawn_184 (by decide) rfl hf (fun v18 hf => ?_)
  refine e_goto 111 dX10_drawn_187 (by decide) ?_
  refine e_pick [2, 3, 4, 5, 6, 7, 1, 8, 0] rfl ?_
  exact hK111 y3 y4 y5 y6 y7 v17 y9 v18 s hf
set_option maxRecDepth 20000 in
theorem wX10_drawn_b111 {ρ : mRo} {d : Nat} {P : mPo} {V : mS → List mE} (hV : mView LC V)  {res : (Int32 × mS)} {K90 : Int32 → Int32 → Int32 → Int32 → Int32 → Int32 → Int32 → mS → Option (Int32 × mS)} (hK90 : ∀ (y3 : Int32) (y4 : Int32) (y5 : Int32) (y6 : Int32) (y7 : Int32) (y8 : Int32) (y9 : Int32) (s : mS), K90 y3 y4 y5 y6 y7 y8 y9 s = some res → mG ρ (mC ρ (d + 3)) 10 12 cX10_drawn (some .int) P 90 [(0, .ref qT), (3, .int y3), (4, .int y4), (5, .int y5), (6, .int y6), (7, .int y7), (8, .int y8), (9, .int y9)] [] (V s)) (hP : P (some (.int res.1)) (V res.2)) : ∀ (k : Nat) (y3 : Int32) (y4 : Int32) (y5 : Int32) (y6 : Int32) (y7 : Int32) (y8 : Int32) (y9 : Int32) (y10 : Int32) (s : mS), fX10_drawn_b111 K90 k y3 y4 y5 y6 y7 y8 y9 y10 s = some res → mG ρ (mC ρ (d + 3)) 10 12 cX10_drawn (some .int) P 111 [(0, .ref qT), (3, .int y3), (4, .int y4), (5, .int y5), (6, .int y6), (7, .int y7), (8, .int y8), (9, .int y9), (10, .int y10)] [] (V s) := by
  intro k
  induction k with
  | zero => intro y3 y4 y5 y6 y7 y8 y9 y10 s hf; rw [fX10_drawn_b111] at hf; cases hf
  | succ k ih =>
    intro y3 y4 y5 y6 y7 y8 y9 y10 s hf
    rw [fX10_drawn_b111] at hf
    refine e_iload 8 dX10_drawn_111 rfl ?_
    refine e_iload 3 dX10_drawn_113 rfl ?_
    refine e_icmp_ge 190 dX10_drawn_115 (by decide) hf (fun hf => ?_) (fun hf => ?_)
    · refine e_iload 5 dX10_drawn_190 rfl ?_
      refine e_aload_n 0 dX10_drawn_192 rfl rfl ?_
      refine e_aload_n 0 dX10_drawn_193 rfl rfl ?_
      refine e_getr hV dX10_drawn_194 rfl lc_T rfl ?_
      obtain ⟨r9, hg, hf⟩ := bO_some hf
      refine e_callV (as := [.ref (qM 1)]) (v := (some (.int r9))) (s' := s) hV dX10_drawn_197 (Or.inl rfl) rfl rfl rfl rfl (Nat.le_of_ble_eq_true rfl) lc_T rfl rfl (fun Q hQ => tX10_allApart (d := d) hV (by decide) hg hQ) ?_
      refine e_iadd dX10_drawn_200 ?_
      refine e_istore dX10_drawn_201 (by decide) hf (fun v10 hf => ?_)
      refine e_iinc 7 dX10_drawn_203 (by decide) rfl hf (fun v11 hf => ?_)
      refine e_goto 90 dX10_drawn_206 (by decide) ?_
      refine e_pick [2, 3, 4, 5, 6, 1, 7, 0] rfl ?_
      exact hK90 y3 y4 y5 y6 v10 y8 v11 s hf
    · refine e_iload 4 dX10_drawn_118 rfl ?_
      refine e_ldc_w (w := (nI 1103515245)) dX10_drawn_120 rfl ?_
      refine e_imul dX10_drawn_123 ?_
      refine e_sipush (w := (nI 12345)) dX10_drawn_124 (by decide) ?_
      refine e_iadd dX10_drawn_127 ?_
      refine e_istore dX10_drawn_128 (by decide) hf (fun v12 hf => ?_)
      refine e_iload 0 dX10_drawn_130 rfl ?_
      refine e_bipush (w := (nI 16)) dX10_drawn_132 (by decide) ?_
      refine e_iushr dX10_drawn_134 ?_
      refine e_aload_n 1 dX10_drawn_135 rfl rfl ?_
      refine e_getr hV dX10_drawn_136 rfl lc_T rfl ?_
      refine e_geti hV dX10_drawn_139 rfl (lc_M (by decide)) rfl ?_
      refine e_iremb dX10_drawn_142 hf (fun v13 hf => ?_)
      refine e_istore dX10_drawn_143 (by decide) hf (fun v14 hf => ?_)
      refine e_aload_n 2 dX10_drawn_145 rfl rfl ?_
      refine e_aload_n 2 dX10_drawn_146 rfl rfl ?_
      refine e_getr hV dX10_drawn_147 rfl lc_T rfl ?_
      refine e_iload 1 dX10_drawn_150 rfl ?_
      refine e_bipush (w := (nI 8)) dX10_drawn_152 (by decide) ?_
      refine e_iushr dX10_drawn_154 ?_
      refine e_aload_n 2 dX10_drawn_155 rfl rfl ?_
      refine e_getr hV dX10_drawn_156 rfl lc_T rfl ?_
      refine e_geti hV dX10_drawn_159 rfl (lc_W (by decide)) rfl ?_
      refine e_iremb dX10_drawn_162 hf (fun v15 hf => ?_)
      refine e_iload 0 dX10_drawn_163 rfl ?_
      obtain ⟨s16, hg, hf⟩ := bO_some hf
      refine e_callV (as := [.ref (qM 1), .int v15, .int v14]) (v := none) (s' := s16) hV dX10_drawn_165 (Or.inl rfl) rfl rfl rfl rfl (Nat.le_of_ble_eq_true rfl) lc_T rfl rfl (fun Q hQ => tX10_pass (d := (d + 1)) hV (by decide) hg hQ) ?_
      refine e_iload 7 dX10_drawn_168 rfl ?_
      refine e_iload 0 dX10_drawn_170 rfl ?_
      refine e_iload_n 3 dX10_drawn_172 rfl rfl ?_
      refine e_icmp_ne 180 dX10_drawn_173 (by decide) hf (fun hf => ?_) (fun hf => ?_)
      · refine e_iconst (w := (nI 0)) dX10_drawn_180 (by decide) ?_
        refine e_pick [2, 3, 4, 5, 1, 6, 8, 9] rfl ?_
        exact wX10_drawn_b181 hV hK90 ih hP y3 y4 y5 v12 y7 y9 y10 (nI 0) y8 s16 hf
      · refine e_iconst (w := (nI 1)) dX10_drawn_176 (by decide) ?_
        refine e_goto 181 dX10_drawn_177 (by decide) ?_
        refine e_pick [2, 3, 4, 5, 1, 6, 8, 9] rfl ?_
        exact wX10_drawn_b181 hV hK90 ih hP y3 y4 y5 v12 y7 y9 y10 (nI 1) y8 s16 hf
set_option maxRecDepth 20000 in
theorem wX10_drawn_b90 {ρ : mRo} {d : Nat} {P : mPo} {V : mS → List mE} (hV : mView LC V)  {res : (Int32 × mS)} (hP : P (some (.int res.1)) (V res.2)) : ∀ (k : Nat) (y3 : Int32) (y4 : Int32) (y5 : Int32) (y6 : Int32) (y7 : Int32) (y8 : Int32) (y9 : Int32) (s : mS), fX10_drawn_b90 k y3 y4 y5 y6 y7 y8 y9 s = some res → mG ρ (mC ρ (d + 3)) 10 12 cX10_drawn (some .int) P 90 [(0, .ref qT), (3, .int y3), (4, .int y4), (5, .int y5), (6, .int y6), (7, .int y7), (8, .int y8), (9, .int y9)] [] (V s) := by
  intro k
  induction k with
  | zero => intro y3 y4 y5 y6 y7 y8 y9 s hf; rw [fX10_drawn_b90] at hf; cases hf
  | succ k ih =>
    intro y3 y4 y5 y6 y7 y8 y9 s hf
    rw [fX10_drawn_b90] at hf
    refine e_iload 7 dX10_drawn_90 rfl ?_
    refine e_iload 2 dX10_drawn_92 rfl ?_
    refine e_icmp_ge 209 dX10_drawn_94 (by decide) hf (fun hf => ?_) (fun hf => ?_)
    · refine e_iload_n 1 dX10_drawn_209 rfl rfl ?_
      refine e_iconst (w := (-1)) dX10_drawn_210 (by decide) ?_
      refine e_icmp_ne 219 dX10_drawn_211 (by decide) hf (fun hf => ?_) (fun hf => ?_)
      · refine e_iload 6 dX10_drawn_219 rfl ?_
        obtain rfl := Option.some.inj hf
        exact e_iret dX10_drawn_221 trivial hP
      · refine e_iload 5 dX10_drawn_214 rfl ?_
        refine e_goto 221 dX10_drawn_216 (by decide) ?_
        obtain rfl := Option.some.inj hf
        exact e_iret dX10_drawn_221 trivial hP
    · refine e_aload_n 0 dX10_drawn_97 rfl rfl ?_
      refine e_getr hV dX10_drawn_98 rfl lc_T rfl ?_
      refine e_aload_n 0 dX10_drawn_101 rfl rfl ?_
      refine e_getr hV dX10_drawn_102 rfl lc_T rfl ?_
      obtain ⟨s7, hg, hf⟩ := bO_some hf
      refine e_callV (as := [.ref (qM 0)]) (v := none) (s' := s7) hV dX10_drawn_105 (Or.inl rfl) rfl rfl rfl rfl (Nat.le_of_ble_eq_true rfl) (lc_M (by decide)) rfl rfl (fun Q hQ => tX6_copy (d := (d + 1)) hV (by decide) (by decide) hg hQ) ?_
      refine e_iconst (w := (nI 0)) dX10_drawn_108 (by decide) ?_
      refine e_istore dX10_drawn_109 (by decide) hf (fun v8 hf => ?_)
      refine e_pick [1, 2, 3, 4, 5, 6, 7, 8, 0] rfl ?_
      exact wX10_drawn_b111 hV ih hP mFu y3 y4 y5 y6 y7 y8 y9 v8 s7 hf
set_option maxRecDepth 20000 in
theorem wX10_drawn_b56 {ρ : mRo} {d : Nat} {P : mPo} {V : mS → List mE} (hV : mView LC V)  {res : (Int32 × mS)} (hP : P (some (.int res.1)) (V res.2)) (y1 : Int32) (y3 : Int32) (y4 : Int32) (y5 : Int32) (s : mS) (hf : fX10_drawn_b56 y1 y3 y4 y5 s = some res) : mG ρ (mC ρ (d + 3)) 10 12 cX10_drawn (some .int) P 56 [(0, .ref qT), (1, .int y1), (3, .int y3), (4, .int y4), (5, .int y5)] [] (V s) := by
  unfold fX10_drawn_b56 at hf
  refine e_aload_n 0 dX10_drawn_56 rfl rfl ?_
  refine e_getr hV dX10_drawn_57 rfl lc_T rfl ?_
  refine e_geti hV dX10_drawn_60 rfl (lc_W (by decide)) rfl ?_
  refine e_if_eq 76 dX10_drawn_63 (by decide) hf (fun hf => ?_) (fun hf => ?_)
  · refine e_iconst (w := (nI 0)) dX10_drawn_76 (by decide) ?_
    obtain rfl := Option.some.inj hf
    exact e_iret dX10_drawn_77 trivial hP
  · refine e_aload_n 0 dX10_drawn_66 rfl rfl ?_
    refine e_getr hV dX10_drawn_67 rfl lc_T rfl ?_
    refine e_geti hV dX10_drawn_70 rfl (lc_M (by decide)) rfl ?_
    refine e_if_ne 78 dX10_drawn_73 (by decide) hf (fun hf => ?_) (fun hf => ?_)
    · refine e_iload_n 1 dX10_drawn_78 rfl rfl ?_
      refine e_istore dX10_drawn_79 (by decide) hf (fun v3 hf => ?_)
      refine e_iconst (w := (nI 0)) dX10_drawn_81 (by decide) ?_
      refine e_istore dX10_drawn_82 (by decide) hf (fun v4 hf => ?_)
      refine e_iconst (w := (nI 0)) dX10_drawn_84 (by decide) ?_
      refine e_istore dX10_drawn_85 (by decide) hf (fun v5 hf => ?_)
      refine e_iconst (w := (nI 0)) dX10_drawn_87 (by decide) ?_
      refine e_istore dX10_drawn_88 (by decide) hf (fun v6 hf => ?_)
      refine e_pick [4, 6, 7, 8, 3, 2, 1, 0] rfl ?_
      exact wX10_drawn_b90 hV hP mFu y3 y4 y5 v3 v4 v5 v6 s hf
    · refine e_iconst (w := (nI 0)) dX10_drawn_76 (by decide) ?_
      obtain rfl := Option.some.inj hf
      exact e_iret dX10_drawn_77 trivial hP
set_option maxRecDepth 20000 in
theorem tX10_drawn {ρ : mRo} {d : Nat} {P : mPo} {V : mS → List mE} (hV : mView LC V)  {x1 : Int32} {x2 : Int32} {x3 : Int32} {s : mS} {res : (Int32 × mS)} (hf : fX10_drawn x1 x2 x3 s = some res) (hP : P (some (.int res.1)) (V res.2)) : mC ρ (d + 4) 91 [.ref qT, .int x1, .int x2, .int x3] (V s) P := by
  refine ⟨_, rfl, Nat.le_of_ble_eq_true rfl, by decide, ?_⟩
  show mG ρ (mC ρ (d + 3)) 10 12 cX10_drawn (some .int) P 0 [(0, .ref qT), (1, .int x1), (2, .int x2), (3, .int x3)] [] (V s)
  unfold fX10_drawn at hf
  refine e_iload_n 2 dX10_drawn_0 rfl rfl ?_
  refine e_bipush (w := (nI 100)) dX10_drawn_1 (by decide) ?_
  refine e_idiv dX10_drawn_3 (by decide) ?_
  refine e_istore dX10_drawn_4 (by decide) hf (fun v1 hf => ?_)
  refine e_iload_n 3 dX10_drawn_6 rfl rfl ?_
  refine e_bipush (w := (nI 100)) dX10_drawn_7 (by decide) ?_
  refine e_irem dX10_drawn_9 (by decide) ?_
  refine e_istore dX10_drawn_10 (by decide) hf (fun v2 hf => ?_)
  refine e_iload 1 dX10_drawn_12 rfl ?_
  refine e_iconst (w := (nI 1)) dX10_drawn_14 (by decide) ?_
  refine e_icmp_lt 54 dX10_drawn_15 (by decide) hf (fun hf => ?_) (fun hf => ?_)
  · refine e_iconst (w := (-1)) dX10_drawn_54 (by decide) ?_
    obtain rfl := Option.some.inj hf
    exact e_iret dX10_drawn_55 trivial hP
  · refine e_iload 1 dX10_drawn_18 rfl ?_
    refine e_bipush (w := (nI 30)) dX10_drawn_20 (by decide) ?_
    refine e_icmp_gt 54 dX10_drawn_22 (by decide) hf (fun hf => ?_) (fun hf => ?_)
    · refine e_iconst (w := (-1)) dX10_drawn_54 (by decide) ?_
      obtain rfl := Option.some.inj hf
      exact e_iret dX10_drawn_55 trivial hP
    · refine e_iload 0 dX10_drawn_25 rfl ?_
      refine e_iconst (w := (nI 1)) dX10_drawn_27 (by decide) ?_
      refine e_icmp_lt 54 dX10_drawn_28 (by decide) hf (fun hf => ?_) (fun hf => ?_)
      · refine e_iconst (w := (-1)) dX10_drawn_54 (by decide) ?_
        obtain rfl := Option.some.inj hf
        exact e_iret dX10_drawn_55 trivial hP
      · refine e_iload 0 dX10_drawn_31 rfl ?_
        refine e_bipush (w := (nI 30)) dX10_drawn_33 (by decide) ?_
        refine e_icmp_gt 54 dX10_drawn_35 (by decide) hf (fun hf => ?_) (fun hf => ?_)
        · refine e_iconst (w := (-1)) dX10_drawn_54 (by decide) ?_
          obtain rfl := Option.some.inj hf
          exact e_iret dX10_drawn_55 trivial hP
        · refine e_iload_n 5 dX10_drawn_38 rfl rfl ?_
          refine e_iconst (w := (-1)) dX10_drawn_39 (by decide) ?_
          refine e_icmp_eq 56 dX10_drawn_40 (by decide) hf (fun hf => ?_) (fun hf => ?_)
          · refine e_pick [2, 3, 5, 1, 0] rfl ?_
            exact wX10_drawn_b56 hV hP x1 x3 v1 v2 s hf
          · refine e_aload_n 2 dX10_drawn_43 rfl rfl ?_
            refine e_getr hV dX10_drawn_44 rfl lc_T rfl ?_
            refine e_iload_n 5 dX10_drawn_47 rfl rfl ?_
            obtain ⟨r19, hg, hf⟩ := bO_some hf
            refine e_callV (as := [.int x3]) (v := (some (.int r19))) (s' := s) hV dX10_drawn_48 (Or.inl rfl) rfl rfl rfl rfl (Nat.le_of_ble_eq_true rfl) (lc_M (by decide)) rfl rfl (fun Q hQ => tX6_has (d := (d + 2)) hV (by decide) hg hQ) ?_
            refine e_if_ne 56 dX10_drawn_51 (by decide) hf (fun hf => ?_) (fun hf => ?_)
            · refine e_pick [2, 3, 5, 1, 0] rfl ?_
              exact wX10_drawn_b56 hV hP x1 x3 v1 v2 s hf
            · refine e_iconst (w := (-1)) dX10_drawn_54 (by decide) ?_
              obtain rfl := Option.some.inj hf
              exact e_iret dX10_drawn_55 trivial hP

theorem dX10_types_0 : decode cX10_types 0 = .ok (.aload_n 0, 1) := by decide +kernel
theorem dX10_types_1 : decode cX10_types 1 = .ok (.iload_n 1, 1) := by decide +kernel
theorem dX10_types_2 : decode cX10_types 2 = .ok (.invokevirtual 164, 3) := by decide +kernel
theorem dX10_types_5 : decode cX10_types 5 = .ok (.ifCond .ne 5, 3) := by decide +kernel
theorem dX10_types_8 : decode cX10_types 8 = .ok (.iconst (-1), 1) := by decide +kernel
theorem dX10_types_9 : decode cX10_types 9 = .ok (.ireturn, 1) := by decide +kernel
theorem dX10_types_10 : decode cX10_types 10 = .ok (.aload_n 0, 1) := by decide +kernel
theorem dX10_types_11 : decode cX10_types 11 = .ok (.aload_n 0, 1) := by decide +kernel
theorem dX10_types_12 : decode cX10_types 12 = .ok (.getfield 10, 3) := by decide +kernel
theorem dX10_types_15 : decode cX10_types 15 = .ok (.iload_n 1, 1) := by decide +kernel
theorem dX10_types_16 : decode cX10_types 16 = .ok (.bipush 10, 2) := by decide +kernel
theorem dX10_types_18 : decode cX10_types 18 = .ok (.idiv, 1) := by decide +kernel
theorem dX10_types_19 : decode cX10_types 19 = .ok (.iload_n 1, 1) := by decide +kernel
theorem dX10_types_20 : decode cX10_types 20 = .ok (.bipush 10, 2) := by decide +kernel
theorem dX10_types_22 : decode cX10_types 22 = .ok (.irem, 1) := by decide +kernel
theorem dX10_types_23 : decode cX10_types 23 = .ok (.invokevirtual 193, 3) := by decide +kernel
theorem dX10_types_26 : decode cX10_types 26 = .ok (.istore_n 2, 1) := by decide +kernel
theorem dX10_types_27 : decode cX10_types 27 = .ok (.aload_n 0, 1) := by decide +kernel
theorem dX10_types_28 : decode cX10_types 28 = .ok (.aload_n 0, 1) := by decide +kernel
theorem dX10_types_29 : decode cX10_types 29 = .ok (.getfield 10, 3) := by decide +kernel
theorem dX10_types_32 : decode cX10_types 32 = .ok (.iload_n 1, 1) := by decide +kernel
theorem dX10_types_33 : decode cX10_types 33 = .ok (.bipush 10, 2) := by decide +kernel
theorem dX10_types_35 : decode cX10_types 35 = .ok (.idiv, 1) := by decide +kernel
theorem dX10_types_36 : decode cX10_types 36 = .ok (.iload_n 1, 1) := by decide +kernel
theorem dX10_types_37 : decode cX10_types 37 = .ok (.bipush 10, 2) := by decide +kernel
theorem dX10_types_39 : decode cX10_types 39 = .ok (.irem, 1) := by decide +kernel
theorem dX10_types_40 : decode cX10_types 40 = .ok (.invokevirtual 254, 3) := by decide +kernel
theorem dX10_types_43 : decode cX10_types 43 = .ok (.aload_n 0, 1) := by decide +kernel
theorem dX10_types_44 : decode cX10_types 44 = .ok (.getfield 63, 3) := by decide +kernel
theorem dX10_types_47 : decode cX10_types 47 = .ok (.dup, 1) := by decide +kernel
theorem dX10_types_48 : decode cX10_types 48 = .ok (.getfield 282, 3) := by decide +kernel
theorem dX10_types_51 : decode cX10_types 51 = .ok (.iconst 1, 1) := by decide +kernel
theorem dX10_types_52 : decode cX10_types 52 = .ok (.iadd, 1) := by decide +kernel
theorem dX10_types_53 : decode cX10_types 53 = .ok (.putfield 282, 3) := by decide +kernel
theorem dX10_types_56 : decode cX10_types 56 = .ok (.aload_n 0, 1) := by decide +kernel
theorem dX10_types_57 : decode cX10_types 57 = .ok (.getfield 63, 3) := by decide +kernel
theorem dX10_types_60 : decode cX10_types 60 = .ok (.dup, 1) := by decide +kernel
theorem dX10_types_61 : decode cX10_types 61 = .ok (.getfield 285, 3) := by decide +kernel
theorem dX10_types_64 : decode cX10_types 64 = .ok (.iload_n 2, 1) := by decide +kernel
theorem dX10_types_65 : decode cX10_types 65 = .ok (.invokestatic 288, 3) := by decide +kernel
theorem dX10_types_68 : decode cX10_types 68 = .ok (.iadd, 1) := by decide +kernel
theorem dX10_types_69 : decode cX10_types 69 = .ok (.putfield 285, 3) := by decide +kernel
theorem dX10_types_72 : decode cX10_types 72 = .ok (.aload_n 0, 1) := by decide +kernel
theorem dX10_types_73 : decode cX10_types 73 = .ok (.getfield 63, 3) := by decide +kernel
theorem dX10_types_76 : decode cX10_types 76 = .ok (.iload_n 1, 1) := by decide +kernel
theorem dX10_types_77 : decode cX10_types 77 = .ok (.bipush 10, 2) := by decide +kernel
theorem dX10_types_79 : decode cX10_types 79 = .ok (.irem, 1) := by decide +kernel
theorem dX10_types_80 : decode cX10_types 80 = .ok (.putfield 291, 3) := by decide +kernel
theorem dX10_types_83 : decode cX10_types 83 = .ok (.iload_n 2, 1) := by decide +kernel
theorem dX10_types_84 : decode cX10_types 84 = .ok (.ireturn, 1) := by decide +kernel
def fX10_types (x1 : Int32) (s : mS) : Option (Int32 × mS) :=
  bO (fX10_isPair x1 s) fun r1 =>
  if r1 = 0 then
    some ((-1), s)
  else
    bP (fX10_shownCode 0 (x1 / (nI 10)) (x1 - x1 / (nI 10) * (nI 10)) s) fun r2 s3 =>
    bnd r2 fun v4 =>
    bO (fX10_pass 0 (x1 / (nI 10)) (x1 - x1 / (nI 10) * (nI 10)) s3) fun s5 =>
    bnd (pI s5 (iG_letters 0) ((gI s5 (iG_letters 0)) + (nI 1))) fun s6 =>
    bO (fX2_sum v4 s6) fun r7 =>
    bnd (pI s6 (iG_showed 0) ((gI s6 (iG_showed 0)) + r7)) fun s8 =>
    bnd (pI s8 (iG_latest 0) (x1 - x1 / (nI 10) * (nI 10))) fun s9 =>
    some (v4, s9)

set_option maxRecDepth 20000 in
theorem tX10_types {ρ : mRo} {d : Nat} {P : mPo} {V : mS → List mE} (hV : mView LC V)  {x1 : Int32} {s : mS} {res : (Int32 × mS)} (hf : fX10_types x1 s = some res) (hP : P (some (.int res.1)) (V res.2)) : mC ρ (d + 7) 92 [.ref qT, .int x1] (V s) P := by
  refine ⟨_, rfl, Nat.le_of_ble_eq_true rfl, by decide, ?_⟩
  show mG ρ (mC ρ (d + 6)) 10 3 cX10_types (some .int) P 0 [(0, .ref qT), (1, .int x1)] [] (V s)
  unfold fX10_types at hf
  refine e_aload_n 0 dX10_types_0 rfl rfl ?_
  refine e_iload_n 1 dX10_types_1 rfl rfl ?_
  obtain ⟨r1, hg, hf⟩ := bO_some hf
  refine e_callV (as := [.int x1]) (v := (some (.int r1))) (s' := s) hV dX10_types_2 (Or.inl rfl) rfl rfl rfl rfl (Nat.le_of_ble_eq_true rfl) lc_T rfl rfl (fun Q hQ => tX10_isPair (d := (d + 4)) hV  hg hQ) ?_
  refine e_if_ne 10 dX10_types_5 (by decide) hf (fun hf => ?_) (fun hf => ?_)
  · refine e_aload_n 0 dX10_types_10 rfl rfl ?_
    refine e_aload_n 0 dX10_types_11 rfl rfl ?_
    refine e_getr hV dX10_types_12 rfl lc_T rfl ?_
    refine e_iload_n 1 dX10_types_15 rfl rfl ?_
    refine e_bipush (w := (nI 10)) dX10_types_16 (by decide) ?_
    refine e_idiv dX10_types_18 (by decide) ?_
    refine e_iload_n 1 dX10_types_19 rfl rfl ?_
    refine e_bipush (w := (nI 10)) dX10_types_20 (by decide) ?_
    refine e_irem dX10_types_22 (by decide) ?_
    obtain ⟨r2, s3, hg, hf⟩ := bP_some hf
    refine e_callV (as := [.ref (qM 0), .int (x1 / (nI 10)), .int (x1 - x1 / (nI 10) * (nI 10))]) (v := (some (.int r2))) (s' := s3) hV dX10_types_23 (Or.inl rfl) rfl rfl rfl rfl (Nat.le_of_ble_eq_true rfl) lc_T rfl rfl (fun Q hQ => tX10_shownCode (d := d) hV (by decide) hg hQ) ?_
    refine e_istore_n dX10_types_26 rfl (by decide) hf (fun v4 hf => ?_)
    refine e_aload_n 1 dX10_types_27 rfl rfl ?_
    refine e_aload_n 1 dX10_types_28 rfl rfl ?_
    refine e_getr hV dX10_types_29 rfl lc_T rfl ?_
    refine e_iload_n 2 dX10_types_32 rfl rfl ?_
    refine e_bipush (w := (nI 10)) dX10_types_33 (by decide) ?_
    refine e_idiv dX10_types_35 (by decide) ?_
    refine e_iload_n 2 dX10_types_36 rfl rfl ?_
    refine e_bipush (w := (nI 10)) dX10_types_37 (by decide) ?_
    refine e_irem dX10_types_39 (by decide) ?_
    obtain ⟨s5, hg, hf⟩ := bO_some hf
    refine e_callV (as := [.ref (qM 0), .int (x1 / (nI 10)), .int (x1 - x1 / (nI 10) * (nI 10))]) (v := none) (s' := s5) hV dX10_types_40 (Or.inl rfl) rfl rfl rfl rfl (Nat.le_of_ble_eq_true rfl) lc_T rfl rfl (fun Q hQ => tX10_pass (d := (d + 4)) hV (by decide) hg hQ) ?_
    refine e_aload_n 1 dX10_types_43 rfl rfl ?_
    refine e_getr hV dX10_types_44 rfl lc_T rfl ?_
    refine e_dup dX10_types_47 rfl ?_
    refine e_geti hV dX10_types_48 rfl (lc_G (by decide)) rfl ?_
    refine e_iconst (w := (nI 1)) dX10_types_51 (by decide) ?_
    refine e_iadd dX10_types_52 ?_
    refine e_puti hV dX10_types_53 rfl rfl rfl (Or.inl rfl) (lc_G (by decide)) rfl hf (fun s6 hf => ?_)
    refine e_aload_n 1 dX10_types_56 rfl rfl ?_
    refine e_getr hV dX10_types_57 rfl lc_T rfl ?_
    refine e_dup dX10_types_60 rfl ?_
    refine e_geti hV dX10_types_61 rfl (lc_G (by decide)) rfl ?_
    refine e_iload_n 0 dX10_types_64 rfl rfl ?_
    obtain ⟨r7, hg, hf⟩ := bO_some hf
    refine e_callS (as := [.int v4]) (v := (some (.int r7))) (s' := s6) dX10_types_65 rfl rfl rfl rfl rfl (Nat.le_of_ble_eq_true rfl) (fun Q hQ => tX2_sum (d := (d + 4)) hV  hg hQ) ?_
    refine e_iadd dX10_types_68 ?_
    refine e_puti hV dX10_types_69 rfl rfl rfl (Or.inl rfl) (lc_G (by decide)) rfl hf (fun s8 hf => ?_)
    refine e_aload_n 1 dX10_types_72 rfl rfl ?_
    refine e_getr hV dX10_types_73 rfl lc_T rfl ?_
    refine e_iload_n 2 dX10_types_76 rfl rfl ?_
    refine e_bipush (w := (nI 10)) dX10_types_77 (by decide) ?_
    refine e_irem dX10_types_79 (by decide) ?_
    refine e_puti hV dX10_types_80 rfl rfl rfl (Or.inl rfl) (lc_G (by decide)) rfl hf (fun s9 hf => ?_)
    refine e_iload_n 0 dX10_types_83 rfl rfl ?_
    obtain rfl := Option.some.inj hf
    exact e_iret dX10_types_84 trivial hP
  · refine e_iconst (w := (-1)) dX10_types_8 (by decide) ?_
    obtain rfl := Option.some.inj hf
    exact e_iret dX10_types_9 trivial hP

theorem dX10_clean_0 : decode cX10_clean 0 = .ok (.aload_n 0, 1) := by decide +kernel
theorem dX10_clean_1 : decode cX10_clean 1 = .ok (.getfield 10, 3) := by decide +kernel
theorem dX10_clean_4 : decode cX10_clean 4 = .ok (.iload_n 1, 1) := by decide +kernel
theorem dX10_clean_5 : decode cX10_clean 5 = .ok (.invokevirtual 174, 3) := by decide +kernel
theorem dX10_clean_8 : decode cX10_clean 8 = .ok (.ifCond .ne 5, 3) := by decide +kernel
theorem dX10_clean_11 : decode cX10_clean 11 = .ok (.iconst (-1), 1) := by decide +kernel
theorem dX10_clean_12 : decode cX10_clean 12 = .ok (.ireturn, 1) := by decide +kernel
theorem dX10_clean_13 : decode cX10_clean 13 = .ok (.aload_n 0, 1) := by decide +kernel
theorem dX10_clean_14 : decode cX10_clean 14 = .ok (.getfield 10, 3) := by decide +kernel
theorem dX10_clean_17 : decode cX10_clean 17 = .ok (.getfield 184, 3) := by decide +kernel
theorem dX10_clean_20 : decode cX10_clean 20 = .ok (.iload_n 1, 1) := by decide +kernel
theorem dX10_clean_21 : decode cX10_clean 21 = .ok (.iaload, 1) := by decide +kernel
theorem dX10_clean_22 : decode cX10_clean 22 = .ok (.istore_n 2, 1) := by decide +kernel
theorem dX10_clean_23 : decode cX10_clean 23 = .ok (.aload_n 0, 1) := by decide +kernel
theorem dX10_clean_24 : decode cX10_clean 24 = .ok (.getfield 10, 3) := by decide +kernel
theorem dX10_clean_27 : decode cX10_clean 27 = .ok (.iload_n 1, 1) := by decide +kernel
theorem dX10_clean_28 : decode cX10_clean 28 = .ok (.bipush 6, 2) := by decide +kernel
theorem dX10_clean_30 : decode cX10_clean 30 = .ok (.bipush 6, 2) := by decide +kernel
theorem dX10_clean_32 : decode cX10_clean 32 = .ok (.bipush 6, 2) := by decide +kernel
theorem dX10_clean_34 : decode cX10_clean 34 = .ok (.invokevirtual 294, 3) := by decide +kernel
theorem dX10_clean_37 : decode cX10_clean 37 = .ok (.aload_n 0, 1) := by decide +kernel
theorem dX10_clean_38 : decode cX10_clean 38 = .ok (.getfield 63, 3) := by decide +kernel
theorem dX10_clean_41 : decode cX10_clean 41 = .ok (.dup, 1) := by decide +kernel
theorem dX10_clean_42 : decode cX10_clean 42 = .ok (.getfield 297, 3) := by decide +kernel
theorem dX10_clean_45 : decode cX10_clean 45 = .ok (.iconst 1, 1) := by decide +kernel
theorem dX10_clean_46 : decode cX10_clean 46 = .ok (.iadd, 1) := by decide +kernel
theorem dX10_clean_47 : decode cX10_clean 47 = .ok (.putfield 297, 3) := by decide +kernel
theorem dX10_clean_50 : decode cX10_clean 50 = .ok (.iload_n 2, 1) := by decide +kernel
theorem dX10_clean_51 : decode cX10_clean 51 = .ok (.ireturn, 1) := by decide +kernel
def fX10_clean (x1 : Int32) (s : mS) : Option (Int32 × mS) :=
  bO (fX6_has 0 x1 s) fun r1 =>
  if r1 = 0 then
    some ((-1), s)
  else
    ldA s (aM_ages 0) 8 x1 fun v2 =>
    bnd v2 fun v3 =>
    bO (fX6_setNew 0 x1 (nI 6) (nI 6) (nI 6) s) fun s4 =>
    bnd (pI s4 (iG_cleanings 0) ((gI s4 (iG_cleanings 0)) + (nI 1))) fun s5 =>
    some (v3, s5)

set_option maxRecDepth 20000 in
theorem tX10_clean {ρ : mRo} {d : Nat} {P : mPo} {V : mS → List mE} (hV : mView LC V)  {x1 : Int32} {s : mS} {res : (Int32 × mS)} (hf : fX10_clean x1 s = some res) (hP : P (some (.int res.1)) (V res.2)) : mC ρ (d + 2) 93 [.ref qT, .int x1] (V s) P := by
  refine ⟨_, rfl, Nat.le_of_ble_eq_true rfl, by decide, ?_⟩
  show mG ρ (mC ρ (d + 1)) 10 3 cX10_clean (some .int) P 0 [(0, .ref qT), (1, .int x1)] [] (V s)
  unfold fX10_clean at hf
  refine e_aload_n 0 dX10_clean_0 rfl rfl ?_
  refine e_getr hV dX10_clean_1 rfl lc_T rfl ?_
  refine e_iload_n 1 dX10_clean_4 rfl rfl ?_
  obtain ⟨r1, hg, hf⟩ := bO_some hf
  refine e_callV (as := [.int x1]) (v := (some (.int r1))) (s' := s) hV dX10_clean_5 (Or.inl rfl) rfl rfl rfl rfl (Nat.le_of_ble_eq_true rfl) (lc_M (by decide)) rfl rfl (fun Q hQ => tX6_has (d := d) hV (by decide) hg hQ) ?_
  refine e_if_ne 13 dX10_clean_8 (by decide) hf (fun hf => ?_) (fun hf => ?_)
  · refine e_aload_n 0 dX10_clean_13 rfl rfl ?_
    refine e_getr hV dX10_clean_14 rfl lc_T rfl ?_
    refine e_getr hV dX10_clean_17 rfl (lc_M (by decide)) rfl ?_
    refine e_iload_n 1 dX10_clean_20 rfl rfl ?_
    refine e_iald hV dX10_clean_21 (lc_M_ages (by decide)) hf (fun v2 hf => ?_)
    refine e_istore_n dX10_clean_22 rfl (by decide) hf (fun v3 hf => ?_)
    refine e_aload_n 1 dX10_clean_23 rfl rfl ?_
    refine e_getr hV dX10_clean_24 rfl lc_T rfl ?_
    refine e_iload_n 2 dX10_clean_27 rfl rfl ?_
    refine e_bipush (w := (nI 6)) dX10_clean_28 (by decide) ?_
    refine e_bipush (w := (nI 6)) dX10_clean_30 (by decide) ?_
    refine e_bipush (w := (nI 6)) dX10_clean_32 (by decide) ?_
    obtain ⟨s4, hg, hf⟩ := bO_some hf
    refine e_callV (as := [.int x1, .int (nI 6), .int (nI 6), .int (nI 6)]) (v := none) (s' := s4) hV dX10_clean_34 (Or.inl rfl) rfl rfl rfl rfl (Nat.le_of_ble_eq_true rfl) (lc_M (by decide)) rfl rfl (fun Q hQ => tX6_setNew (d := d) hV (by decide) hg hQ) ?_
    refine e_aload_n 1 dX10_clean_37 rfl rfl ?_
    refine e_getr hV dX10_clean_38 rfl lc_T rfl ?_
    refine e_dup dX10_clean_41 rfl ?_
    refine e_geti hV dX10_clean_42 rfl (lc_G (by decide)) rfl ?_
    refine e_iconst (w := (nI 1)) dX10_clean_45 (by decide) ?_
    refine e_iadd dX10_clean_46 ?_
    refine e_puti hV dX10_clean_47 rfl rfl rfl (Or.inl rfl) (lc_G (by decide)) rfl hf (fun s5 hf => ?_)
    refine e_iload_n 0 dX10_clean_50 rfl rfl ?_
    obtain rfl := Option.some.inj hf
    exact e_iret dX10_clean_51 trivial hP
  · refine e_iconst (w := (-1)) dX10_clean_11 (by decide) ?_
    obtain rfl := Option.some.inj hf
    exact e_iret dX10_clean_12 trivial hP

theorem dX10_learn_0 : decode cX10_learn 0 = .ok (.aload_n 0, 1) := by decide +kernel
theorem dX10_learn_1 : decode cX10_learn 1 = .ok (.iload_n 1, 1) := by decide +kernel
theorem dX10_learn_2 : decode cX10_learn 2 = .ok (.invokevirtual 164, 3) := by decide +kernel
theorem dX10_learn_5 : decode cX10_learn 5 = .ok (.ifCond .ne 5, 3) := by decide +kernel
theorem dX10_learn_8 : decode cX10_learn 8 = .ok (.iconst (-1), 1) := by decide +kernel
theorem dX10_learn_9 : decode cX10_learn 9 = .ok (.ireturn, 1) := by decide +kernel
theorem dX10_learn_10 : decode cX10_learn 10 = .ok (.iload_n 1, 1) := by decide +kernel
theorem dX10_learn_11 : decode cX10_learn 11 = .ok (.bipush 10, 2) := by decide +kernel
theorem dX10_learn_13 : decode cX10_learn 13 = .ok (.idiv, 1) := by decide +kernel
theorem dX10_learn_14 : decode cX10_learn 14 = .ok (.istore_n 2, 1) := by decide +kernel
theorem dX10_learn_15 : decode cX10_learn 15 = .ok (.iconst 0, 1) := by decide +kernel
theorem dX10_learn_16 : decode cX10_learn 16 = .ok (.istore_n 3, 1) := by decide +kernel
theorem dX10_learn_17 : decode cX10_learn 17 = .ok (.iload_n 3, 1) := by decide +kernel
theorem dX10_learn_18 : decode cX10_learn 18 = .ok (.iconst 3, 1) := by decide +kernel
theorem dX10_learn_19 : decode cX10_learn 19 = .ok (.if_icmp .ge 50, 3) := by decide +kernel
theorem dX10_learn_22 : decode cX10_learn 22 = .ok (.aload_n 0, 1) := by decide +kernel
theorem dX10_learn_23 : decode cX10_learn 23 = .ok (.getfield 22, 3) := by decide +kernel
theorem dX10_learn_26 : decode cX10_learn 26 = .ok (.iload_n 2, 1) := by decide +kernel
theorem dX10_learn_27 : decode cX10_learn 27 = .ok (.iload_n 3, 1) := by decide +kernel
theorem dX10_learn_28 : decode cX10_learn 28 = .ok (.invokevirtual 223, 3) := by decide +kernel
theorem dX10_learn_31 : decode cX10_learn 31 = .ok (.aload_n 0, 1) := by decide +kernel
theorem dX10_learn_32 : decode cX10_learn 32 = .ok (.getfield 10, 3) := by decide +kernel
theorem dX10_learn_35 : decode cX10_learn 35 = .ok (.iload_n 1, 1) := by decide +kernel
theorem dX10_learn_36 : decode cX10_learn 36 = .ok (.bipush 10, 2) := by decide +kernel
theorem dX10_learn_38 : decode cX10_learn 38 = .ok (.irem, 1) := by decide +kernel
theorem dX10_learn_39 : decode cX10_learn 39 = .ok (.iload_n 3, 1) := by decide +kernel
theorem dX10_learn_40 : decode cX10_learn 40 = .ok (.invokevirtual 187, 3) := by decide +kernel
theorem dX10_learn_43 : decode cX10_learn 43 = .ok (.invokestatic 226, 3) := by decide +kernel
theorem dX10_learn_46 : decode cX10_learn 46 = .ok (.istore 4, 2) := by decide +kernel
theorem dX10_learn_48 : decode cX10_learn 48 = .ok (.aload_n 0, 1) := by decide +kernel
theorem dX10_learn_49 : decode cX10_learn 49 = .ok (.getfield 22, 3) := by decide +kernel
theorem dX10_learn_52 : decode cX10_learn 52 = .ok (.getfield 300, 3) := by decide +kernel
theorem dX10_learn_55 : decode cX10_learn 55 = .ok (.iconst 3, 1) := by decide +kernel
theorem dX10_learn_56 : decode cX10_learn 56 = .ok (.iload_n 2, 1) := by decide +kernel
theorem dX10_learn_57 : decode cX10_learn 57 = .ok (.imul, 1) := by decide +kernel
theorem dX10_learn_58 : decode cX10_learn 58 = .ok (.iload_n 3, 1) := by decide +kernel
theorem dX10_learn_59 : decode cX10_learn 59 = .ok (.iadd, 1) := by decide +kernel
theorem dX10_learn_60 : decode cX10_learn 60 = .ok (.iload 4, 2) := by decide +kernel
theorem dX10_learn_62 : decode cX10_learn 62 = .ok (.iastore, 1) := by decide +kernel
theorem dX10_learn_63 : decode cX10_learn 63 = .ok (.iinc 3 1, 3) := by decide +kernel
theorem dX10_learn_66 : decode cX10_learn 66 = .ok (.goto (-49), 3) := by decide +kernel
theorem dX10_learn_69 : decode cX10_learn 69 = .ok (.aload_n 0, 1) := by decide +kernel
theorem dX10_learn_70 : decode cX10_learn 70 = .ok (.getfield 63, 3) := by decide +kernel
theorem dX10_learn_73 : decode cX10_learn 73 = .ok (.dup, 1) := by decide +kernel
theorem dX10_learn_74 : decode cX10_learn 74 = .ok (.getfield 303, 3) := by decide +kernel
theorem dX10_learn_77 : decode cX10_learn 77 = .ok (.iconst 1, 1) := by decide +kernel
theorem dX10_learn_78 : decode cX10_learn 78 = .ok (.iadd, 1) := by decide +kernel
theorem dX10_learn_79 : decode cX10_learn 79 = .ok (.putfield 303, 3) := by decide +kernel
theorem dX10_learn_82 : decode cX10_learn 82 = .ok (.aload_n 0, 1) := by decide +kernel
theorem dX10_learn_83 : decode cX10_learn 83 = .ok (.getfield 22, 3) := by decide +kernel
theorem dX10_learn_86 : decode cX10_learn 86 = .ok (.iload_n 2, 1) := by decide +kernel
theorem dX10_learn_87 : decode cX10_learn 87 = .ok (.invokevirtual 306, 3) := by decide +kernel
theorem dX10_learn_90 : decode cX10_learn 90 = .ok (.ireturn, 1) := by decide +kernel
def fX10_learn_b17 : Nat → Int32 → Int32 → Int32 → mS → Option (Int32 × mS)
  | 0, _, _, _, _ => none
  | k + 1, y1, y2, y3, s =>
    if (nI 3) ≤ y3 then
      bnd (pI s (iG_learnings 0) ((gI s (iG_learnings 0)) + (nI 1))) fun s4 =>
      bO (fX9_handCode 0 y2 s4) fun r5 =>
      some (r5, s4)
    else
      bO (fX9_hand 0 y2 y3 s) fun r6 =>
      bO (fX6_pull 0 (y1 - y1 / (nI 10) * (nI 10)) y3 s) fun r7 =>
      bO (fX2_nearer r6 r7 s) fun r8 =>
      bnd r8 fun v9 =>
      stA s (aW_hands 0) 24 (((nI 3) * y2) + y3) v9 fun s10 =>
      bnd (y3 + (nI 1)) fun v11 =>
      fX10_learn_b17 k y1 y2 v11 s10

def fX10_learn (x1 : Int32) (s : mS) : Option (Int32 × mS) :=
  bO (fX10_isPair x1 s) fun r1 =>
  if r1 = 0 then
    some ((-1), s)
  else
    bnd (x1 / (nI 10)) fun v2 =>
    bnd (nI 0) fun v3 =>
    fX10_learn_b17 mFu x1 v2 v3 s

set_option maxRecDepth 20000 in
theorem wX10_learn_b17 {ρ : mRo} {d : Nat} {P : mPo} {V : mS → List mE} (hV : mView LC V)  {res : (Int32 × mS)} (hP : P (some (.int res.1)) (V res.2)) : ∀ (k : Nat) (y1 : Int32) (y2 : Int32) (y3 : Int32) (s : mS), fX10_learn_b17 k y1 y2 y3 s = some res → mG ρ (mC ρ (d + 2)) 10 5 cX10_learn (some .int) P 17 [(0, .ref qT), (1, .int y1), (2, .int y2), (3, .int y3)] [] (V s) := by
  intro k
  induction k with
  | zero => intro y1 y2 y3 s hf; rw [fX10_learn_b17] at hf; cases hf
  | succ k ih =>
    intro y1 y2 y3 s hf
    rw [fX10_learn_b17] at hf
    refine e_iload_n 3 dX10_learn_17 rfl rfl ?_
    refine e_iconst (w := (nI 3)) dX10_learn_18 (by decide) ?_
    refine e_icmp_ge 69 dX10_learn_19 (by decide) hf (fun hf => ?_) (fun hf => ?_)
    · refine e_aload_n 0 dX10_learn_69 rfl rfl ?_
      refine e_getr hV dX10_learn_70 rfl lc_T rfl ?_
      refine e_dup dX10_learn_73 rfl ?_
      refine e_geti hV dX10_learn_74 rfl (lc_G (by decide)) rfl ?_
      refine e_iconst (w := (nI 1)) dX10_learn_77 (by decide) ?_
      refine e_iadd dX10_learn_78 ?_
      refine e_puti hV dX10_learn_79 rfl rfl rfl (Or.inl rfl) (lc_G (by decide)) rfl hf (fun s4 hf => ?_)
      refine e_aload_n 0 dX10_learn_82 rfl rfl ?_
      refine e_getr hV dX10_learn_83 rfl lc_T rfl ?_
      refine e_iload_n 2 dX10_learn_86 rfl rfl ?_
      obtain ⟨r5, hg, hf⟩ := bO_some hf
      refine e_callV (as := [.int y2]) (v := (some (.int r5))) (s' := s4) hV dX10_learn_87 (Or.inl rfl) rfl rfl rfl rfl (Nat.le_of_ble_eq_true rfl) (lc_W (by decide)) rfl rfl (fun Q hQ => tX9_handCode (d := d) hV (by decide) hg hQ) ?_
      obtain rfl := Option.some.inj hf
      exact e_iret dX10_learn_90 trivial hP
    · refine e_aload_n 0 dX10_learn_22 rfl rfl ?_
      refine e_getr hV dX10_learn_23 rfl lc_T rfl ?_
      refine e_iload_n 2 dX10_learn_26 rfl rfl ?_
      refine e_iload_n 3 dX10_learn_27 rfl rfl ?_
      obtain ⟨r6, hg, hf⟩ := bO_some hf
      refine e_callV (as := [.int y2, .int y3]) (v := (some (.int r6))) (s' := s) hV dX10_learn_28 (Or.inl rfl) rfl rfl rfl rfl (Nat.le_of_ble_eq_true rfl) (lc_W (by decide)) rfl rfl (fun Q hQ => tX9_hand (d := (d + 1)) hV (by decide) hg hQ) ?_
      refine e_aload_n 0 dX10_learn_31 rfl rfl ?_
      refine e_getr hV dX10_learn_32 rfl lc_T rfl ?_
      refine e_iload_n 1 dX10_learn_35 rfl rfl ?_
      refine e_bipush (w := (nI 10)) dX10_learn_36 (by decide) ?_
      refine e_irem dX10_learn_38 (by decide) ?_
      refine e_iload_n 3 dX10_learn_39 rfl rfl ?_
      obtain ⟨r7, hg, hf⟩ := bO_some hf
      refine e_callV (as := [.int (y1 - y1 / (nI 10) * (nI 10)), .int y3]) (v := (some (.int r7))) (s' := s) hV dX10_learn_40 (Or.inl rfl) rfl rfl rfl rfl (Nat.le_of_ble_eq_true rfl) (lc_M (by decide)) rfl rfl (fun Q hQ => tX6_pull (d := (d + 1)) hV (by decide) hg hQ) ?_
      obtain ⟨r8, hg, hf⟩ := bO_some hf
      refine e_callS (as := [.int r6, .int r7]) (v := (some (.int r8))) (s' := s) dX10_learn_43 rfl rfl rfl rfl rfl (Nat.le_of_ble_eq_true rfl) (fun Q hQ => tX2_nearer (d := (d + 1)) hV  hg hQ) ?_
      refine e_istore dX10_learn_46 (by decide) hf (fun v9 hf => ?_)
      refine e_aload_n 1 dX10_learn_48 rfl rfl ?_
      refine e_getr hV dX10_learn_49 rfl lc_T rfl ?_
      refine e_getr hV dX10_learn_52 rfl (lc_W (by decide)) rfl ?_
      refine e_iconst (w := (nI 3)) dX10_learn_55 (by decide) ?_
      refine e_iload_n 3 dX10_learn_56 rfl rfl ?_
      refine e_imul dX10_learn_57 ?_
      refine e_iload_n 4 dX10_learn_58 rfl rfl ?_
      refine e_iadd dX10_learn_59 ?_
      refine e_iload 0 dX10_learn_60 rfl ?_
      refine e_iast hV dX10_learn_62 (lc_W_hands (by decide)) hf (fun s10 hf => ?_)
      refine e_iinc 4 dX10_learn_63 (by decide) rfl hf (fun v11 hf => ?_)
      refine e_goto 17 dX10_learn_66 (by decide) ?_
      refine e_pick [2, 3, 4, 0] rfl ?_
      exact ih y1 y2 v11 s10 hf
set_option maxRecDepth 20000 in
theorem tX10_learn {ρ : mRo} {d : Nat} {P : mPo} {V : mS → List mE} (hV : mView LC V)  {x1 : Int32} {s : mS} {res : (Int32 × mS)} (hf : fX10_learn x1 s = some res) (hP : P (some (.int res.1)) (V res.2)) : mC ρ (d + 3) 94 [.ref qT, .int x1] (V s) P := by
  refine ⟨_, rfl, Nat.le_of_ble_eq_true rfl, by decide, ?_⟩
  show mG ρ (mC ρ (d + 2)) 10 5 cX10_learn (some .int) P 0 [(0, .ref qT), (1, .int x1)] [] (V s)
  unfold fX10_learn at hf
  refine e_aload_n 0 dX10_learn_0 rfl rfl ?_
  refine e_iload_n 1 dX10_learn_1 rfl rfl ?_
  obtain ⟨r1, hg, hf⟩ := bO_some hf
  refine e_callV (as := [.int x1]) (v := (some (.int r1))) (s' := s) hV dX10_learn_2 (Or.inl rfl) rfl rfl rfl rfl (Nat.le_of_ble_eq_true rfl) lc_T rfl rfl (fun Q hQ => tX10_isPair (d := d) hV  hg hQ) ?_
  refine e_if_ne 10 dX10_learn_5 (by decide) hf (fun hf => ?_) (fun hf => ?_)
  · refine e_iload_n 1 dX10_learn_10 rfl rfl ?_
    refine e_bipush (w := (nI 10)) dX10_learn_11 (by decide) ?_
    refine e_idiv dX10_learn_13 (by decide) ?_
    refine e_istore_n dX10_learn_14 rfl (by decide) hf (fun v2 hf => ?_)
    refine e_iconst (w := (nI 0)) dX10_learn_15 (by decide) ?_
    refine e_istore_n dX10_learn_16 rfl (by decide) hf (fun v3 hf => ?_)
    refine e_pick [2, 3, 1, 0] rfl ?_
    exact wX10_learn_b17 hV hP mFu x1 v2 v3 s hf
  · refine e_iconst (w := (-1)) dX10_learn_8 (by decide) ?_
    obtain rfl := Option.some.inj hf
    exact e_iret dX10_learn_9 trivial hP

theorem dX10_led_0 : decode cX10_led 0 = .ok (.iload_n 1, 1) := by decide +kernel
theorem dX10_led_1 : decode cX10_led 1 = .ok (.tableswitch 75 0 4 #[35, 43, 51, 59, 67], 35) := by decide +kernel
theorem dX10_led_36 : decode cX10_led 36 = .ok (.aload_n 0, 1) := by decide +kernel
theorem dX10_led_37 : decode cX10_led 37 = .ok (.getfield 63, 3) := by decide +kernel
theorem dX10_led_40 : decode cX10_led 40 = .ok (.getfield 282, 3) := by decide +kernel
theorem dX10_led_43 : decode cX10_led 43 = .ok (.ireturn, 1) := by decide +kernel
theorem dX10_led_44 : decode cX10_led 44 = .ok (.aload_n 0, 1) := by decide +kernel
theorem dX10_led_45 : decode cX10_led 45 = .ok (.getfield 63, 3) := by decide +kernel
theorem dX10_led_48 : decode cX10_led 48 = .ok (.getfield 297, 3) := by decide +kernel
theorem dX10_led_51 : decode cX10_led 51 = .ok (.ireturn, 1) := by decide +kernel
theorem dX10_led_52 : decode cX10_led 52 = .ok (.aload_n 0, 1) := by decide +kernel
theorem dX10_led_53 : decode cX10_led 53 = .ok (.getfield 63, 3) := by decide +kernel
theorem dX10_led_56 : decode cX10_led 56 = .ok (.getfield 303, 3) := by decide +kernel
theorem dX10_led_59 : decode cX10_led 59 = .ok (.ireturn, 1) := by decide +kernel
theorem dX10_led_60 : decode cX10_led 60 = .ok (.aload_n 0, 1) := by decide +kernel
theorem dX10_led_61 : decode cX10_led 61 = .ok (.getfield 63, 3) := by decide +kernel
theorem dX10_led_64 : decode cX10_led 64 = .ok (.getfield 285, 3) := by decide +kernel
theorem dX10_led_67 : decode cX10_led 67 = .ok (.ireturn, 1) := by decide +kernel
theorem dX10_led_68 : decode cX10_led 68 = .ok (.aload_n 0, 1) := by decide +kernel
theorem dX10_led_69 : decode cX10_led 69 = .ok (.getfield 63, 3) := by decide +kernel
theorem dX10_led_72 : decode cX10_led 72 = .ok (.getfield 291, 3) := by decide +kernel
theorem dX10_led_75 : decode cX10_led 75 = .ok (.ireturn, 1) := by decide +kernel
theorem dX10_led_76 : decode cX10_led 76 = .ok (.iconst (-1), 1) := by decide +kernel
theorem dX10_led_77 : decode cX10_led 77 = .ok (.ireturn, 1) := by decide +kernel
def fX10_led (x1 : Int32) (s : mS) : Option Int32 :=
  if x1 = (nI 0) then
    some (gI s (iG_letters 0))
  else if x1 = (nI 1) then
    some (gI s (iG_cleanings 0))
  else if x1 = (nI 2) then
    some (gI s (iG_learnings 0))
  else if x1 = (nI 3) then
    some (gI s (iG_showed 0))
  else if x1 = (nI 4) then
    some (gI s (iG_latest 0))
  else
    some (-1)

set_option maxRecDepth 20000 in
theorem tX10_led {ρ : mRo} {d : Nat} {P : mPo} {V : mS → List mE} (hV : mView LC V)  {x1 : Int32} {s : mS} {res : Int32} (hf : fX10_led x1 s = some res) (hP : P (some (.int res)) (V s)) : mC ρ (d + 1) 95 [.ref qT, .int x1] (V s) P := by
  refine ⟨_, rfl, Nat.le_of_ble_eq_true rfl, by decide, ?_⟩
  show mG ρ (mC ρ d) 10 2 cX10_led (some .int) P 0 [(0, .ref qT), (1, .int x1)] [] (V s)
  unfold fX10_led at hf
  refine e_iload_n 1 dX10_led_0 rfl rfl ?_
  by_cases hc0 : x1 = (nI 0)
  · rw [if_pos hc0] at hf
    refine e_tabI (off := 35) (tgt := 36) dX10_led_1 hc0 (by decide) (by decide) ?_
    refine e_aload_n 0 dX10_led_36 rfl rfl ?_
    refine e_getr hV dX10_led_37 rfl lc_T rfl ?_
    refine e_geti hV dX10_led_40 rfl (lc_G (by decide)) rfl ?_
    obtain rfl := Option.some.inj hf
    exact e_iret dX10_led_43 trivial hP
  rw [if_neg hc0] at hf
  by_cases hc1 : x1 = (nI 1)
  · rw [if_pos hc1] at hf
    refine e_tabI (off := 43) (tgt := 44) dX10_led_1 hc1 (by decide) (by decide) ?_
    refine e_aload_n 0 dX10_led_44 rfl rfl ?_
    refine e_getr hV dX10_led_45 rfl lc_T rfl ?_
    refine e_geti hV dX10_led_48 rfl (lc_G (by decide)) rfl ?_
    obtain rfl := Option.some.inj hf
    exact e_iret dX10_led_51 trivial hP
  rw [if_neg hc1] at hf
  by_cases hc2 : x1 = (nI 2)
  · rw [if_pos hc2] at hf
    refine e_tabI (off := 51) (tgt := 52) dX10_led_1 hc2 (by decide) (by decide) ?_
    refine e_aload_n 0 dX10_led_52 rfl rfl ?_
    refine e_getr hV dX10_led_53 rfl lc_T rfl ?_
    refine e_geti hV dX10_led_56 rfl (lc_G (by decide)) rfl ?_
    obtain rfl := Option.some.inj hf
    exact e_iret dX10_led_59 trivial hP
  rw [if_neg hc2] at hf
  by_cases hc3 : x1 = (nI 3)
  · rw [if_pos hc3] at hf
    refine e_tabI (off := 59) (tgt := 60) dX10_led_1 hc3 (by decide) (by decide) ?_
    refine e_aload_n 0 dX10_led_60 rfl rfl ?_
    refine e_getr hV dX10_led_61 rfl lc_T rfl ?_
    refine e_geti hV dX10_led_64 rfl (lc_G (by decide)) rfl ?_
    obtain rfl := Option.some.inj hf
    exact e_iret dX10_led_67 trivial hP
  rw [if_neg hc3] at hf
  by_cases hc4 : x1 = (nI 4)
  · rw [if_pos hc4] at hf
    refine e_tabI (off := 67) (tgt := 68) dX10_led_1 hc4 (by decide) (by decide) ?_
    refine e_aload_n 0 dX10_led_68 rfl rfl ?_
    refine e_getr hV dX10_led_69 rfl lc_T rfl ?_
    refine e_geti hV dX10_led_72 rfl (lc_G (by decide)) rfl ?_
    obtain rfl := Option.some.inj hf
    exact e_iret dX10_led_75 trivial hP
  rw [if_neg hc4] at hf
  refine e_tabD (tgt := 76) (ks := [(nI 0), (nI 1), (nI 2), (nI 3), (nI 4)]) dX10_led_1 (by decide) (fun z hz => ?_) ?_
  · simp only [List.mem_cons, List.not_mem_nil, or_false] at hz
    rcases hz with rfl | rfl | rfl | rfl | rfl
    · exact hc0
    · exact hc1
    · exact hc2
    · exact hc3
    · exact hc4
  refine e_iconst (w := (-1)) dX10_led_76 (by decide) ?_
  obtain rfl := Option.some.inj hf
  exact e_iret dX10_led_77 trivial hP

theorem dX10_image_0 : decode cX10_image 0 = .ok (.aload_n 0, 1) := by decide +kernel
theorem dX10_image_1 : decode cX10_image 1 = .ok (.getfield 81, 3) := by decide +kernel
theorem dX10_image_4 : decode cX10_image 4 = .ok (.aload_n 0, 1) := by decide +kernel
theorem dX10_image_5 : decode cX10_image 5 = .ok (.getfield 10, 3) := by decide +kernel
theorem dX10_image_8 : decode cX10_image 8 = .ok (.invokevirtual 197, 3) := by decide +kernel
theorem dX10_image_11 : decode cX10_image 11 = .ok (.aload_n 0, 1) := by decide +kernel
theorem dX10_image_12 : decode cX10_image 12 = .ok (.getfield 84, 3) := by decide +kernel
theorem dX10_image_15 : decode cX10_image 15 = .ok (.aload_n 0, 1) := by decide +kernel
theorem dX10_image_16 : decode cX10_image 16 = .ok (.getfield 22, 3) := by decide +kernel
theorem dX10_image_19 : decode cX10_image 19 = .ok (.invokevirtual 309, 3) := by decide +kernel
theorem dX10_image_22 : decode cX10_image 22 = .ok (.aload_n 0, 1) := by decide +kernel
theorem dX10_image_23 : decode cX10_image 23 = .ok (.getfield 87, 3) := by decide +kernel
theorem dX10_image_26 : decode cX10_image 26 = .ok (.aload_n 0, 1) := by decide +kernel
theorem dX10_image_27 : decode cX10_image 27 = .ok (.getfield 63, 3) := by decide +kernel
theorem dX10_image_30 : decode cX10_image 30 = .ok (.invokevirtual 312, 3) := by decide +kernel
theorem dX10_image_33 : decode cX10_image 33 = .ok (.aload_n 0, 1) := by decide +kernel
theorem dX10_image_34 : decode cX10_image 34 = .ok (.iconst 1, 1) := by decide +kernel
theorem dX10_image_35 : decode cX10_image 35 = .ok (.putfield 315, 3) := by decide +kernel
theorem dX10_image_38 : decode cX10_image 38 = .ok (.aload_n 0, 1) := by decide +kernel
theorem dX10_image_39 : decode cX10_image 39 = .ok (.getfield 63, 3) := by decide +kernel
theorem dX10_image_42 : decode cX10_image 42 = .ok (.getfield 282, 3) := by decide +kernel
theorem dX10_image_45 : decode cX10_image 45 = .ok (.ireturn, 1) := by decide +kernel
def fX10_image (s : mS) : Option (Int32 × mS) :=
  bO (fX6_copy 2 0 s) fun s1 =>
  bO (fX9_copy 1 0 s1) fun s2 =>
  bO (fX5_copy 1 0 s2) fun s3 =>
  bnd (pI s3 iT_imageKept (nI 1)) fun s4 =>
  some (gI s4 (iG_letters 0), s4)

set_option maxRecDepth 20000 in
theorem tX10_image {ρ : mRo} {d : Nat} {P : mPo} {V : mS → List mE} (hV : mView LC V)  {s : mS} {res : (Int32 × mS)} (hf : fX10_image s = some res) (hP : P (some (.int res.1)) (V res.2)) : mC ρ (d + 3) 96 [.ref qT] (V s) P := by
  refine ⟨_, rfl, Nat.le_of_ble_eq_true rfl, by decide, ?_⟩
  show mG ρ (mC ρ (d + 2)) 10 1 cX10_image (some .int) P 0 [(0, .ref qT)] [] (V s)
  unfold fX10_image at hf
  refine e_aload_n 0 dX10_image_0 rfl rfl ?_
  refine e_getr hV dX10_image_1 rfl lc_T rfl ?_
  refine e_aload_n 0 dX10_image_4 rfl rfl ?_
  refine e_getr hV dX10_image_5 rfl lc_T rfl ?_
  obtain ⟨s1, hg, hf⟩ := bO_some hf
  refine e_callV (as := [.ref (qM 0)]) (v := none) (s' := s1) hV dX10_image_8 (Or.inl rfl) rfl rfl rfl rfl (Nat.le_of_ble_eq_true rfl) (lc_M (by decide)) rfl rfl (fun Q hQ => tX6_copy (d := d) hV (by decide) (by decide) hg hQ) ?_
  refine e_aload_n 0 dX10_image_11 rfl rfl ?_
  refine e_getr hV dX10_image_12 rfl lc_T rfl ?_
  refine e_aload_n 0 dX10_image_15 rfl rfl ?_
  refine e_getr hV dX10_image_16 rfl lc_T rfl ?_
  obtain ⟨s2, hg, hf⟩ := bO_some hf
  refine e_callV (as := [.ref (qW 0)]) (v := none) (s' := s2) hV dX10_image_19 (Or.inl rfl) rfl rfl rfl rfl (Nat.le_of_ble_eq_true rfl) (lc_W (by decide)) rfl rfl (fun Q hQ => tX9_copy (d := d) hV (by decide) (by decide) hg hQ) ?_
  refine e_aload_n 0 dX10_image_22 rfl rfl ?_
  refine e_getr hV dX10_image_23 rfl lc_T rfl ?_
  refine e_aload_n 0 dX10_image_26 rfl rfl ?_
  refine e_getr hV dX10_image_27 rfl lc_T rfl ?_
  obtain ⟨s3, hg, hf⟩ := bO_some hf
  refine e_callV (as := [.ref (qG 0)]) (v := none) (s' := s3) hV dX10_image_30 (Or.inl rfl) rfl rfl rfl rfl (Nat.le_of_ble_eq_true rfl) (lc_G (by decide)) rfl rfl (fun Q hQ => tX5_copy (d := (d + 1)) hV (by decide) (by decide) hg hQ) ?_
  refine e_aload_n 0 dX10_image_33 rfl rfl ?_
  refine e_iconst (w := (nI 1)) dX10_image_34 (by decide) ?_
  refine e_puti hV dX10_image_35 rfl rfl rfl (Or.inr ⟨rfl, Or.inr rfl⟩) lc_T rfl hf (fun s4 hf => ?_)
  refine e_aload_n 0 dX10_image_38 rfl rfl ?_
  refine e_getr hV dX10_image_39 rfl lc_T rfl ?_
  refine e_geti hV dX10_image_42 rfl (lc_G (by decide)) rfl ?_
  obtain rfl := Option.some.inj hf
  exact e_iret dX10_image_45 trivial hP

theorem dX10_back_0 : decode cX10_back 0 = .ok (.aload_n 0, 1) := by decide +kernel
theorem dX10_back_1 : decode cX10_back 1 = .ok (.getfield 315, 3) := by decide +kernel
theorem dX10_back_4 : decode cX10_back 4 = .ok (.ifCond .ne 6, 3) := by decide +kernel
theorem dX10_back_7 : decode cX10_back 7 = .ok (.bipush (-5), 2) := by decide +kernel
theorem dX10_back_9 : decode cX10_back 9 = .ok (.ireturn, 1) := by decide +kernel
theorem dX10_back_10 : decode cX10_back 10 = .ok (.aload_n 0, 1) := by decide +kernel
theorem dX10_back_11 : decode cX10_back 11 = .ok (.getfield 10, 3) := by decide +kernel
theorem dX10_back_14 : decode cX10_back 14 = .ok (.aload_n 0, 1) := by decide +kernel
theorem dX10_back_15 : decode cX10_back 15 = .ok (.getfield 81, 3) := by decide +kernel
theorem dX10_back_18 : decode cX10_back 18 = .ok (.invokevirtual 319, 3) := by decide +kernel
theorem dX10_back_21 : decode cX10_back 21 = .ok (.aload_n 0, 1) := by decide +kernel
theorem dX10_back_22 : decode cX10_back 22 = .ok (.getfield 22, 3) := by decide +kernel
theorem dX10_back_25 : decode cX10_back 25 = .ok (.aload_n 0, 1) := by decide +kernel
theorem dX10_back_26 : decode cX10_back 26 = .ok (.getfield 84, 3) := by decide +kernel
theorem dX10_back_29 : decode cX10_back 29 = .ok (.invokevirtual 322, 3) := by decide +kernel
theorem dX10_back_32 : decode cX10_back 32 = .ok (.aload_n 0, 1) := by decide +kernel
theorem dX10_back_33 : decode cX10_back 33 = .ok (.getfield 63, 3) := by decide +kernel
theorem dX10_back_36 : decode cX10_back 36 = .ok (.aload_n 0, 1) := by decide +kernel
theorem dX10_back_37 : decode cX10_back 37 = .ok (.getfield 87, 3) := by decide +kernel
theorem dX10_back_40 : decode cX10_back 40 = .ok (.invokevirtual 312, 3) := by decide +kernel
theorem dX10_back_43 : decode cX10_back 43 = .ok (.aload_n 0, 1) := by decide +kernel
theorem dX10_back_44 : decode cX10_back 44 = .ok (.getfield 63, 3) := by decide +kernel
theorem dX10_back_47 : decode cX10_back 47 = .ok (.getfield 282, 3) := by decide +kernel
theorem dX10_back_50 : decode cX10_back 50 = .ok (.ireturn, 1) := by decide +kernel
def fX10_back (s : mS) : Option (Int32 × mS) :=
  if (gI s iT_imageKept) = 0 then
    some ((-5), s)
  else
    bO (fX6_layBack 0 2 s) fun s1 =>
    bO (fX9_layBack 0 1 s1) fun s2 =>
    bO (fX5_copy 0 1 s2) fun s3 =>
    some (gI s3 (iG_letters 0), s3)

set_option maxRecDepth 20000 in
theorem tX10_back {ρ : mRo} {d : Nat} {P : mPo} {V : mS → List mE} (hV : mView LC V)  {s : mS} {res : (Int32 × mS)} (hf : fX10_back s = some res) (hP : P (some (.int res.1)) (V res.2)) : mC ρ (d + 2) 97 [.ref qT] (V s) P := by
  refine ⟨_, rfl, Nat.le_of_ble_eq_true rfl, by decide, ?_⟩
  show mG ρ (mC ρ (d + 1)) 10 1 cX10_back (some .int) P 0 [(0, .ref qT)] [] (V s)
  unfold fX10_back at hf
  refine e_aload_n 0 dX10_back_0 rfl rfl ?_
  refine e_geti hV dX10_back_1 rfl lc_T rfl ?_
  refine e_if_ne 10 dX10_back_4 (by decide) hf (fun hf => ?_) (fun hf => ?_)
  · refine e_aload_n 0 dX10_back_10 rfl rfl ?_
    refine e_getr hV dX10_back_11 rfl lc_T rfl ?_
    refine e_aload_n 0 dX10_back_14 rfl rfl ?_
    refine e_getr hV dX10_back_15 rfl lc_T rfl ?_
    obtain ⟨s1, hg, hf⟩ := bO_some hf
    refine e_callV (as := [.ref (qM 2)]) (v := none) (s' := s1) hV dX10_back_18 (Or.inl rfl) rfl rfl rfl rfl (Nat.le_of_ble_eq_true rfl) (lc_M (by decide)) rfl rfl (fun Q hQ => tX6_layBack (d := d) hV (by decide) (by decide) hg hQ) ?_
    refine e_aload_n 0 dX10_back_21 rfl rfl ?_
    refine e_getr hV dX10_back_22 rfl lc_T rfl ?_
    refine e_aload_n 0 dX10_back_25 rfl rfl ?_
    refine e_getr hV dX10_back_26 rfl lc_T rfl ?_
    obtain ⟨s2, hg, hf⟩ := bO_some hf
    refine e_callV (as := [.ref (qW 1)]) (v := none) (s' := s2) hV dX10_back_29 (Or.inl rfl) rfl rfl rfl rfl (Nat.le_of_ble_eq_true rfl) (lc_W (by decide)) rfl rfl (fun Q hQ => tX9_layBack (d := d) hV (by decide) (by decide) hg hQ) ?_
    refine e_aload_n 0 dX10_back_32 rfl rfl ?_
    refine e_getr hV dX10_back_33 rfl lc_T rfl ?_
    refine e_aload_n 0 dX10_back_36 rfl rfl ?_
    refine e_getr hV dX10_back_37 rfl lc_T rfl ?_
    obtain ⟨s3, hg, hf⟩ := bO_some hf
    refine e_callV (as := [.ref (qG 1)]) (v := none) (s' := s3) hV dX10_back_40 (Or.inl rfl) rfl rfl rfl rfl (Nat.le_of_ble_eq_true rfl) (lc_G (by decide)) rfl rfl (fun Q hQ => tX5_copy (d := d) hV (by decide) (by decide) hg hQ) ?_
    refine e_aload_n 0 dX10_back_43 rfl rfl ?_
    refine e_getr hV dX10_back_44 rfl lc_T rfl ?_
    refine e_geti hV dX10_back_47 rfl (lc_G (by decide)) rfl ?_
    obtain rfl := Option.some.inj hf
    exact e_iret dX10_back_50 trivial hP
  · refine e_bipush (w := (-5)) dX10_back_7 (by decide) ?_
    obtain rfl := Option.some.inj hf
    exact e_iret dX10_back_9 trivial hP

theorem dX10_undo_0 : decode cX10_undo 0 = .ok (.aload_n 0, 1) := by decide +kernel
theorem dX10_undo_1 : decode cX10_undo 1 = .ok (.getfield 49, 3) := by decide +kernel
theorem dX10_undo_4 : decode cX10_undo 4 = .ok (.getfield 324, 3) := by decide +kernel
theorem dX10_undo_7 : decode cX10_undo 7 = .ok (.ifCond .ne 6, 3) := by decide +kernel
theorem dX10_undo_10 : decode cX10_undo 10 = .ok (.bipush (-5), 2) := by decide +kernel
theorem dX10_undo_12 : decode cX10_undo 12 = .ok (.ireturn, 1) := by decide +kernel
theorem dX10_undo_13 : decode cX10_undo 13 = .ok (.aload_n 0, 1) := by decide +kernel
theorem dX10_undo_14 : decode cX10_undo 14 = .ok (.getfield 49, 3) := by decide +kernel
theorem dX10_undo_17 : decode cX10_undo 17 = .ok (.dup, 1) := by decide +kernel
theorem dX10_undo_18 : decode cX10_undo 18 = .ok (.getfield 324, 3) := by decide +kernel
theorem dX10_undo_21 : decode cX10_undo 21 = .ok (.iconst 1, 1) := by decide +kernel
theorem dX10_undo_22 : decode cX10_undo 22 = .ok (.isub, 1) := by decide +kernel
theorem dX10_undo_23 : decode cX10_undo 23 = .ok (.putfield 324, 3) := by decide +kernel
theorem dX10_undo_26 : decode cX10_undo 26 = .ok (.aload_n 0, 1) := by decide +kernel
theorem dX10_undo_27 : decode cX10_undo 27 = .ok (.getfield 49, 3) := by decide +kernel
theorem dX10_undo_30 : decode cX10_undo 30 = .ok (.getfield 324, 3) := by decide +kernel
theorem dX10_undo_33 : decode cX10_undo 33 = .ok (.istore_n 1, 1) := by decide +kernel
theorem dX10_undo_34 : decode cX10_undo 34 = .ok (.aload_n 0, 1) := by decide +kernel
theorem dX10_undo_35 : decode cX10_undo 35 = .ok (.aload_n 0, 1) := by decide +kernel
theorem dX10_undo_36 : decode cX10_undo 36 = .ok (.getfield 49, 3) := by decide +kernel
theorem dX10_undo_39 : decode cX10_undo 39 = .ok (.getfield 327, 3) := by decide +kernel
theorem dX10_undo_42 : decode cX10_undo 42 = .ok (.iload_n 1, 1) := by decide +kernel
theorem dX10_undo_43 : decode cX10_undo 43 = .ok (.iaload, 1) := by decide +kernel
theorem dX10_undo_44 : decode cX10_undo 44 = .ok (.aload_n 0, 1) := by decide +kernel
theorem dX10_undo_45 : decode cX10_undo 45 = .ok (.getfield 49, 3) := by decide +kernel
theorem dX10_undo_48 : decode cX10_undo 48 = .ok (.getfield 330, 3) := by decide +kernel
theorem dX10_undo_51 : decode cX10_undo 51 = .ok (.iload_n 1, 1) := by decide +kernel
theorem dX10_undo_52 : decode cX10_undo 52 = .ok (.iaload, 1) := by decide +kernel
theorem dX10_undo_53 : decode cX10_undo 53 = .ok (.aload_n 0, 1) := by decide +kernel
theorem dX10_undo_54 : decode cX10_undo 54 = .ok (.getfield 49, 3) := by decide +kernel
theorem dX10_undo_57 : decode cX10_undo 57 = .ok (.getfield 333, 3) := by decide +kernel
theorem dX10_undo_60 : decode cX10_undo 60 = .ok (.iload_n 1, 1) := by decide +kernel
theorem dX10_undo_61 : decode cX10_undo 61 = .ok (.iaload, 1) := by decide +kernel
theorem dX10_undo_62 : decode cX10_undo 62 = .ok (.invokevirtual 145, 3) := by decide +kernel
theorem dX10_undo_65 : decode cX10_undo 65 = .ok (.aload_n 0, 1) := by decide +kernel
theorem dX10_undo_66 : decode cX10_undo 66 = .ok (.getfield 49, 3) := by decide +kernel
theorem dX10_undo_69 : decode cX10_undo 69 = .ok (.getfield 324, 3) := by decide +kernel
theorem dX10_undo_72 : decode cX10_undo 72 = .ok (.ireturn, 1) := by decide +kernel
def fX10_undo (s : mS) : Option (Int32 × mS) :=
  if (gI s iH_done) = 0 then
    some ((-5), s)
  else
    bnd (pI s iH_done ((gI s iH_done) - (nI 1))) fun s1 =>
    bnd (gI s1 iH_done) fun v2 =>
    ldA s1 aH_numbers 40 v2 fun v3 =>
    ldA s1 aH_whats 40 v2 fun v4 =>
    ldA s1 aH_olds 40 v2 fun v5 =>
    bO (fX10_setValue v3 v4 v5 s1) fun s6 =>
    some (gI s6 iH_done, s6)

set_option maxRecDepth 20000 in
theorem tX10_undo {ρ : mRo} {d : Nat} {P : mPo} {V : mS → List mE} (hV : mView LC V)  {s : mS} {res : (Int32 × mS)} (hf : fX10_undo s = some res) (hP : P (some (.int res.1)) (V res.2)) : mC ρ (d + 2) 98 [.ref qT] (V s) P := by
  refine ⟨_, rfl, Nat.le_of_ble_eq_true rfl, by decide, ?_⟩
  show mG ρ (mC ρ (d + 1)) 10 2 cX10_undo (some .int) P 0 [(0, .ref qT)] [] (V s)
  unfold fX10_undo at hf
  refine e_aload_n 0 dX10_undo_0 rfl rfl ?_
  refine e_getr hV dX10_undo_1 rfl lc_T rfl ?_
  refine e_geti hV dX10_undo_4 rfl lc_H rfl ?_
  refine e_if_ne 13 dX10_undo_7 (by decide) hf (fun hf => ?_) (fun hf => ?_)
  · refine e_aload_n 0 dX10_undo_13 rfl rfl ?_
    refine e_getr hV dX10_undo_14 rfl lc_T rfl ?_
    refine e_dup dX10_undo_17 rfl ?_
    refine e_geti hV dX10_undo_18 rfl lc_H rfl ?_
    refine e_iconst (w := (nI 1)) dX10_undo_21 (by decide) ?_
    refine e_isub dX10_undo_22 ?_
    refine e_puti hV dX10_undo_23 rfl rfl rfl (Or.inl rfl) lc_H rfl hf (fun s1 hf => ?_)
    refine e_aload_n 0 dX10_undo_26 rfl rfl ?_
    refine e_getr hV dX10_undo_27 rfl lc_T rfl ?_
    refine e_geti hV dX10_undo_30 rfl lc_H rfl ?_
    refine e_istore_n dX10_undo_33 rfl (by decide) hf (fun v2 hf => ?_)
    refine e_aload_n 1 dX10_undo_34 rfl rfl ?_
    refine e_aload_n 1 dX10_undo_35 rfl rfl ?_
    refine e_getr hV dX10_undo_36 rfl lc_T rfl ?_
    refine e_getr hV dX10_undo_39 rfl lc_H rfl ?_
    refine e_iload_n 0 dX10_undo_42 rfl rfl ?_
    refine e_iald hV dX10_undo_43 lc_H_numbers hf (fun v3 hf => ?_)
    refine e_aload_n 1 dX10_undo_44 rfl rfl ?_
    refine e_getr hV dX10_undo_45 rfl lc_T rfl ?_
    refine e_getr hV dX10_undo_48 rfl lc_H rfl ?_
    refine e_iload_n 0 dX10_undo_51 rfl rfl ?_
    refine e_iald hV dX10_undo_52 lc_H_whats hf (fun v4 hf => ?_)
    refine e_aload_n 1 dX10_undo_53 rfl rfl ?_
    refine e_getr hV dX10_undo_54 rfl lc_T rfl ?_
    refine e_getr hV dX10_undo_57 rfl lc_H rfl ?_
    refine e_iload_n 0 dX10_undo_60 rfl rfl ?_
    refine e_iald hV dX10_undo_61 lc_H_olds hf (fun v5 hf => ?_)
    obtain ⟨s6, hg, hf⟩ := bO_some hf
    refine e_callV (as := [.int v3, .int v4, .int v5]) (v := none) (s' := s6) hV dX10_undo_62 (Or.inl rfl) rfl rfl rfl rfl (Nat.le_of_ble_eq_true rfl) lc_T rfl rfl (fun Q hQ => tX10_setValue (d := d) hV  hg hQ) ?_
    refine e_aload_n 1 dX10_undo_65 rfl rfl ?_
    refine e_getr hV dX10_undo_66 rfl lc_T rfl ?_
    refine e_geti hV dX10_undo_69 rfl lc_H rfl ?_
    obtain rfl := Option.some.inj hf
    exact e_iret dX10_undo_72 trivial hP
  · refine e_bipush (w := (-5)) dX10_undo_10 (by decide) ?_
    obtain rfl := Option.some.inj hf
    exact e_iret dX10_undo_12 trivial hP

theorem dX10_redo_0 : decode cX10_redo 0 = .ok (.aload_n 0, 1) := by decide +kernel
theorem dX10_redo_1 : decode cX10_redo 1 = .ok (.getfield 49, 3) := by decide +kernel
theorem dX10_redo_4 : decode cX10_redo 4 = .ok (.getfield 324, 3) := by decide +kernel
theorem dX10_redo_7 : decode cX10_redo 7 = .ok (.aload_n 0, 1) := by decide +kernel
theorem dX10_redo_8 : decode cX10_redo 8 = .ok (.getfield 49, 3) := by decide +kernel
theorem dX10_redo_11 : decode cX10_redo 11 = .ok (.getfield 336, 3) := by decide +kernel
theorem dX10_redo_14 : decode cX10_redo 14 = .ok (.if_icmp .lt 6, 3) := by decide +kernel
theorem dX10_redo_17 : decode cX10_redo 17 = .ok (.bipush (-5), 2) := by decide +kernel
theorem dX10_redo_19 : decode cX10_redo 19 = .ok (.ireturn, 1) := by decide +kernel
theorem dX10_redo_20 : decode cX10_redo 20 = .ok (.aload_n 0, 1) := by decide +kernel
theorem dX10_redo_21 : decode cX10_redo 21 = .ok (.getfield 49, 3) := by decide +kernel
theorem dX10_redo_24 : decode cX10_redo 24 = .ok (.getfield 324, 3) := by decide +kernel
theorem dX10_redo_27 : decode cX10_redo 27 = .ok (.istore_n 1, 1) := by decide +kernel
theorem dX10_redo_28 : decode cX10_redo 28 = .ok (.aload_n 0, 1) := by decide +kernel
theorem dX10_redo_29 : decode cX10_redo 29 = .ok (.aload_n 0, 1) := by decide +kernel
theorem dX10_redo_30 : decode cX10_redo 30 = .ok (.getfield 49, 3) := by decide +kernel
theorem dX10_redo_33 : decode cX10_redo 33 = .ok (.getfield 327, 3) := by decide +kernel
theorem dX10_redo_36 : decode cX10_redo 36 = .ok (.iload_n 1, 1) := by decide +kernel
theorem dX10_redo_37 : decode cX10_redo 37 = .ok (.iaload, 1) := by decide +kernel
theorem dX10_redo_38 : decode cX10_redo 38 = .ok (.aload_n 0, 1) := by decide +kernel
theorem dX10_redo_39 : decode cX10_redo 39 = .ok (.getfield 49, 3) := by decide +kernel
theorem dX10_redo_42 : decode cX10_redo 42 = .ok (.getfield 330, 3) := by decide +kernel
theorem dX10_redo_45 : decode cX10_redo 45 = .ok (.iload_n 1, 1) := by decide +kernel
theorem dX10_redo_46 : decode cX10_redo 46 = .ok (.iaload, 1) := by decide +kernel
theorem dX10_redo_47 : decode cX10_redo 47 = .ok (.aload_n 0, 1) := by decide +kernel
theorem dX10_redo_48 : decode cX10_redo 48 = .ok (.getfield 49, 3) := by decide +kernel
theorem dX10_redo_51 : decode cX10_redo 51 = .ok (.getfield 339, 3) := by decide +kernel
theorem dX10_redo_54 : decode cX10_redo 54 = .ok (.iload_n 1, 1) := by decide +kernel
theorem dX10_redo_55 : decode cX10_redo 55 = .ok (.iaload, 1) := by decide +kernel
theorem dX10_redo_56 : decode cX10_redo 56 = .ok (.invokevirtual 145, 3) := by decide +kernel
theorem dX10_redo_59 : decode cX10_redo 59 = .ok (.aload_n 0, 1) := by decide +kernel
theorem dX10_redo_60 : decode cX10_redo 60 = .ok (.getfield 49, 3) := by decide +kernel
theorem dX10_redo_63 : decode cX10_redo 63 = .ok (.dup, 1) := by decide +kernel
theorem dX10_redo_64 : decode cX10_redo 64 = .ok (.getfield 324, 3) := by decide +kernel
theorem dX10_redo_67 : decode cX10_redo 67 = .ok (.iconst 1, 1) := by decide +kernel
theorem dX10_redo_68 : decode cX10_redo 68 = .ok (.iadd, 1) := by decide +kernel
theorem dX10_redo_69 : decode cX10_redo 69 = .ok (.putfield 324, 3) := by decide +kernel
theorem dX10_redo_72 : decode cX10_redo 72 = .ok (.aload_n 0, 1) := by decide +kernel
theorem dX10_redo_73 : decode cX10_redo 73 = .ok (.getfield 49, 3) := by decide +kernel
theorem dX10_redo_76 : decode cX10_redo 76 = .ok (.getfield 336, 3) := by decide +kernel
theorem dX10_redo_79 : decode cX10_redo 79 = .ok (.aload_n 0, 1) := by decide +kernel
theorem dX10_redo_80 : decode cX10_redo 80 = .ok (.getfield 49, 3) := by decide +kernel
theorem dX10_redo_83 : decode cX10_redo 83 = .ok (.getfield 324, 3) := by decide +kernel
theorem dX10_redo_86 : decode cX10_redo 86 = .ok (.isub, 1) := by decide +kernel
theorem dX10_redo_87 : decode cX10_redo 87 = .ok (.ireturn, 1) := by decide +kernel
def fX10_redo (s : mS) : Option (Int32 × mS) :=
  if (gI s iH_done) < (gI s iH_kept) then
    bnd (gI s iH_done) fun v1 =>
    ldA s aH_numbers 40 v1 fun v2 =>
    ldA s aH_whats 40 v1 fun v3 =>
    ldA s aH_news 40 v1 fun v4 =>
    bO (fX10_setValue v2 v3 v4 s) fun s5 =>
    bnd (pI s5 iH_done ((gI s5 iH_done) + (nI 1))) fun s6 =>
    some ((gI s6 iH_kept) - (gI s6 iH_done), s6)
  else
    some ((-5), s)

set_option maxRecDepth 20000 in
theorem tX10_redo {ρ : mRo} {d : Nat} {P : mPo} {V : mS → List mE} (hV : mView LC V)  {s : mS} {res : (Int32 × mS)} (hf : fX10_redo s = some res) (hP : P (some (.int res.1)) (V res.2)) : mC ρ (d + 2) 99 [.ref qT] (V s) P := by
  refine ⟨_, rfl, Nat.le_of_ble_eq_true rfl, by decide, ?_⟩
  show mG ρ (mC ρ (d + 1)) 10 2 cX10_redo (some .int) P 0 [(0, .ref qT)] [] (V s)
  unfold fX10_redo at hf
  refine e_aload_n 0 dX10_redo_0 rfl rfl ?_
  refine e_getr hV dX10_redo_1 rfl lc_T rfl ?_
  refine e_geti hV dX10_redo_4 rfl lc_H rfl ?_
  refine e_aload_n 0 dX10_redo_7 rfl rfl ?_
  refine e_getr hV dX10_redo_8 rfl lc_T rfl ?_
  refine e_geti hV dX10_redo_11 rfl lc_H rfl ?_
  refine e_icmp_lt 20 dX10_redo_14 (by decide) hf (fun hf => ?_) (fun hf => ?_)
  · refine e_aload_n 0 dX10_redo_20 rfl rfl ?_
    refine e_getr hV dX10_redo_21 rfl lc_T rfl ?_
    refine e_geti hV dX10_redo_24 rfl lc_H rfl ?_
    refine e_istore_n dX10_redo_27 rfl (by decide) hf (fun v1 hf => ?_)
    refine e_aload_n 1 dX10_redo_28 rfl rfl ?_
    refine e_aload_n 1 dX10_redo_29 rfl rfl ?_
    refine e_getr hV dX10_redo_30 rfl lc_T rfl ?_
    refine e_getr hV dX10_redo_33 rfl lc_H rfl ?_
    refine e_iload_n 0 dX10_redo_36 rfl rfl ?_
    refine e_iald hV dX10_redo_37 lc_H_numbers hf (fun v2 hf => ?_)
    refine e_aload_n 1 dX10_redo_38 rfl rfl ?_
    refine e_getr hV dX10_redo_39 rfl lc_T rfl ?_
    refine e_getr hV dX10_redo_42 rfl lc_H rfl ?_
    refine e_iload_n 0 dX10_redo_45 rfl rfl ?_
    refine e_iald hV dX10_redo_46 lc_H_whats hf (fun v3 hf => ?_)
    refine e_aload_n 1 dX10_redo_47 rfl rfl ?_
    refine e_getr hV dX10_redo_48 rfl lc_T rfl ?_
    refine e_getr hV dX10_redo_51 rfl lc_H rfl ?_
    refine e_iload_n 0 dX10_redo_54 rfl rfl ?_
    refine e_iald hV dX10_redo_55 lc_H_news hf (fun v4 hf => ?_)
    obtain ⟨s5, hg, hf⟩ := bO_some hf
    refine e_callV (as := [.int v2, .int v3, .int v4]) (v := none) (s' := s5) hV dX10_redo_56 (Or.inl rfl) rfl rfl rfl rfl (Nat.le_of_ble_eq_true rfl) lc_T rfl rfl (fun Q hQ => tX10_setValue (d := d) hV  hg hQ) ?_
    refine e_aload_n 1 dX10_redo_59 rfl rfl ?_
    refine e_getr hV dX10_redo_60 rfl lc_T rfl ?_
    refine e_dup dX10_redo_63 rfl ?_
    refine e_geti hV dX10_redo_64 rfl lc_H rfl ?_
    refine e_iconst (w := (nI 1)) dX10_redo_67 (by decide) ?_
    refine e_iadd dX10_redo_68 ?_
    refine e_puti hV dX10_redo_69 rfl rfl rfl (Or.inl rfl) lc_H rfl hf (fun s6 hf => ?_)
    refine e_aload_n 1 dX10_redo_72 rfl rfl ?_
    refine e_getr hV dX10_redo_73 rfl lc_T rfl ?_
    refine e_geti hV dX10_redo_76 rfl lc_H rfl ?_
    refine e_aload_n 1 dX10_redo_79 rfl rfl ?_
    refine e_getr hV dX10_redo_80 rfl lc_T rfl ?_
    refine e_geti hV dX10_redo_83 rfl lc_H rfl ?_
    refine e_isub dX10_redo_86 ?_
    obtain rfl := Option.some.inj hf
    exact e_iret dX10_redo_87 trivial hP
  · refine e_bipush (w := (-5)) dX10_redo_17 (by decide) ?_
    obtain rfl := Option.some.inj hf
    exact e_iret dX10_redo_19 trivial hP

theorem dX10_body_0 : decode cX10_body 0 = .ok (.iload_n 1, 1) := by decide +kernel
theorem dX10_body_1 : decode cX10_body 1 = .ok (.ifCond .lt 9, 3) := by decide +kernel
theorem dX10_body_4 : decode cX10_body 4 = .ok (.iload_n 1, 1) := by decide +kernel
theorem dX10_body_5 : decode cX10_body 5 = .ok (.bipush 8, 2) := by decide +kernel
theorem dX10_body_7 : decode cX10_body 7 = .ok (.if_icmp .lt 5, 3) := by decide +kernel
theorem dX10_body_10 : decode cX10_body 10 = .ok (.iconst (-1), 1) := by decide +kernel
theorem dX10_body_11 : decode cX10_body 11 = .ok (.ireturn, 1) := by decide +kernel
theorem dX10_body_12 : decode cX10_body 12 = .ok (.aload_n 0, 1) := by decide +kernel
theorem dX10_body_13 : decode cX10_body 13 = .ok (.getfield 56, 3) := by decide +kernel
theorem dX10_body_16 : decode cX10_body 16 = .ok (.invokevirtual 342, 3) := by decide +kernel
theorem dX10_body_19 : decode cX10_body 19 = .ok (.ifCond .eq 8, 3) := by decide +kernel
theorem dX10_body_22 : decode cX10_body 22 = .ok (.bipush (-3), 2) := by decide +kernel
theorem dX10_body_24 : decode cX10_body 24 = .ok (.goto 11, 3) := by decide +kernel
theorem dX10_body_27 : decode cX10_body 27 = .ok (.aload_n 0, 1) := by decide +kernel
theorem dX10_body_28 : decode cX10_body 28 = .ok (.getfield 56, 3) := by decide +kernel
theorem dX10_body_31 : decode cX10_body 31 = .ok (.iload_n 1, 1) := by decide +kernel
theorem dX10_body_32 : decode cX10_body 32 = .ok (.invokevirtual 343, 3) := by decide +kernel
theorem dX10_body_35 : decode cX10_body 35 = .ok (.ireturn, 1) := by decide +kernel
def fX10_body (x1 : Int32) (s : mS) : Option (Int32 × mS) :=
  if x1 < 0 then
    some ((-1), s)
  else
    if x1 < (nI 8) then
      bO (fX3_isFull s) fun r1 =>
      if r1 = 0 then
        bP (fX3_join x1 s) fun r2 s3 =>
        some (r2, s3)
      else
        some ((-3), s)
    else
      some ((-1), s)

set_option maxRecDepth 20000 in
theorem tX10_body {ρ : mRo} {d : Nat} {P : mPo} {V : mS → List mE} (hV : mView LC V)  {x1 : Int32} {s : mS} {res : (Int32 × mS)} (hf : fX10_body x1 s = some res) (hP : P (some (.int res.1)) (V res.2)) : mC ρ (d + 2) 100 [.ref qT, .int x1] (V s) P := by
  refine ⟨_, rfl, Nat.le_of_ble_eq_true rfl, by decide, ?_⟩
  show mG ρ (mC ρ (d + 1)) 10 2 cX10_body (some .int) P 0 [(0, .ref qT), (1, .int x1)] [] (V s)
  unfold fX10_body at hf
  refine e_iload_n 1 dX10_body_0 rfl rfl ?_
  refine e_if_lt 10 dX10_body_1 (by decide) hf (fun hf => ?_) (fun hf => ?_)
  · refine e_iconst (w := (-1)) dX10_body_10 (by decide) ?_
    obtain rfl := Option.some.inj hf
    exact e_iret dX10_body_11 trivial hP
  · refine e_iload_n 1 dX10_body_4 rfl rfl ?_
    refine e_bipush (w := (nI 8)) dX10_body_5 (by decide) ?_
    refine e_icmp_lt 12 dX10_body_7 (by decide) hf (fun hf => ?_) (fun hf => ?_)
    · refine e_aload_n 0 dX10_body_12 rfl rfl ?_
      refine e_getr hV dX10_body_13 rfl lc_T rfl ?_
      obtain ⟨r1, hg, hf⟩ := bO_some hf
      refine e_callV (as := []) (v := (some (.int r1))) (s' := s) hV dX10_body_16 (Or.inl rfl) rfl rfl rfl rfl (Nat.le_of_ble_eq_true rfl) lc_U rfl rfl (fun Q hQ => tX3_isFull (d := d) hV  hg hQ) ?_
      refine e_if_eq 27 dX10_body_19 (by decide) hf (fun hf => ?_) (fun hf => ?_)
      · refine e_aload_n 0 dX10_body_27 rfl rfl ?_
        refine e_getr hV dX10_body_28 rfl lc_T rfl ?_
        refine e_iload_n 1 dX10_body_31 rfl rfl ?_
        obtain ⟨r2, s3, hg, hf⟩ := bP_some hf
        refine e_callV (as := [.int x1]) (v := (some (.int r2))) (s' := s3) hV dX10_body_32 (Or.inl rfl) rfl rfl rfl rfl (Nat.le_of_ble_eq_true rfl) lc_U rfl rfl (fun Q hQ => tX3_join (d := d) hV  hg hQ) ?_
        obtain rfl := Option.some.inj hf
        exact e_iret dX10_body_35 trivial hP
      · refine e_bipush (w := (-3)) dX10_body_22 (by decide) ?_
        refine e_goto 35 dX10_body_24 (by decide) ?_
        obtain rfl := Option.some.inj hf
        exact e_iret dX10_body_35 trivial hP
    · refine e_iconst (w := (-1)) dX10_body_10 (by decide) ?_
      obtain rfl := Option.some.inj hf
      exact e_iret dX10_body_11 trivial hP
