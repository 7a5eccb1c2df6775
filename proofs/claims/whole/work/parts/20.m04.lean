-- bytecode to functions, by program (wip/gen/decomp.py)
theorem dX10_between_0 : decode cX10_between 0 = .ok (.aload_n 0, 1) := by decide +kernel
theorem dX10_between_1 : decode cX10_between 1 = .ok (.iload_n 2, 1) := by decide +kernel
theorem dX10_between_2 : decode cX10_between 2 = .ok (.invokevirtual 164, 3) := by decide +kernel
theorem dX10_between_5 : decode cX10_between 5 = .ok (.ifCond .eq 14, 3) := by decide +kernel
theorem dX10_between_8 : decode cX10_between 8 = .ok (.aload_n 0, 1) := by decide +kernel
theorem dX10_between_9 : decode cX10_between 9 = .ok (.getfield 22, 3) := by decide +kernel
theorem dX10_between_12 : decode cX10_between 12 = .ok (.iload_n 3, 1) := by decide +kernel
theorem dX10_between_13 : decode cX10_between 13 = .ok (.invokevirtual 208, 3) := by decide +kernel
theorem dX10_between_16 : decode cX10_between 16 = .ok (.ifCond .ne 5, 3) := by decide +kernel
theorem dX10_between_19 : decode cX10_between 19 = .ok (.iconst (-1), 1) := by decide +kernel
theorem dX10_between_20 : decode cX10_between 20 = .ok (.ireturn, 1) := by decide +kernel
theorem dX10_between_21 : decode cX10_between 21 = .ok (.aload_n 0, 1) := by decide +kernel
theorem dX10_between_22 : decode cX10_between 22 = .ok (.iload_n 1, 1) := by decide +kernel
theorem dX10_between_23 : decode cX10_between 23 = .ok (.iconst 0, 1) := by decide +kernel
theorem dX10_between_24 : decode cX10_between 24 = .ok (.invokevirtual 177, 3) := by decide +kernel
theorem dX10_between_27 : decode cX10_between 27 = .ok (.istore 4, 2) := by decide +kernel
theorem dX10_between_29 : decode cX10_between 29 = .ok (.iload 4, 2) := by decide +kernel
theorem dX10_between_31 : decode cX10_between 31 = .ok (.ifCond .eq 6, 3) := by decide +kernel
theorem dX10_between_34 : decode cX10_between 34 = .ok (.iload 4, 2) := by decide +kernel
theorem dX10_between_36 : decode cX10_between 36 = .ok (.ireturn, 1) := by decide +kernel
theorem dX10_between_37 : decode cX10_between 37 = .ok (.aload_n 0, 1) := by decide +kernel
theorem dX10_between_38 : decode cX10_between 38 = .ok (.getfield 16, 3) := by decide +kernel
theorem dX10_between_41 : decode cX10_between 41 = .ok (.aload_n 0, 1) := by decide +kernel
theorem dX10_between_42 : decode cX10_between 42 = .ok (.getfield 10, 3) := by decide +kernel
theorem dX10_between_45 : decode cX10_between 45 = .ok (.invokevirtual 197, 3) := by decide +kernel
theorem dX10_between_48 : decode cX10_between 48 = .ok (.iconst 0, 1) := by decide +kernel
theorem dX10_between_49 : decode cX10_between 49 = .ok (.istore 5, 2) := by decide +kernel
theorem dX10_between_51 : decode cX10_between 51 = .ok (.iload 5, 2) := by decide +kernel
theorem dX10_between_53 : decode cX10_between 53 = .ok (.bipush 60, 2) := by decide +kernel
theorem dX10_between_55 : decode cX10_between 55 = .ok (.if_icmp .gt 50, 3) := by decide +kernel
theorem dX10_between_58 : decode cX10_between 58 = .ok (.aload_n 0, 1) := by decide +kernel
theorem dX10_between_59 : decode cX10_between 59 = .ok (.aload_n 0, 1) := by decide +kernel
theorem dX10_between_60 : decode cX10_between 60 = .ok (.getfield 42, 3) := by decide +kernel
theorem dX10_between_63 : decode cX10_between 63 = .ok (.iload_n 1, 1) := by decide +kernel
theorem dX10_between_64 : decode cX10_between 64 = .ok (.aaload, 1) := by decide +kernel
theorem dX10_between_65 : decode cX10_between 65 = .ok (.aload_n 0, 1) := by decide +kernel
theorem dX10_between_66 : decode cX10_between 66 = .ok (.getfield 16, 3) := by decide +kernel
theorem dX10_between_69 : decode cX10_between 69 = .ok (.iload_n 3, 1) := by decide +kernel
theorem dX10_between_70 : decode cX10_between 70 = .ok (.iload_n 2, 1) := by decide +kernel
theorem dX10_between_71 : decode cX10_between 71 = .ok (.bipush 10, 2) := by decide +kernel
theorem dX10_between_73 : decode cX10_between 73 = .ok (.irem, 1) := by decide +kernel
theorem dX10_between_74 : decode cX10_between 74 = .ok (.invokevirtual 242, 3) := by decide +kernel
theorem dX10_between_77 : decode cX10_between 77 = .ok (.ifCond .eq 6, 3) := by decide +kernel
theorem dX10_between_80 : decode cX10_between 80 = .ok (.iload 5, 2) := by decide +kernel
theorem dX10_between_82 : decode cX10_between 82 = .ok (.ireturn, 1) := by decide +kernel
theorem dX10_between_83 : decode cX10_between 83 = .ok (.aload_n 0, 1) := by decide +kernel
theorem dX10_between_84 : decode cX10_between 84 = .ok (.aload_n 0, 1) := by decide +kernel
theorem dX10_between_85 : decode cX10_between 85 = .ok (.getfield 16, 3) := by decide +kernel
theorem dX10_between_88 : decode cX10_between 88 = .ok (.iload_n 2, 1) := by decide +kernel
theorem dX10_between_89 : decode cX10_between 89 = .ok (.bipush 10, 2) := by decide +kernel
theorem dX10_between_91 : decode cX10_between 91 = .ok (.idiv, 1) := by decide +kernel
theorem dX10_between_92 : decode cX10_between 92 = .ok (.iload_n 2, 1) := by decide +kernel
theorem dX10_between_93 : decode cX10_between 93 = .ok (.bipush 10, 2) := by decide +kernel
theorem dX10_between_95 : decode cX10_between 95 = .ok (.irem, 1) := by decide +kernel
theorem dX10_between_96 : decode cX10_between 96 = .ok (.invokevirtual 254, 3) := by decide +kernel
theorem dX10_between_99 : decode cX10_between 99 = .ok (.iinc 5 1, 3) := by decide +kernel
theorem dX10_between_102 : decode cX10_between 102 = .ok (.goto (-51), 3) := by decide +kernel
theorem dX10_between_105 : decode cX10_between 105 = .ok (.bipush (-2), 2) := by decide +kernel
theorem dX10_between_107 : decode cX10_between 107 = .ok (.ireturn, 1) := by decide +kernel
def fX10_between_b51 : Nat → Int32 → Int32 → Int32 → Int32 → mS → Option (Int32 × mS)
  | 0, _, _, _, _, _ => none
  | k + 1, y1, y2, y3, y5, s =>
    if 60 < y5 then
      some ((-2), s)
    else
      ldS 6 y1 fun j7 =>
      bP (fX10_fits j7 1 y3 (y2 - y2 / 10 * 10) s) fun r8 s9 =>
      if r8 = 0 then
        bO (fX10_pass 1 (y2 / 10) (y2 - y2 / 10 * 10) s9) fun s10 =>
        bnd (y5 + 1) fun v11 =>
        fX10_between_b51 k y1 y2 y3 v11 s10
      else
        some (y5, s9)

def fX10_between (x1 : Int32) (x2 : Int32) (x3 : Int32) (s : mS) : Option (Int32 × mS) :=
  bO (fX10_isPair x2 s) fun r1 =>
  if r1 = 0 then
    some ((-1), s)
  else
    bO (fX9_has 0 x3 s) fun r2 =>
    if r2 = 0 then
      some ((-1), s)
    else
      bO (fX10_rowRefusal x1 0 s) fun r3 =>
      bnd r3 fun v4 =>
      if v4 = 0 then
        bO (fX6_copy 1 0 s) fun s5 =>
        bnd 0 fun v6 =>
        fX10_between_b51 mFu x1 x2 x3 v6 s5
      else
        some (v4, s)

set_option maxRecDepth 20000 in
theorem wX10_between_b51 {ρ : mRo} {d : Nat} {P : mPo} {V : mS → List mE} (hV : mView LC V)  {res : (Int32 × mS)} (hP : P (some (.int res.1)) (V res.2)) : ∀ (k : Nat) (y1 : Int32) (y2 : Int32) (y3 : Int32) (y5 : Int32) (s : mS), fX10_between_b51 k y1 y2 y3 y5 s = some res → mG ρ (mC ρ (d + 6)) 10 6 cX10_between (some .int) P 51 [(0, .ref qT), (1, .int y1), (2, .int y2), (3, .int y3), (5, .int y5)] [] (V s) := by
  intro k
  induction k with
  | zero => intro y1 y2 y3 y5 s hf; rw [fX10_between_b51] at hf; cases hf
  | succ k ih =>
    intro y1 y2 y3 y5 s hf
    rw [fX10_between_b51] at hf
    refine e_iload 4 dX10_between_51 rfl ?_
    refine e_bipush (w := 60) dX10_between_53 (by decide) ?_
    refine e_icmp_gt 105 dX10_between_55 (by decide) hf (fun hf => ?_) (fun hf => ?_)
    · refine e_bipush (w := (-2)) dX10_between_105 (by decide) ?_
      cases hf
      exact e_iret dX10_between_107 trivial hP
    · refine e_aload_n 0 dX10_between_58 rfl rfl ?_
      refine e_aload_n 0 dX10_between_59 rfl rfl ?_
      refine e_getr hV dX10_between_60 rfl lc_T rfl ?_
      refine e_iload_n 1 dX10_between_63 rfl rfl ?_
      refine e_aald hV dX10_between_64 lc_T_shelves rfl lc_T_shelves_at hf (fun j7 hj7 hf => ?_)
      refine e_aload_n 0 dX10_between_65 rfl rfl ?_
      refine e_getr hV dX10_between_66 rfl lc_T rfl ?_
      refine e_iload_n 3 dX10_between_69 rfl rfl ?_
      refine e_iload_n 2 dX10_between_70 rfl rfl ?_
      refine e_bipush (w := 10) dX10_between_71 (by decide) ?_
      refine e_irem dX10_between_73 (by decide) ?_
      obtain ⟨r8, s9, hg, hf⟩ := bP_some hf
      refine e_callV (as := [.ref (qS j7), .ref (qM 1), .int y3, .int (y2 - y2 / 10 * 10)]) (v := (some (.int r8))) (s' := s9) hV dX10_between_74 (Or.inl rfl) rfl rfl rfl rfl (Nat.le_of_ble_eq_true rfl) lc_T rfl rfl (fun Q hQ => tX10_fits (d := d) hV hj7 (by decide) hg hQ) ?_
      refine e_if_eq 83 dX10_between_77 (by decide) hf (fun hf => ?_) (fun hf => ?_)
      · refine e_aload_n 0 dX10_between_83 rfl rfl ?_
        refine e_aload_n 0 dX10_between_84 rfl rfl ?_
        refine e_getr hV dX10_between_85 rfl lc_T rfl ?_
        refine e_iload_n 2 dX10_between_88 rfl rfl ?_
        refine e_bipush (w := 10) dX10_between_89 (by decide) ?_
        refine e_idiv dX10_between_91 (by decide) ?_
        refine e_iload_n 2 dX10_between_92 rfl rfl ?_
        refine e_bipush (w := 10) dX10_between_93 (by decide) ?_
        refine e_irem dX10_between_95 (by decide) ?_
        obtain ⟨s10, hg, hf⟩ := bO_some hf
        refine e_callV (as := [.ref (qM 1), .int (y2 / 10), .int (y2 - y2 / 10 * 10)]) (v := none) (s' := s10) hV dX10_between_96 (Or.inl rfl) rfl rfl rfl rfl (Nat.le_of_ble_eq_true rfl) lc_T rfl rfl (fun Q hQ => tX10_pass (d := (d + 4)) hV (by decide) hg hQ) ?_
        refine e_iinc 4 dX10_between_99 rfl rfl hf (fun v11 hf => ?_)
        refine e_goto 51 dX10_between_102 (by decide) ?_
        refine e_pick [1, 2, 3, 4, 0] rfl ?_
        exact ih y1 y2 y3 v11 s10 hf
      · refine e_iload 4 dX10_between_80 rfl ?_
        cases hf
        exact e_iret dX10_between_82 trivial hP
set_option maxRecDepth 20000 in
theorem tX10_between {ρ : mRo} {d : Nat} {P : mPo} {V : mS → List mE} (hV : mView LC V)  {x1 : Int32} {x2 : Int32} {x3 : Int32} {s : mS} {res : (Int32 × mS)} (hf : fX10_between x1 x2 x3 s = some res) (hP : P (some (.int res.1)) (V res.2)) : mC ρ (d + 7) 83 [.ref qT, .int x1, .int x2, .int x3] (V s) P := by
  refine ⟨_, rfl, Nat.le_of_ble_eq_true rfl, by decide, ?_⟩
  show mG ρ (mC ρ (d + 6)) 10 6 cX10_between (some .int) P 0 [(0, .ref qT), (1, .int x1), (2, .int x2), (3, .int x3)] [] (V s)
  unfold fX10_between at hf
  refine e_aload_n 0 dX10_between_0 rfl rfl ?_
  refine e_iload_n 2 dX10_between_1 rfl rfl ?_
  obtain ⟨r1, hg, hf⟩ := bO_some hf
  refine e_callV (as := [.int x2]) (v := (some (.int r1))) (s' := s) hV dX10_between_2 (Or.inl rfl) rfl rfl rfl rfl (Nat.le_of_ble_eq_true rfl) lc_T rfl rfl (fun Q hQ => tX10_isPair (d := (d + 4)) hV  hg hQ) ?_
  refine e_if_eq 19 dX10_between_5 (by decide) hf (fun hf => ?_) (fun hf => ?_)
  · refine e_iconst (w := (-1)) dX10_between_19 (by decide) ?_
    cases hf
    exact e_iret dX10_between_20 trivial hP
  · refine e_aload_n 0 dX10_between_8 rfl rfl ?_
    refine e_getr hV dX10_between_9 rfl lc_T rfl ?_
    refine e_iload_n 3 dX10_between_12 rfl rfl ?_
    obtain ⟨r2, hg, hf⟩ := bO_some hf
    refine e_callV (as := [.int x3]) (v := (some (.int r2))) (s' := s) hV dX10_between_13 (Or.inl rfl) rfl rfl rfl rfl (Nat.le_of_ble_eq_true rfl) (lc_W (by decide)) rfl rfl (fun Q hQ => tX9_has (d := (d + 5)) hV (by decide) hg hQ) ?_
    refine e_if_ne 21 dX10_between_16 (by decide) hf (fun hf => ?_) (fun hf => ?_)
    · refine e_aload_n 0 dX10_between_21 rfl rfl ?_
      refine e_iload_n 1 dX10_between_22 rfl rfl ?_
      refine e_iconst (w := 0) dX10_between_23 (by decide) ?_
      obtain ⟨r3, hg, hf⟩ := bO_some hf
      refine e_callV (as := [.int x1, .int 0]) (v := (some (.int r3))) (s' := s) hV dX10_between_24 (Or.inl rfl) rfl rfl rfl rfl (Nat.le_of_ble_eq_true rfl) lc_T rfl rfl (fun Q hQ => tX10_rowRefusal (d := (d + 4)) hV  hg hQ) ?_
      refine e_istore dX10_between_27 (by decide) hf (fun v4 hf => ?_)
      refine e_iload 0 dX10_between_29 rfl ?_
      refine e_if_eq 37 dX10_between_31 (by decide) hf (fun hf => ?_) (fun hf => ?_)
      · refine e_aload_n 1 dX10_between_37 rfl rfl ?_
        refine e_getr hV dX10_between_38 rfl lc_T rfl ?_
        refine e_aload_n 1 dX10_between_41 rfl rfl ?_
        refine e_getr hV dX10_between_42 rfl lc_T rfl ?_
        obtain ⟨s5, hg, hf⟩ := bO_some hf
        refine e_callV (as := [.ref (qM 0)]) (v := none) (s' := s5) hV dX10_between_45 (Or.inl rfl) rfl rfl rfl rfl (Nat.le_of_ble_eq_true rfl) (lc_M (by decide)) rfl rfl (fun Q hQ => tX6_copy (d := (d + 4)) hV (by decide) (by decide) hg hQ) ?_
        refine e_iconst (w := 0) dX10_between_48 (by decide) ?_
        refine e_istore dX10_between_49 (by decide) hf (fun v6 hf => ?_)
        refine e_pick [2, 3, 4, 5, 0] rfl ?_
        exact wX10_between_b51 hV hP mFu x1 x2 x3 v6 s5 hf
      · refine e_iload 0 dX10_between_34 rfl ?_
        cases hf
        exact e_iret dX10_between_36 trivial hP
    · refine e_iconst (w := (-1)) dX10_between_19 (by decide) ?_
      cases hf
      exact e_iret dX10_between_20 trivial hP

theorem dX10_firstWrong_0 : decode cX10_firstWrong 0 = .ok (.aload_n 0, 1) := by decide +kernel
theorem dX10_firstWrong_1 : decode cX10_firstWrong 1 = .ok (.getfield 16, 3) := by decide +kernel
theorem dX10_firstWrong_4 : decode cX10_firstWrong 4 = .ok (.aload_n 0, 1) := by decide +kernel
theorem dX10_firstWrong_5 : decode cX10_firstWrong 5 = .ok (.getfield 10, 3) := by decide +kernel
theorem dX10_firstWrong_8 : decode cX10_firstWrong 8 = .ok (.invokevirtual 197, 3) := by decide +kernel
theorem dX10_firstWrong_11 : decode cX10_firstWrong 11 = .ok (.aload_n 0, 1) := by decide +kernel
theorem dX10_firstWrong_12 : decode cX10_firstWrong 12 = .ok (.getfield 16, 3) := by decide +kernel
theorem dX10_firstWrong_15 : decode cX10_firstWrong 15 = .ok (.iload_n 2, 1) := by decide +kernel
theorem dX10_firstWrong_16 : decode cX10_firstWrong 16 = .ok (.putfield 258, 3) := by decide +kernel
theorem dX10_firstWrong_19 : decode cX10_firstWrong 19 = .ok (.iconst 0, 1) := by decide +kernel
theorem dX10_firstWrong_20 : decode cX10_firstWrong 20 = .ok (.istore 5, 2) := by decide +kernel
theorem dX10_firstWrong_22 : decode cX10_firstWrong 22 = .ok (.iconst 3, 1) := by decide +kernel
theorem dX10_firstWrong_23 : decode cX10_firstWrong 23 = .ok (.iload 5, 2) := by decide +kernel
theorem dX10_firstWrong_25 : decode cX10_firstWrong 25 = .ok (.imul, 1) := by decide +kernel
theorem dX10_firstWrong_26 : decode cX10_firstWrong 26 = .ok (.aload_n 1, 1) := by decide +kernel
theorem dX10_firstWrong_27 : decode cX10_firstWrong 27 = .ok (.getfield 109, 3) := by decide +kernel
theorem dX10_firstWrong_30 : decode cX10_firstWrong 30 = .ok (.if_icmp .ge 128, 3) := by decide +kernel
theorem dX10_firstWrong_33 : decode cX10_firstWrong 33 = .ok (.aload_n 1, 1) := by decide +kernel
theorem dX10_firstWrong_34 : decode cX10_firstWrong 34 = .ok (.iconst 3, 1) := by decide +kernel
theorem dX10_firstWrong_35 : decode cX10_firstWrong 35 = .ok (.iload 5, 2) := by decide +kernel
theorem dX10_firstWrong_37 : decode cX10_firstWrong 37 = .ok (.imul, 1) := by decide +kernel
theorem dX10_firstWrong_38 : decode cX10_firstWrong 38 = .ok (.iconst 3, 1) := by decide +kernel
theorem dX10_firstWrong_39 : decode cX10_firstWrong 39 = .ok (.invokevirtual 383, 3) := by decide +kernel
theorem dX10_firstWrong_42 : decode cX10_firstWrong 42 = .ok (.ifCond .ne 6, 3) := by decide +kernel
theorem dX10_firstWrong_45 : decode cX10_firstWrong 45 = .ok (.iload 5, 2) := by decide +kernel
theorem dX10_firstWrong_47 : decode cX10_firstWrong 47 = .ok (.ireturn, 1) := by decide +kernel
theorem dX10_firstWrong_48 : decode cX10_firstWrong 48 = .ok (.iload 5, 2) := by decide +kernel
theorem dX10_firstWrong_50 : decode cX10_firstWrong 50 = .ok (.iload_n 3, 1) := by decide +kernel
theorem dX10_firstWrong_51 : decode cX10_firstWrong 51 = .ok (.if_icmp .ne 8, 3) := by decide +kernel
theorem dX10_firstWrong_54 : decode cX10_firstWrong 54 = .ok (.iload 4, 2) := by decide +kernel
theorem dX10_firstWrong_56 : decode cX10_firstWrong 56 = .ok (.goto 13, 3) := by decide +kernel
theorem dX10_firstWrong_59 : decode cX10_firstWrong 59 = .ok (.aload_n 1, 1) := by decide +kernel
theorem dX10_firstWrong_60 : decode cX10_firstWrong 60 = .ok (.getfield 117, 3) := by decide +kernel
theorem dX10_firstWrong_63 : decode cX10_firstWrong 63 = .ok (.iconst 3, 1) := by decide +kernel
theorem dX10_firstWrong_64 : decode cX10_firstWrong 64 = .ok (.iload 5, 2) := by decide +kernel
theorem dX10_firstWrong_66 : decode cX10_firstWrong 66 = .ok (.imul, 1) := by decide +kernel
theorem dX10_firstWrong_67 : decode cX10_firstWrong 67 = .ok (.laload, 1) := by decide +kernel
theorem dX10_firstWrong_68 : decode cX10_firstWrong 68 = .ok (.l2i, 1) := by decide +kernel
theorem dX10_firstWrong_69 : decode cX10_firstWrong 69 = .ok (.istore 6, 2) := by decide +kernel
theorem dX10_firstWrong_71 : decode cX10_firstWrong 71 = .ok (.aload_n 1, 1) := by decide +kernel
theorem dX10_firstWrong_72 : decode cX10_firstWrong 72 = .ok (.getfield 117, 3) := by decide +kernel
theorem dX10_firstWrong_75 : decode cX10_firstWrong 75 = .ok (.iconst 3, 1) := by decide +kernel
theorem dX10_firstWrong_76 : decode cX10_firstWrong 76 = .ok (.iload 5, 2) := by decide +kernel
theorem dX10_firstWrong_78 : decode cX10_firstWrong 78 = .ok (.imul, 1) := by decide +kernel
theorem dX10_firstWrong_79 : decode cX10_firstWrong 79 = .ok (.iconst 1, 1) := by decide +kernel
theorem dX10_firstWrong_80 : decode cX10_firstWrong 80 = .ok (.iadd, 1) := by decide +kernel
theorem dX10_firstWrong_81 : decode cX10_firstWrong 81 = .ok (.laload, 1) := by decide +kernel
theorem dX10_firstWrong_82 : decode cX10_firstWrong 82 = .ok (.l2i, 1) := by decide +kernel
theorem dX10_firstWrong_83 : decode cX10_firstWrong 83 = .ok (.istore 7, 2) := by decide +kernel
theorem dX10_firstWrong_85 : decode cX10_firstWrong 85 = .ok (.aload_n 0, 1) := by decide +kernel
theorem dX10_firstWrong_86 : decode cX10_firstWrong 86 = .ok (.getfield 22, 3) := by decide +kernel
theorem dX10_firstWrong_89 : decode cX10_firstWrong 89 = .ok (.iload 6, 2) := by decide +kernel
theorem dX10_firstWrong_91 : decode cX10_firstWrong 91 = .ok (.invokevirtual 208, 3) := by decide +kernel
theorem dX10_firstWrong_94 : decode cX10_firstWrong 94 = .ok (.ifCond .eq 43, 3) := by decide +kernel
theorem dX10_firstWrong_97 : decode cX10_firstWrong 97 = .ok (.aload_n 0, 1) := by decide +kernel
theorem dX10_firstWrong_98 : decode cX10_firstWrong 98 = .ok (.getfield 10, 3) := by decide +kernel
theorem dX10_firstWrong_101 : decode cX10_firstWrong 101 = .ok (.iload 7, 2) := by decide +kernel
theorem dX10_firstWrong_103 : decode cX10_firstWrong 103 = .ok (.invokevirtual 174, 3) := by decide +kernel
theorem dX10_firstWrong_106 : decode cX10_firstWrong 106 = .ok (.ifCond .eq 31, 3) := by decide +kernel
theorem dX10_firstWrong_109 : decode cX10_firstWrong 109 = .ok (.aload_n 0, 1) := by decide +kernel
theorem dX10_firstWrong_110 : decode cX10_firstWrong 110 = .ok (.aload_n 0, 1) := by decide +kernel
theorem dX10_firstWrong_111 : decode cX10_firstWrong 111 = .ok (.getfield 16, 3) := by decide +kernel
theorem dX10_firstWrong_114 : decode cX10_firstWrong 114 = .ok (.iload 6, 2) := by decide +kernel
theorem dX10_firstWrong_116 : decode cX10_firstWrong 116 = .ok (.iload 7, 2) := by decide +kernel
theorem dX10_firstWrong_118 : decode cX10_firstWrong 118 = .ok (.invokevirtual 193, 3) := by decide +kernel
theorem dX10_firstWrong_121 : decode cX10_firstWrong 121 = .ok (.i2l, 1) := by decide +kernel
theorem dX10_firstWrong_122 : decode cX10_firstWrong 122 = .ok (.aload_n 1, 1) := by decide +kernel
theorem dX10_firstWrong_123 : decode cX10_firstWrong 123 = .ok (.getfield 117, 3) := by decide +kernel
theorem dX10_firstWrong_126 : decode cX10_firstWrong 126 = .ok (.iconst 3, 1) := by decide +kernel
theorem dX10_firstWrong_127 : decode cX10_firstWrong 127 = .ok (.iload 5, 2) := by decide +kernel
theorem dX10_firstWrong_129 : decode cX10_firstWrong 129 = .ok (.imul, 1) := by decide +kernel
theorem dX10_firstWrong_130 : decode cX10_firstWrong 130 = .ok (.iconst 2, 1) := by decide +kernel
theorem dX10_firstWrong_131 : decode cX10_firstWrong 131 = .ok (.iadd, 1) := by decide +kernel
theorem dX10_firstWrong_132 : decode cX10_firstWrong 132 = .ok (.laload, 1) := by decide +kernel
theorem dX10_firstWrong_133 : decode cX10_firstWrong 133 = .ok (.lcmp, 1) := by decide +kernel
theorem dX10_firstWrong_134 : decode cX10_firstWrong 134 = .ok (.ifCond .eq 6, 3) := by decide +kernel
theorem dX10_firstWrong_137 : decode cX10_firstWrong 137 = .ok (.iload 5, 2) := by decide +kernel
theorem dX10_firstWrong_139 : decode cX10_firstWrong 139 = .ok (.ireturn, 1) := by decide +kernel
theorem dX10_firstWrong_140 : decode cX10_firstWrong 140 = .ok (.aload_n 0, 1) := by decide +kernel
theorem dX10_firstWrong_141 : decode cX10_firstWrong 141 = .ok (.aload_n 0, 1) := by decide +kernel
theorem dX10_firstWrong_142 : decode cX10_firstWrong 142 = .ok (.getfield 16, 3) := by decide +kernel
theorem dX10_firstWrong_145 : decode cX10_firstWrong 145 = .ok (.iload 6, 2) := by decide +kernel
theorem dX10_firstWrong_147 : decode cX10_firstWrong 147 = .ok (.iload 7, 2) := by decide +kernel
theorem dX10_firstWrong_149 : decode cX10_firstWrong 149 = .ok (.invokevirtual 254, 3) := by decide +kernel
theorem dX10_firstWrong_152 : decode cX10_firstWrong 152 = .ok (.iinc 5 1, 3) := by decide +kernel
theorem dX10_firstWrong_155 : decode cX10_firstWrong 155 = .ok (.goto (-133), 3) := by decide +kernel
theorem dX10_firstWrong_158 : decode cX10_firstWrong 158 = .ok (.bipush (-2), 2) := by decide +kernel
theorem dX10_firstWrong_160 : decode cX10_firstWrong 160 = .ok (.ireturn, 1) := by decide +kernel
def fX10_firstWrong_b69 (K22 : Nat → Int32 → Int32 → Int32 → mS → Option (Int32 × mS)) (k1 : Nat) (y3 : Int32) (y4 : Int32) (y5 : Int32) (z0 : Int32) (s : mS) : Option (Int32 × mS) :=
  bnd z0 fun v6 =>
  ldL s (lS_cells k1) 60 ((3 * y5) + 1) fun v7 =>
  bnd (Int64.toInt32 v7) fun v8 =>
  bO (fX9_has 0 v6 s) fun r9 =>
  if r9 = 0 then
    some (y5, s)
  else
    bO (fX6_has 0 v8 s) fun r10 =>
    if r10 = 0 then
      some (y5, s)
    else
      bP (fX10_shownCode 1 v6 v8 s) fun r11 s12 =>
      ldL s12 (lS_cells k1) 60 ((3 * y5) + 2) fun v13 =>
      if (lg_cmp (Int32.toInt64 r11) v13) = 0 then
        bO (fX10_pass 1 v6 v8 s12) fun s14 =>
        bnd (y5 + 1) fun v15 =>
        K22 k1 y3 y4 v15 s14
      else
        some (y5, s12)

def fX10_firstWrong_b22 : Nat → Nat → Int32 → Int32 → Int32 → mS → Option (Int32 × mS)
  | 0, _, _, _, _, _ => none
  | k + 1, k1, y3, y4, y5, s =>
    if (gI s (iS_size k1)) ≤ (3 * y5) then
      some ((-2), s)
    else
      bO (fX7_hasSpan k1 (3 * y5) 3 s) fun r4 =>
      if r4 = 0 then
        some (y5, s)
      else
        if y5 = y3 then
          fX10_firstWrong_b69 (fun u0 u1 u2 u3 u4 => fX10_firstWrong_b22 k u0 u1 u2 u3 u4) k1 y3 y4 y5 y4 s
        else
          ldL s (lS_cells k1) 60 (3 * y5) fun v5 =>
          fX10_firstWrong_b69 (fun u0 u1 u2 u3 u4 => fX10_firstWrong_b22 k u0 u1 u2 u3 u4) k1 y3 y4 y5 (Int64.toInt32 v5) s

def fX10_firstWrong (k1 : Nat) (x2 : Int32) (x3 : Int32) (x4 : Int32) (s : mS) : Option (Int32 × mS) :=
  bO (fX6_copy 1 0 s) fun s1 =>
  bnd (pI s1 (iM_ribbon 1) x2) fun s2 =>
  bnd 0 fun v3 =>
  fX10_firstWrong_b22 mFu k1 x3 x4 v3 s2

set_option maxRecDepth 20000 in
theorem wX10_firstWrong_b69 {ρ : mRo} {d : Nat} {P : mPo} {V : mS → List mE} (hV : mView LC V)  {res : (Int32 × mS)} {K22 : Nat → Int32 → Int32 → Int32 → mS → Option (Int32 × mS)} (hK22 : ∀ (k1 : Nat) (hk1 : k1 < 6) (y3 : Int32) (y4 : Int32) (y5 : Int32) (s : mS), K22 k1 y3 y4 y5 s = some res → mG ρ (mC ρ (d + 6)) 10 8 cX10_firstWrong (some .int) P 22 [(0, .ref qT), (1, .ref (qS k1)), (3, .int y3), (4, .int y4), (5, .int y5)] [] (V s)) (hP : P (some (.int res.1)) (V res.2)) (k1 : Nat) (hk1 : k1 < 6) (y3 : Int32) (y4 : Int32) (y5 : Int32) (z0 : Int32) (s : mS) (hf : fX10_firstWrong_b69 K22 k1 y3 y4 y5 z0 s = some res) : mG ρ (mC ρ (d + 6)) 10 8 cX10_firstWrong (some .int) P 69 [(0, .ref qT), (1, .ref (qS k1)), (3, .int y3), (4, .int y4), (5, .int y5)] [.int z0] (V s) := by
  unfold fX10_firstWrong_b69 at hf
  refine e_istore dX10_firstWrong_69 (by decide) hf (fun v6 hf => ?_)
  refine e_aload_n 2 dX10_firstWrong_71 rfl rfl ?_
  refine e_getr hV dX10_firstWrong_72 rfl (lc_S hk1) rfl ?_
  refine e_iconst (w := 3) dX10_firstWrong_75 (by decide) ?_
  refine e_iload 5 dX10_firstWrong_76 rfl ?_
  refine e_imul dX10_firstWrong_78 ?_
  refine e_iconst (w := 1) dX10_firstWrong_79 (by decide) ?_
  refine e_iadd dX10_firstWrong_80 ?_
  refine e_lald hV dX10_firstWrong_81 (lc_S_cells hk1) hf (fun v7 hf => ?_)
  refine e_l2i dX10_firstWrong_82 ?_
  refine e_istore dX10_firstWrong_83 (by decide) hf (fun v8 hf => ?_)
  refine e_aload_n 2 dX10_firstWrong_85 rfl rfl ?_
  refine e_getr hV dX10_firstWrong_86 rfl lc_T rfl ?_
  refine e_iload 1 dX10_firstWrong_89 rfl ?_
  obtain ⟨r9, hg, hf⟩ := bO_some hf
  refine e_callV (as := [.int v6]) (v := (some (.int r9))) (s' := s) hV dX10_firstWrong_91 (Or.inl rfl) rfl rfl rfl rfl (Nat.le_of_ble_eq_true rfl) (lc_W (by decide)) rfl rfl (fun Q hQ => tX9_has (d := (d + 5)) hV (by decide) hg hQ) ?_
  refine e_if_eq 137 dX10_firstWrong_94 (by decide) hf (fun hf => ?_) (fun hf => ?_)
  · refine e_iload 6 dX10_firstWrong_137 rfl ?_
    cases hf
    exact e_iret dX10_firstWrong_139 trivial hP
  · refine e_aload_n 2 dX10_firstWrong_97 rfl rfl ?_
    refine e_getr hV dX10_firstWrong_98 rfl lc_T rfl ?_
    refine e_iload 0 dX10_firstWrong_101 rfl ?_
    obtain ⟨r10, hg, hf⟩ := bO_some hf
    refine e_callV (as := [.int v8]) (v := (some (.int r10))) (s' := s) hV dX10_firstWrong_103 (Or.inl rfl) rfl rfl rfl rfl (Nat.le_of_ble_eq_true rfl) (lc_M (by decide)) rfl rfl (fun Q hQ => tX6_has (d := (d + 5)) hV (by decide) hg hQ) ?_
    refine e_if_eq 137 dX10_firstWrong_106 (by decide) hf (fun hf => ?_) (fun hf => ?_)
    · refine e_iload 6 dX10_firstWrong_137 rfl ?_
      cases hf
      exact e_iret dX10_firstWrong_139 trivial hP
    · refine e_aload_n 2 dX10_firstWrong_109 rfl rfl ?_
      refine e_aload_n 2 dX10_firstWrong_110 rfl rfl ?_
      refine e_getr hV dX10_firstWrong_111 rfl lc_T rfl ?_
      refine e_iload 1 dX10_firstWrong_114 rfl ?_
      refine e_iload 0 dX10_firstWrong_116 rfl ?_
      obtain ⟨r11, s12, hg, hf⟩ := bP_some hf
      refine e_callV (as := [.ref (qM 1), .int v6, .int v8]) (v := (some (.int r11))) (s' := s12) hV dX10_firstWrong_118 (Or.inl rfl) rfl rfl rfl rfl (Nat.le_of_ble_eq_true rfl) lc_T rfl rfl (fun Q hQ => tX10_shownCode (d := d) hV (by decide) hg hQ) ?_
      refine e_i2l dX10_firstWrong_121 ?_
      refine e_aload_n 3 dX10_firstWrong_122 rfl rfl ?_
      refine e_getr hV dX10_firstWrong_123 rfl (lc_S hk1) rfl ?_
      refine e_iconst (w := 3) dX10_firstWrong_126 (by decide) ?_
      refine e_iload 6 dX10_firstWrong_127 rfl ?_
      refine e_imul dX10_firstWrong_129 ?_
      refine e_iconst (w := 2) dX10_firstWrong_130 (by decide) ?_
      refine e_iadd dX10_firstWrong_131 ?_
      refine e_lald hV dX10_firstWrong_132 (lc_S_cells hk1) hf (fun v13 hf => ?_)
      refine e_lcmp dX10_firstWrong_133 ?_
      refine e_if_eq 140 dX10_firstWrong_134 (by decide) hf (fun hf => ?_) (fun hf => ?_)
      · refine e_aload_n 2 dX10_firstWrong_140 rfl rfl ?_
        refine e_aload_n 2 dX10_firstWrong_141 rfl rfl ?_
        refine e_getr hV dX10_firstWrong_142 rfl lc_T rfl ?_
        refine e_iload 1 dX10_firstWrong_145 rfl ?_
        refine e_iload 0 dX10_firstWrong_147 rfl ?_
        obtain ⟨s14, hg, hf⟩ := bO_some hf
        refine e_callV (as := [.ref (qM 1), .int v6, .int v8]) (v := none) (s' := s14) hV dX10_firstWrong_149 (Or.inl rfl) rfl rfl rfl rfl (Nat.le_of_ble_eq_true rfl) lc_T rfl rfl (fun Q hQ => tX10_pass (d := (d + 4)) hV (by decide) hg hQ) ?_
        refine e_iinc 6 dX10_firstWrong_152 rfl rfl hf (fun v15 hf => ?_)
        refine e_goto 22 dX10_firstWrong_155 (by decide) ?_
        refine e_pick [3, 4, 5, 6, 0] rfl ?_
        exact hK22 k1 hk1 y3 y4 v15 s14 hf
      · refine e_iload 6 dX10_firstWrong_137 rfl ?_
        cases hf
        exact e_iret dX10_firstWrong_139 trivial hP
set_option maxRecDepth 20000 in
theorem wX10_firstWrong_b22 {ρ : mRo} {d : Nat} {P : mPo} {V : mS → List mE} (hV : mView LC V)  {res : (Int32 × mS)} (hP : P (some (.int res.1)) (V res.2)) : ∀ (k : Nat) (k1 : Nat) (hk1 : k1 < 6) (y3 : Int32) (y4 : Int32) (y5 : Int32) (s : mS), fX10_firstWrong_b22 k k1 y3 y4 y5 s = some res → mG ρ (mC ρ (d + 6)) 10 8 cX10_firstWrong (some .int) P 22 [(0, .ref qT), (1, .ref (qS k1)), (3, .int y3), (4, .int y4), (5, .int y5)] [] (V s) := by
  intro k
  induction k with
  | zero => intro k1 hk1 y3 y4 y5 s hf; rw [fX10_firstWrong_b22] at hf; cases hf
  | succ k ih =>
    intro k1 hk1 y3 y4 y5 s hf
    rw [fX10_firstWrong_b22] at hf
    refine e_iconst (w := 3) dX10_firstWrong_22 (by decide) ?_
    refine e_iload 4 dX10_firstWrong_23 rfl ?_
    refine e_imul dX10_firstWrong_25 ?_
    refine e_aload_n 1 dX10_firstWrong_26 rfl rfl ?_
    refine e_geti hV dX10_firstWrong_27 rfl (lc_S hk1) rfl ?_
    refine e_icmp_ge 158 dX10_firstWrong_30 (by decide) hf (fun hf => ?_) (fun hf => ?_)
    · refine e_bipush (w := (-2)) dX10_firstWrong_158 (by decide) ?_
      cases hf
      exact e_iret dX10_firstWrong_160 trivial hP
    · refine e_aload_n 1 dX10_firstWrong_33 rfl rfl ?_
      refine e_iconst (w := 3) dX10_firstWrong_34 (by decide) ?_
      refine e_iload 4 dX10_firstWrong_35 rfl ?_
      refine e_imul dX10_firstWrong_37 ?_
      refine e_iconst (w := 3) dX10_firstWrong_38 (by decide) ?_
      obtain ⟨r4, hg, hf⟩ := bO_some hf
      refine e_callV (as := [.int (3 * y5), .int 3]) (v := (some (.int r4))) (s' := s) hV dX10_firstWrong_39 (Or.inl rfl) rfl rfl rfl rfl (Nat.le_of_ble_eq_true rfl) (lc_S hk1) rfl rfl (fun Q hQ => tX7_hasSpan (d := (d + 5)) hV hk1 hg hQ) ?_
      refine e_if_ne 48 dX10_firstWrong_42 (by decide) hf (fun hf => ?_) (fun hf => ?_)
      · refine e_iload 4 dX10_firstWrong_48 rfl ?_
        refine e_iload_n 2 dX10_firstWrong_50 rfl rfl ?_
        refine e_icmp_ne 59 dX10_firstWrong_51 (by decide) hf (fun hf => ?_) (fun hf => ?_)
        · refine e_aload_n 1 dX10_firstWrong_59 rfl rfl ?_
          refine e_getr hV dX10_firstWrong_60 rfl (lc_S hk1) rfl ?_
          refine e_iconst (w := 3) dX10_firstWrong_63 (by decide) ?_
          refine e_iload 4 dX10_firstWrong_64 rfl ?_
          refine e_imul dX10_firstWrong_66 ?_
          refine e_lald hV dX10_firstWrong_67 (lc_S_cells hk1) hf (fun v5 hf => ?_)
          refine e_l2i dX10_firstWrong_68 ?_
          refine e_pick [0, 1, 2, 3, 4] rfl ?_
          exact wX10_firstWrong_b69 hV ih hP k1 hk1 y3 y4 y5 (Int64.toInt32 v5) s hf
        · refine e_iload 3 dX10_firstWrong_54 rfl ?_
          refine e_goto 69 dX10_firstWrong_56 (by decide) ?_
          refine e_pick [0, 1, 2, 3, 4] rfl ?_
          exact wX10_firstWrong_b69 hV ih hP k1 hk1 y3 y4 y5 y4 s hf
      · refine e_iload 4 dX10_firstWrong_45 rfl ?_
        cases hf
        exact e_iret dX10_firstWrong_47 trivial hP
set_option maxRecDepth 20000 in
theorem tX10_firstWrong {ρ : mRo} {d : Nat} {P : mPo} {V : mS → List mE} (hV : mView LC V)  {k1 : Nat} (hk1 : k1 < 6) {x2 : Int32} {x3 : Int32} {x4 : Int32} {s : mS} {res : (Int32 × mS)} (hf : fX10_firstWrong k1 x2 x3 x4 s = some res) (hP : P (some (.int res.1)) (V res.2)) : mC ρ (d + 7) 134 [.ref qT, .ref (qS k1), .int x2, .int x3, .int x4] (V s) P := by
  refine ⟨_, rfl, Nat.le_of_ble_eq_true rfl, by decide, ?_⟩
  show mG ρ (mC ρ (d + 6)) 10 8 cX10_firstWrong (some .int) P 0 [(0, .ref qT), (1, .ref (qS k1)), (2, .int x2), (3, .int x3), (4, .int x4)] [] (V s)
  unfold fX10_firstWrong at hf
  refine e_aload_n 0 dX10_firstWrong_0 rfl rfl ?_
  refine e_getr hV dX10_firstWrong_1 rfl lc_T rfl ?_
  refine e_aload_n 0 dX10_firstWrong_4 rfl rfl ?_
  refine e_getr hV dX10_firstWrong_5 rfl lc_T rfl ?_
  obtain ⟨s1, hg, hf⟩ := bO_some hf
  refine e_callV (as := [.ref (qM 0)]) (v := none) (s' := s1) hV dX10_firstWrong_8 (Or.inl rfl) rfl rfl rfl rfl (Nat.le_of_ble_eq_true rfl) (lc_M (by decide)) rfl rfl (fun Q hQ => tX6_copy (d := (d + 4)) hV (by decide) (by decide) hg hQ) ?_
  refine e_aload_n 0 dX10_firstWrong_11 rfl rfl ?_
  refine e_getr hV dX10_firstWrong_12 rfl lc_T rfl ?_
  refine e_iload_n 2 dX10_firstWrong_15 rfl rfl ?_
  refine e_puti hV dX10_firstWrong_16 rfl rfl rfl (Or.inl rfl) (lc_M (by decide)) rfl hf (fun s2 hf => ?_)
  refine e_iconst (w := 0) dX10_firstWrong_19 (by decide) ?_
  refine e_istore dX10_firstWrong_20 (by decide) hf (fun v3 hf => ?_)
  refine e_pick [1, 2, 4, 5, 0] rfl ?_
  exact wX10_firstWrong_b22 hV hP mFu k1 hk1 x3 x4 v3 s2 hf

theorem dX10_judge_0 : decode cX10_judge 0 = .ok (.aload_n 0, 1) := by decide +kernel
theorem dX10_judge_1 : decode cX10_judge 1 = .ok (.iload_n 1, 1) := by decide +kernel
theorem dX10_judge_2 : decode cX10_judge 2 = .ok (.iconst 1, 1) := by decide +kernel
theorem dX10_judge_3 : decode cX10_judge 3 = .ok (.invokevirtual 177, 3) := by decide +kernel
theorem dX10_judge_6 : decode cX10_judge 6 = .ok (.istore_n 2, 1) := by decide +kernel
theorem dX10_judge_7 : decode cX10_judge 7 = .ok (.iload_n 2, 1) := by decide +kernel
theorem dX10_judge_8 : decode cX10_judge 8 = .ok (.ifCond .eq 7, 3) := by decide +kernel
theorem dX10_judge_11 : decode cX10_judge 11 = .ok (.iload_n 2, 1) := by decide +kernel
theorem dX10_judge_12 : decode cX10_judge 12 = .ok (.goto 22, 3) := by decide +kernel
theorem dX10_judge_15 : decode cX10_judge 15 = .ok (.aload_n 0, 1) := by decide +kernel
theorem dX10_judge_16 : decode cX10_judge 16 = .ok (.aload_n 0, 1) := by decide +kernel
theorem dX10_judge_17 : decode cX10_judge 17 = .ok (.getfield 42, 3) := by decide +kernel
theorem dX10_judge_20 : decode cX10_judge 20 = .ok (.iload_n 1, 1) := by decide +kernel
theorem dX10_judge_21 : decode cX10_judge 21 = .ok (.aaload, 1) := by decide +kernel
theorem dX10_judge_22 : decode cX10_judge 22 = .ok (.aload_n 0, 1) := by decide +kernel
theorem dX10_judge_23 : decode cX10_judge 23 = .ok (.getfield 10, 3) := by decide +kernel
theorem dX10_judge_26 : decode cX10_judge 26 = .ok (.getfield 258, 3) := by decide +kernel
theorem dX10_judge_29 : decode cX10_judge 29 = .ok (.iconst (-1), 1) := by decide +kernel
theorem dX10_judge_30 : decode cX10_judge 30 = .ok (.iconst (-1), 1) := by decide +kernel
theorem dX10_judge_31 : decode cX10_judge 31 = .ok (.invokevirtual 261, 3) := by decide +kernel
theorem dX10_judge_34 : decode cX10_judge 34 = .ok (.ireturn, 1) := by decide +kernel
def fX10_judge (x1 : Int32) (s : mS) : Option (Int32 × mS) :=
  bO (fX10_rowRefusal x1 1 s) fun r1 =>
  bnd r1 fun v2 =>
  if v2 = 0 then
    ldS 6 x1 fun j3 =>
    bP (fX10_firstWrong j3 (gI s (iM_ribbon 0)) (-1) (-1) s) fun r4 s5 =>
    some (r4, s5)
  else
    some (v2, s)

set_option maxRecDepth 20000 in
theorem tX10_judge {ρ : mRo} {d : Nat} {P : mPo} {V : mS → List mE} (hV : mView LC V)  {x1 : Int32} {s : mS} {res : (Int32 × mS)} (hf : fX10_judge x1 s = some res) (hP : P (some (.int res.1)) (V res.2)) : mC ρ (d + 8) 84 [.ref qT, .int x1] (V s) P := by
  refine ⟨_, rfl, Nat.le_of_ble_eq_true rfl, by decide, ?_⟩
  show mG ρ (mC ρ (d + 7)) 10 3 cX10_judge (some .int) P 0 [(0, .ref qT), (1, .int x1)] [] (V s)
  unfold fX10_judge at hf
  refine e_aload_n 0 dX10_judge_0 rfl rfl ?_
  refine e_iload_n 1 dX10_judge_1 rfl rfl ?_
  refine e_iconst (w := 1) dX10_judge_2 (by decide) ?_
  obtain ⟨r1, hg, hf⟩ := bO_some hf
  refine e_callV (as := [.int x1, .int 1]) (v := (some (.int r1))) (s' := s) hV dX10_judge_3 (Or.inl rfl) rfl rfl rfl rfl (Nat.le_of_ble_eq_true rfl) lc_T rfl rfl (fun Q hQ => tX10_rowRefusal (d := (d + 5)) hV  hg hQ) ?_
  refine e_istore_n dX10_judge_6 rfl (by decide) hf (fun v2 hf => ?_)
  refine e_iload_n 0 dX10_judge_7 rfl rfl ?_
  refine e_if_eq 15 dX10_judge_8 (by decide) hf (fun hf => ?_) (fun hf => ?_)
  · refine e_aload_n 1 dX10_judge_15 rfl rfl ?_
    refine e_aload_n 1 dX10_judge_16 rfl rfl ?_
    refine e_getr hV dX10_judge_17 rfl lc_T rfl ?_
    refine e_iload_n 2 dX10_judge_20 rfl rfl ?_
    refine e_aald hV dX10_judge_21 lc_T_shelves rfl lc_T_shelves_at hf (fun j3 hj3 hf => ?_)
    refine e_aload_n 1 dX10_judge_22 rfl rfl ?_
    refine e_getr hV dX10_judge_23 rfl lc_T rfl ?_
    refine e_geti hV dX10_judge_26 rfl (lc_M (by decide)) rfl ?_
    refine e_iconst (w := (-1)) dX10_judge_29 (by decide) ?_
    refine e_iconst (w := (-1)) dX10_judge_30 (by decide) ?_
    obtain ⟨r4, s5, hg, hf⟩ := bP_some hf
    refine e_callV (as := [.ref (qS j3), .int (gI s (iM_ribbon 0)), .int (-1), .int (-1)]) (v := (some (.int r4))) (s' := s5) hV dX10_judge_31 (Or.inl rfl) rfl rfl rfl rfl (Nat.le_of_ble_eq_true rfl) lc_T rfl rfl (fun Q hQ => tX10_firstWrong (d := d) hV hj3 hg hQ) ?_
    cases hf
    exact e_iret dX10_judge_34 trivial hP
  · refine e_iload_n 0 dX10_judge_11 rfl rfl ?_
    refine e_goto 34 dX10_judge_12 (by decide) ?_
    cases hf
    exact e_iret dX10_judge_34 trivial hP

theorem dX10_falseOne_0 : decode cX10_falseOne 0 = .ok (.iload_n 2, 1) := by decide +kernel
theorem dX10_falseOne_1 : decode cX10_falseOne 1 = .ok (.ifCond .ge 5, 3) := by decide +kernel
theorem dX10_falseOne_4 : decode cX10_falseOne 4 = .ok (.iconst (-1), 1) := by decide +kernel
theorem dX10_falseOne_5 : decode cX10_falseOne 5 = .ok (.ireturn, 1) := by decide +kernel
theorem dX10_falseOne_6 : decode cX10_falseOne 6 = .ok (.aload_n 0, 1) := by decide +kernel
theorem dX10_falseOne_7 : decode cX10_falseOne 7 = .ok (.iload_n 1, 1) := by decide +kernel
theorem dX10_falseOne_8 : decode cX10_falseOne 8 = .ok (.iconst 1, 1) := by decide +kernel
theorem dX10_falseOne_9 : decode cX10_falseOne 9 = .ok (.invokevirtual 177, 3) := by decide +kernel
theorem dX10_falseOne_12 : decode cX10_falseOne 12 = .ok (.istore_n 3, 1) := by decide +kernel
theorem dX10_falseOne_13 : decode cX10_falseOne 13 = .ok (.iload_n 3, 1) := by decide +kernel
theorem dX10_falseOne_14 : decode cX10_falseOne 14 = .ok (.ifCond .eq 5, 3) := by decide +kernel
theorem dX10_falseOne_17 : decode cX10_falseOne 17 = .ok (.iload_n 3, 1) := by decide +kernel
theorem dX10_falseOne_18 : decode cX10_falseOne 18 = .ok (.ireturn, 1) := by decide +kernel
theorem dX10_falseOne_19 : decode cX10_falseOne 19 = .ok (.aload_n 0, 1) := by decide +kernel
theorem dX10_falseOne_20 : decode cX10_falseOne 20 = .ok (.getfield 42, 3) := by decide +kernel
theorem dX10_falseOne_23 : decode cX10_falseOne 23 = .ok (.iload_n 1, 1) := by decide +kernel
theorem dX10_falseOne_24 : decode cX10_falseOne 24 = .ok (.aaload, 1) := by decide +kernel
theorem dX10_falseOne_25 : decode cX10_falseOne 25 = .ok (.astore 4, 2) := by decide +kernel
theorem dX10_falseOne_27 : decode cX10_falseOne 27 = .ok (.iload_n 2, 1) := by decide +kernel
theorem dX10_falseOne_28 : decode cX10_falseOne 28 = .ok (.aload 4, 2) := by decide +kernel
theorem dX10_falseOne_30 : decode cX10_falseOne 30 = .ok (.getfield 109, 3) := by decide +kernel
theorem dX10_falseOne_33 : decode cX10_falseOne 33 = .ok (.iconst 3, 1) := by decide +kernel
theorem dX10_falseOne_34 : decode cX10_falseOne 34 = .ok (.idiv, 1) := by decide +kernel
theorem dX10_falseOne_35 : decode cX10_falseOne 35 = .ok (.if_icmp .lt 6, 3) := by decide +kernel
theorem dX10_falseOne_38 : decode cX10_falseOne 38 = .ok (.bipush (-2), 2) := by decide +kernel
theorem dX10_falseOne_40 : decode cX10_falseOne 40 = .ok (.ireturn, 1) := by decide +kernel
theorem dX10_falseOne_41 : decode cX10_falseOne 41 = .ok (.iconst 0, 1) := by decide +kernel
theorem dX10_falseOne_42 : decode cX10_falseOne 42 = .ok (.istore 5, 2) := by decide +kernel
theorem dX10_falseOne_44 : decode cX10_falseOne 44 = .ok (.iconst 0, 1) := by decide +kernel
theorem dX10_falseOne_45 : decode cX10_falseOne 45 = .ok (.istore 6, 2) := by decide +kernel
theorem dX10_falseOne_47 : decode cX10_falseOne 47 = .ok (.iload 6, 2) := by decide +kernel
theorem dX10_falseOne_49 : decode cX10_falseOne 49 = .ok (.aload_n 0, 1) := by decide +kernel
theorem dX10_falseOne_50 : decode cX10_falseOne 50 = .ok (.getfield 22, 3) := by decide +kernel
theorem dX10_falseOne_53 : decode cX10_falseOne 53 = .ok (.getfield 215, 3) := by decide +kernel
theorem dX10_falseOne_56 : decode cX10_falseOne 56 = .ok (.if_icmp .ge 55, 3) := by decide +kernel
theorem dX10_falseOne_59 : decode cX10_falseOne 59 = .ok (.iload 6, 2) := by decide +kernel
theorem dX10_falseOne_61 : decode cX10_falseOne 61 = .ok (.i2l, 1) := by decide +kernel
theorem dX10_falseOne_62 : decode cX10_falseOne 62 = .ok (.aload 4, 2) := by decide +kernel
theorem dX10_falseOne_64 : decode cX10_falseOne 64 = .ok (.getfield 117, 3) := by decide +kernel
theorem dX10_falseOne_67 : decode cX10_falseOne 67 = .ok (.iconst 3, 1) := by decide +kernel
theorem dX10_falseOne_68 : decode cX10_falseOne 68 = .ok (.iload_n 2, 1) := by decide +kernel
theorem dX10_falseOne_69 : decode cX10_falseOne 69 = .ok (.imul, 1) := by decide +kernel
theorem dX10_falseOne_70 : decode cX10_falseOne 70 = .ok (.laload, 1) := by decide +kernel
theorem dX10_falseOne_71 : decode cX10_falseOne 71 = .ok (.lcmp, 1) := by decide +kernel
theorem dX10_falseOne_72 : decode cX10_falseOne 72 = .ok (.ifCond .eq 33, 3) := by decide +kernel
theorem dX10_falseOne_75 : decode cX10_falseOne 75 = .ok (.aload_n 0, 1) := by decide +kernel
theorem dX10_falseOne_76 : decode cX10_falseOne 76 = .ok (.aload 4, 2) := by decide +kernel
theorem dX10_falseOne_78 : decode cX10_falseOne 78 = .ok (.aload_n 0, 1) := by decide +kernel
theorem dX10_falseOne_79 : decode cX10_falseOne 79 = .ok (.getfield 10, 3) := by decide +kernel
theorem dX10_falseOne_82 : decode cX10_falseOne 82 = .ok (.getfield 258, 3) := by decide +kernel
theorem dX10_falseOne_85 : decode cX10_falseOne 85 = .ok (.iload_n 2, 1) := by decide +kernel
theorem dX10_falseOne_86 : decode cX10_falseOne 86 = .ok (.iload 6, 2) := by decide +kernel
theorem dX10_falseOne_88 : decode cX10_falseOne 88 = .ok (.invokevirtual 261, 3) := by decide +kernel
theorem dX10_falseOne_91 : decode cX10_falseOne 91 = .ok (.bipush (-2), 2) := by decide +kernel
theorem dX10_falseOne_93 : decode cX10_falseOne 93 = .ok (.if_icmp .ne 12, 3) := by decide +kernel
theorem dX10_falseOne_96 : decode cX10_falseOne 96 = .ok (.iload 5, 2) := by decide +kernel
theorem dX10_falseOne_98 : decode cX10_falseOne 98 = .ok (.iconst 1, 1) := by decide +kernel
theorem dX10_falseOne_99 : decode cX10_falseOne 99 = .ok (.iload 6, 2) := by decide +kernel
theorem dX10_falseOne_101 : decode cX10_falseOne 101 = .ok (.ishl, 1) := by decide +kernel
theorem dX10_falseOne_102 : decode cX10_falseOne 102 = .ok (.ior, 1) := by decide +kernel
theorem dX10_falseOne_103 : decode cX10_falseOne 103 = .ok (.istore 5, 2) := by decide +kernel
theorem dX10_falseOne_105 : decode cX10_falseOne 105 = .ok (.iinc 6 1, 3) := by decide +kernel
theorem dX10_falseOne_108 : decode cX10_falseOne 108 = .ok (.goto (-61), 3) := by decide +kernel
theorem dX10_falseOne_111 : decode cX10_falseOne 111 = .ok (.iload 5, 2) := by decide +kernel
theorem dX10_falseOne_113 : decode cX10_falseOne 113 = .ok (.ireturn, 1) := by decide +kernel
def fX10_falseOne_b105 (K47 : Nat → Int32 → Int32 → Int32 → mS → Option (Int32 × mS)) (j3 : Nat) (y2 : Int32) (y5 : Int32) (y6 : Int32) (s : mS) : Option (Int32 × mS) :=
  bnd (y6 + 1) fun v7 =>
  K47 j3 y2 y5 v7 s

def fX10_falseOne_b47 : Nat → Nat → Int32 → Int32 → Int32 → mS → Option (Int32 × mS)
  | 0, _, _, _, _, _ => none
  | k + 1, j3, y2, y5, y6, s =>
    if (gI s (iW_size 0)) ≤ y6 then
      some (y5, s)
    else
      ldL s (lS_cells j3) 60 (3 * y2) fun v6 =>
      if (lg_cmp (Int32.toInt64 y6) v6) = 0 then
        fX10_falseOne_b105 (fun u0 u1 u2 u3 u4 => fX10_falseOne_b47 k u0 u1 u2 u3 u4) j3 y2 y5 y6 s
      else
        bP (fX10_firstWrong j3 (gI s (iM_ribbon 0)) y2 y6 s) fun r8 s9 =>
        if r8 = (-2) then
          bnd (y5 ||| ((1 : Int32) <<< (y6 &&& 31))) fun v10 =>
          fX10_falseOne_b105 (fun u0 u1 u2 u3 u4 => fX10_falseOne_b47 k u0 u1 u2 u3 u4) j3 y2 v10 y6 s9
        else
          fX10_falseOne_b105 (fun u0 u1 u2 u3 u4 => fX10_falseOne_b47 k u0 u1 u2 u3 u4) j3 y2 y5 y6 s9

def fX10_falseOne (x1 : Int32) (x2 : Int32) (s : mS) : Option (Int32 × mS) :=
  if 0 ≤ x2 then
    bO (fX10_rowRefusal x1 1 s) fun r1 =>
    bnd r1 fun v2 =>
    if v2 = 0 then
      ldS 6 x1 fun j3 =>
      if x2 < ((gI s (iS_size j3)) / 3) then
        bnd 0 fun v4 =>
        bnd 0 fun v5 =>
        fX10_falseOne_b47 mFu j3 x2 v4 v5 s
      else
        some ((-2), s)
    else
      some (v2, s)
  else
    some ((-1), s)

set_option maxRecDepth 20000 in
theorem wX10_falseOne_b105 {ρ : mRo} {d : Nat} {P : mPo} {V : mS → List mE} (hV : mView LC V)  {res : (Int32 × mS)} {K47 : Nat → Int32 → Int32 → Int32 → mS → Option (Int32 × mS)} (hK47 : ∀ (j3 : Nat) (hj3 : j3 < 6) (y2 : Int32) (y5 : Int32) (y6 : Int32) (s : mS), K47 j3 y2 y5 y6 s = some res → mG ρ (mC ρ (d + 7)) 10 7 cX10_falseOne (some .int) P 47 [(0, .ref qT), (2, .int y2), (4, .ref (qS j3)), (5, .int y5), (6, .int y6)] [] (V s)) (hP : P (some (.int res.1)) (V res.2)) (j3 : Nat) (hj3 : j3 < 6) (y2 : Int32) (y5 : Int32) (y6 : Int32) (s : mS) (hf : fX10_falseOne_b105 K47 j3 y2 y5 y6 s = some res) : mG ρ (mC ρ (d + 7)) 10 7 cX10_falseOne (some .int) P 105 [(0, .ref qT), (2, .int y2), (4, .ref (qS j3)), (5, .int y5), (6, .int y6)] [] (V s) := by
  unfold fX10_falseOne_b105 at hf
  refine e_iinc 4 dX10_falseOne_105 rfl rfl hf (fun v7 hf => ?_)
  refine e_goto 47 dX10_falseOne_108 (by decide) ?_
  refine e_pick [1, 2, 3, 4, 0] rfl ?_
  exact hK47 j3 hj3 y2 y5 v7 s hf
set_option maxRecDepth 20000 in
theorem wX10_falseOne_b47 {ρ : mRo} {d : Nat} {P : mPo} {V : mS → List mE} (hV : mView LC V)  {res : (Int32 × mS)} (hP : P (some (.int res.1)) (V res.2)) : ∀ (k : Nat) (j3 : Nat) (hj3 : j3 < 6) (y2 : Int32) (y5 : Int32) (y6 : Int32) (s : mS), fX10_falseOne_b47 k j3 y2 y5 y6 s = some res → mG ρ (mC ρ (d + 7)) 10 7 cX10_falseOne (some .int) P 47 [(0, .ref qT), (2, .int y2), (4, .ref (qS j3)), (5, .int y5), (6, .int y6)] [] (V s) := by
  intro k
  induction k with
  | zero => intro j3 hj3 y2 y5 y6 s hf; rw [fX10_falseOne_b47] at hf; cases hf
  | succ k ih =>
    intro j3 hj3 y2 y5 y6 s hf
    rw [fX10_falseOne_b47] at hf
    refine e_iload 4 dX10_falseOne_47 rfl ?_
    refine e_aload_n 0 dX10_falseOne_49 rfl rfl ?_
    refine e_getr hV dX10_falseOne_50 rfl lc_T rfl ?_
    refine e_geti hV dX10_falseOne_53 rfl (lc_W (by decide)) rfl ?_
    refine e_icmp_ge 111 dX10_falseOne_56 (by decide) hf (fun hf => ?_) (fun hf => ?_)
    · refine e_iload 3 dX10_falseOne_111 rfl ?_
      cases hf
      exact e_iret dX10_falseOne_113 trivial hP
    · refine e_iload 4 dX10_falseOne_59 rfl ?_
      refine e_i2l dX10_falseOne_61 ?_
      refine e_aload 2 dX10_falseOne_62 rfl ?_
      refine e_getr hV dX10_falseOne_64 rfl (lc_S hj3) rfl ?_
      refine e_iconst (w := 3) dX10_falseOne_67 (by decide) ?_
      refine e_iload_n 1 dX10_falseOne_68 rfl rfl ?_
      refine e_imul dX10_falseOne_69 ?_
      refine e_lald hV dX10_falseOne_70 (lc_S_cells hj3) hf (fun v6 hf => ?_)
      refine e_lcmp dX10_falseOne_71 ?_
      refine e_if_eq 105 dX10_falseOne_72 (by decide) hf (fun hf => ?_) (fun hf => ?_)
      · refine e_pick [0, 1, 2, 3, 4] rfl ?_
        exact wX10_falseOne_b105 hV ih hP j3 hj3 y2 y5 y6 s hf
      · refine e_aload_n 0 dX10_falseOne_75 rfl rfl ?_
        refine e_aload 2 dX10_falseOne_76 rfl ?_
        refine e_aload_n 0 dX10_falseOne_78 rfl rfl ?_
        refine e_getr hV dX10_falseOne_79 rfl lc_T rfl ?_
        refine e_geti hV dX10_falseOne_82 rfl (lc_M (by decide)) rfl ?_
        refine e_iload_n 1 dX10_falseOne_85 rfl rfl ?_
        refine e_iload 4 dX10_falseOne_86 rfl ?_
        obtain ⟨r8, s9, hg, hf⟩ := bP_some hf
        refine e_callV (as := [.ref (qS j3), .int (gI s (iM_ribbon 0)), .int y2, .int y6]) (v := (some (.int r8))) (s' := s9) hV dX10_falseOne_88 (Or.inl rfl) rfl rfl rfl rfl (Nat.le_of_ble_eq_true rfl) lc_T rfl rfl (fun Q hQ => tX10_firstWrong (d := d) hV hj3 hg hQ) ?_
        refine e_bipush (w := (-2)) dX10_falseOne_91 (by decide) ?_
        refine e_icmp_ne 105 dX10_falseOne_93 (by decide) hf (fun hf => ?_) (fun hf => ?_)
        · refine e_pick [0, 1, 2, 3, 4] rfl ?_
          exact wX10_falseOne_b105 hV ih hP j3 hj3 y2 y5 y6 s9 hf
        · refine e_iload 3 dX10_falseOne_96 rfl ?_
          refine e_iconst (w := 1) dX10_falseOne_98 (by decide) ?_
          refine e_iload 4 dX10_falseOne_99 rfl ?_
          refine e_ishl dX10_falseOne_101 ?_
          refine e_ior dX10_falseOne_102 ?_
          refine e_istore dX10_falseOne_103 (by decide) hf (fun v10 hf => ?_)
          refine e_pick [1, 2, 3, 0, 4] rfl ?_
          exact wX10_falseOne_b105 hV ih hP j3 hj3 y2 v10 y6 s9 hf
set_option maxRecDepth 20000 in
theorem tX10_falseOne {ρ : mRo} {d : Nat} {P : mPo} {V : mS → List mE} (hV : mView LC V)  {x1 : Int32} {x2 : Int32} {s : mS} {res : (Int32 × mS)} (hf : fX10_falseOne x1 x2 s = some res) (hP : P (some (.int res.1)) (V res.2)) : mC ρ (d + 8) 85 [.ref qT, .int x1, .int x2] (V s) P := by
  refine ⟨_, rfl, Nat.le_of_ble_eq_true rfl, by decide, ?_⟩
  show mG ρ (mC ρ (d + 7)) 10 7 cX10_falseOne (some .int) P 0 [(0, .ref qT), (1, .int x1), (2, .int x2)] [] (V s)
  unfold fX10_falseOne at hf
  refine e_iload_n 2 dX10_falseOne_0 rfl rfl ?_
  refine e_if_ge 6 dX10_falseOne_1 (by decide) hf (fun hf => ?_) (fun hf => ?_)
  · refine e_aload_n 0 dX10_falseOne_6 rfl rfl ?_
    refine e_iload_n 1 dX10_falseOne_7 rfl rfl ?_
    refine e_iconst (w := 1) dX10_falseOne_8 (by decide) ?_
    obtain ⟨r1, hg, hf⟩ := bO_some hf
    refine e_callV (as := [.int x1, .int 1]) (v := (some (.int r1))) (s' := s) hV dX10_falseOne_9 (Or.inl rfl) rfl rfl rfl rfl (Nat.le_of_ble_eq_true rfl) lc_T rfl rfl (fun Q hQ => tX10_rowRefusal (d := (d + 5)) hV  hg hQ) ?_
    refine e_istore_n dX10_falseOne_12 rfl (by decide) hf (fun v2 hf => ?_)
    refine e_iload_n 0 dX10_falseOne_13 rfl rfl ?_
    refine e_if_eq 19 dX10_falseOne_14 (by decide) hf (fun hf => ?_) (fun hf => ?_)
    · refine e_aload_n 1 dX10_falseOne_19 rfl rfl ?_
      refine e_getr hV dX10_falseOne_20 rfl lc_T rfl ?_
      refine e_iload_n 2 dX10_falseOne_23 rfl rfl ?_
      refine e_aald hV dX10_falseOne_24 lc_T_shelves rfl lc_T_shelves_at hf (fun j3 hj3 hf => ?_)
      refine e_astore dX10_falseOne_25 (by decide) ?_
      refine e_iload_n 4 dX10_falseOne_27 rfl rfl ?_
      refine e_aload 0 dX10_falseOne_28 rfl ?_
      refine e_geti hV dX10_falseOne_30 rfl (lc_S hj3) rfl ?_
      refine e_iconst (w := 3) dX10_falseOne_33 (by decide) ?_
      refine e_idiv dX10_falseOne_34 (by decide) ?_
      refine e_icmp_lt 41 dX10_falseOne_35 (by decide) hf (fun hf => ?_) (fun hf => ?_)
      · refine e_iconst (w := 0) dX10_falseOne_41 (by decide) ?_
        refine e_istore dX10_falseOne_42 (by decide) hf (fun v4 hf => ?_)
        refine e_iconst (w := 0) dX10_falseOne_44 (by decide) ?_
        refine e_istore dX10_falseOne_45 (by decide) hf (fun v5 hf => ?_)
        refine e_pick [4, 6, 2, 1, 0] rfl ?_
        exact wX10_falseOne_b47 hV hP mFu j3 hj3 x2 v4 v5 s hf
      · refine e_bipush (w := (-2)) dX10_falseOne_38 (by decide) ?_
        cases hf
        exact e_iret dX10_falseOne_40 trivial hP
    · refine e_iload_n 0 dX10_falseOne_17 rfl rfl ?_
      cases hf
      exact e_iret dX10_falseOne_18 trivial hP
  · refine e_iconst (w := (-1)) dX10_falseOne_4 (by decide) ?_
    cases hf
    exact e_iret dX10_falseOne_5 trivial hP

theorem dX10_ribbons_0 : decode cX10_ribbons 0 = .ok (.iload_n 2, 1) := by decide +kernel
theorem dX10_ribbons_1 : decode cX10_ribbons 1 = .ok (.ifCond .lt 8, 3) := by decide +kernel
theorem dX10_ribbons_4 : decode cX10_ribbons 4 = .ok (.iload_n 2, 1) := by decide +kernel
theorem dX10_ribbons_5 : decode cX10_ribbons 5 = .ok (.iconst 1, 1) := by decide +kernel
theorem dX10_ribbons_6 : decode cX10_ribbons 6 = .ok (.if_icmp .le 5, 3) := by decide +kernel
theorem dX10_ribbons_9 : decode cX10_ribbons 9 = .ok (.iconst (-1), 1) := by decide +kernel
theorem dX10_ribbons_10 : decode cX10_ribbons 10 = .ok (.ireturn, 1) := by decide +kernel
theorem dX10_ribbons_11 : decode cX10_ribbons 11 = .ok (.aload_n 0, 1) := by decide +kernel
theorem dX10_ribbons_12 : decode cX10_ribbons 12 = .ok (.iload_n 1, 1) := by decide +kernel
theorem dX10_ribbons_13 : decode cX10_ribbons 13 = .ok (.iconst 1, 1) := by decide +kernel
theorem dX10_ribbons_14 : decode cX10_ribbons 14 = .ok (.invokevirtual 177, 3) := by decide +kernel
theorem dX10_ribbons_17 : decode cX10_ribbons 17 = .ok (.istore_n 3, 1) := by decide +kernel
theorem dX10_ribbons_18 : decode cX10_ribbons 18 = .ok (.iload_n 3, 1) := by decide +kernel
theorem dX10_ribbons_19 : decode cX10_ribbons 19 = .ok (.ifCond .eq 5, 3) := by decide +kernel
theorem dX10_ribbons_22 : decode cX10_ribbons 22 = .ok (.iload_n 3, 1) := by decide +kernel
theorem dX10_ribbons_23 : decode cX10_ribbons 23 = .ok (.ireturn, 1) := by decide +kernel
theorem dX10_ribbons_24 : decode cX10_ribbons 24 = .ok (.iconst 0, 1) := by decide +kernel
theorem dX10_ribbons_25 : decode cX10_ribbons 25 = .ok (.istore 4, 2) := by decide +kernel
theorem dX10_ribbons_27 : decode cX10_ribbons 27 = .ok (.bipush (-2), 2) := by decide +kernel
theorem dX10_ribbons_29 : decode cX10_ribbons 29 = .ok (.istore 5, 2) := by decide +kernel
theorem dX10_ribbons_31 : decode cX10_ribbons 31 = .ok (.bipush 9, 2) := by decide +kernel
theorem dX10_ribbons_33 : decode cX10_ribbons 33 = .ok (.istore 6, 2) := by decide +kernel
theorem dX10_ribbons_35 : decode cX10_ribbons 35 = .ok (.iload 6, 2) := by decide +kernel
theorem dX10_ribbons_37 : decode cX10_ribbons 37 = .ok (.ifCond .lt 35, 3) := by decide +kernel
theorem dX10_ribbons_40 : decode cX10_ribbons 40 = .ok (.aload_n 0, 1) := by decide +kernel
theorem dX10_ribbons_41 : decode cX10_ribbons 41 = .ok (.aload_n 0, 1) := by decide +kernel
theorem dX10_ribbons_42 : decode cX10_ribbons 42 = .ok (.getfield 42, 3) := by decide +kernel
theorem dX10_ribbons_45 : decode cX10_ribbons 45 = .ok (.iload_n 1, 1) := by decide +kernel
theorem dX10_ribbons_46 : decode cX10_ribbons 46 = .ok (.aaload, 1) := by decide +kernel
theorem dX10_ribbons_47 : decode cX10_ribbons 47 = .ok (.iload 6, 2) := by decide +kernel
theorem dX10_ribbons_49 : decode cX10_ribbons 49 = .ok (.iconst (-1), 1) := by decide +kernel
theorem dX10_ribbons_50 : decode cX10_ribbons 50 = .ok (.iconst (-1), 1) := by decide +kernel
theorem dX10_ribbons_51 : decode cX10_ribbons 51 = .ok (.invokevirtual 261, 3) := by decide +kernel
theorem dX10_ribbons_54 : decode cX10_ribbons 54 = .ok (.bipush (-2), 2) := by decide +kernel
theorem dX10_ribbons_56 : decode cX10_ribbons 56 = .ok (.if_icmp .ne 10, 3) := by decide +kernel
theorem dX10_ribbons_59 : decode cX10_ribbons 59 = .ok (.iinc 4 1, 3) := by decide +kernel
theorem dX10_ribbons_62 : decode cX10_ribbons 62 = .ok (.iload 6, 2) := by decide +kernel
theorem dX10_ribbons_64 : decode cX10_ribbons 64 = .ok (.istore 5, 2) := by decide +kernel
theorem dX10_ribbons_66 : decode cX10_ribbons 66 = .ok (.iinc 6 (-1), 3) := by decide +kernel
theorem dX10_ribbons_69 : decode cX10_ribbons 69 = .ok (.goto (-34), 3) := by decide +kernel
theorem dX10_ribbons_72 : decode cX10_ribbons 72 = .ok (.iload_n 2, 1) := by decide +kernel
theorem dX10_ribbons_73 : decode cX10_ribbons 73 = .ok (.ifCond .ne 8, 3) := by decide +kernel
theorem dX10_ribbons_76 : decode cX10_ribbons 76 = .ok (.iload 4, 2) := by decide +kernel
theorem dX10_ribbons_78 : decode cX10_ribbons 78 = .ok (.goto 5, 3) := by decide +kernel
theorem dX10_ribbons_81 : decode cX10_ribbons 81 = .ok (.iload 5, 2) := by decide +kernel
theorem dX10_ribbons_83 : decode cX10_ribbons 83 = .ok (.ireturn, 1) := by decide +kernel
def fX10_ribbons_b66 (K35 : Int32 → Int32 → Int32 → Int32 → Int32 → mS → Option (Int32 × mS)) (y1 : Int32) (y2 : Int32) (y4 : Int32) (y5 : Int32) (y6 : Int32) (s : mS) : Option (Int32 × mS) :=
  bnd (y6 + (-1)) fun v9 =>
  K35 y1 y2 y4 y5 v9 s

def fX10_ribbons_b35 : Nat → Int32 → Int32 → Int32 → Int32 → Int32 → mS → Option (Int32 × mS)
  | 0, _, _, _, _, _, _ => none
  | k + 1, y1, y2, y4, y5, y6, s =>
    if y6 < 0 then
      if y2 = 0 then
        some (y4, s)
      else
        some (y5, s)
    else
      ldS 6 y1 fun j6 =>
      bP (fX10_firstWrong j6 y6 (-1) (-1) s) fun r7 s8 =>
      if r7 = (-2) then
        bnd (y4 + 1) fun v10 =>
        bnd y6 fun v11 =>
        fX10_ribbons_b66 (fun u0 u1 u2 u3 u4 u5 => fX10_ribbons_b35 k u0 u1 u2 u3 u4 u5) y1 y2 v10 v11 y6 s8
      else
        fX10_ribbons_b66 (fun u0 u1 u2 u3 u4 u5 => fX10_ribbons_b35 k u0 u1 u2 u3 u4 u5) y1 y2 y4 y5 y6 s8

def fX10_ribbons (x1 : Int32) (x2 : Int32) (s : mS) : Option (Int32 × mS) :=
  if x2 < 0 then
    some ((-1), s)
  else
    if x2 ≤ 1 then
      bO (fX10_rowRefusal x1 1 s) fun r1 =>
      bnd r1 fun v2 =>
      if v2 = 0 then
        bnd 0 fun v3 =>
        bnd (-2) fun v4 =>
        bnd 9 fun v5 =>
        fX10_ribbons_b35 mFu x1 x2 v3 v4 v5 s
      else
        some (v2, s)
    else
      some ((-1), s)

set_option maxRecDepth 20000 in
theorem wX10_ribbons_b66 {ρ : mRo} {d : Nat} {P : mPo} {V : mS → List mE} (hV : mView LC V)  {res : (Int32 × mS)} {K35 : Int32 → Int32 → Int32 → Int32 → Int32 → mS → Option (Int32 × mS)} (hK35 : ∀ (y1 : Int32) (y2 : Int32) (y4 : Int32) (y5 : Int32) (y6 : Int32) (s : mS), K35 y1 y2 y4 y5 y6 s = some res → mG ρ (mC ρ (d + 7)) 10 7 cX10_ribbons (some .int) P 35 [(0, .ref qT), (1, .int y1), (2, .int y2), (4, .int y4), (5, .int y5), (6, .int y6)] [] (V s)) (hP : P (some (.int res.1)) (V res.2)) (y1 : Int32) (y2 : Int32) (y4 : Int32) (y5 : Int32) (y6 : Int32) (s : mS) (hf : fX10_ribbons_b66 K35 y1 y2 y4 y5 y6 s = some res) : mG ρ (mC ρ (d + 7)) 10 7 cX10_ribbons (some .int) P 66 [(0, .ref qT), (1, .int y1), (2, .int y2), (4, .int y4), (5, .int y5), (6, .int y6)] [] (V s) := by
  unfold fX10_ribbons_b66 at hf
  refine e_iinc 5 dX10_ribbons_66 rfl rfl hf (fun v9 hf => ?_)
  refine e_goto 35 dX10_ribbons_69 (by decide) ?_
  refine e_pick [1, 2, 3, 4, 5, 0] rfl ?_
  exact hK35 y1 y2 y4 y5 v9 s hf
set_option maxRecDepth 20000 in
theorem wX10_ribbons_b35 {ρ : mRo} {d : Nat} {P : mPo} {V : mS → List mE} (hV : mView LC V)  {res : (Int32 × mS)} (hP : P (some (.int res.1)) (V res.2)) : ∀ (k : Nat) (y1 : Int32) (y2 : Int32) (y4 : Int32) (y5 : Int32) (y6 : Int32) (s : mS), fX10_ribbons_b35 k y1 y2 y4 y5 y6 s = some res → mG ρ (mC ρ (d + 7)) 10 7 cX10_ribbons (some .int) P 35 [(0, .ref qT), (1, .int y1), (2, .int y2), (4, .int y4), (5, .int y5), (6, .int y6)] [] (V s) := by
  intro k
  induction k with
  | zero => intro y1 y2 y4 y5 y6 s hf; rw [fX10_ribbons_b35] at hf; cases hf
  | succ k ih =>
    intro y1 y2 y4 y5 y6 s hf
    rw [fX10_ribbons_b35] at hf
    refine e_iload 5 dX10_ribbons_35 rfl ?_
    refine e_if_lt 72 dX10_ribbons_37 (by decide) hf (fun hf => ?_) (fun hf => ?_)
    · refine e_iload_n 2 dX10_ribbons_72 rfl rfl ?_
      refine e_if_ne 81 dX10_ribbons_73 (by decide) hf (fun hf => ?_) (fun hf => ?_)
      · refine e_iload 4 dX10_ribbons_81 rfl ?_
        cases hf
        exact e_iret dX10_ribbons_83 trivial hP
      · refine e_iload 3 dX10_ribbons_76 rfl ?_
        refine e_goto 83 dX10_ribbons_78 (by decide) ?_
        cases hf
        exact e_iret dX10_ribbons_83 trivial hP
    · refine e_aload_n 0 dX10_ribbons_40 rfl rfl ?_
      refine e_aload_n 0 dX10_ribbons_41 rfl rfl ?_
      refine e_getr hV dX10_ribbons_42 rfl lc_T rfl ?_
      refine e_iload_n 1 dX10_ribbons_45 rfl rfl ?_
      refine e_aald hV dX10_ribbons_46 lc_T_shelves rfl lc_T_shelves_at hf (fun j6 hj6 hf => ?_)
      refine e_iload 5 dX10_ribbons_47 rfl ?_
      refine e_iconst (w := (-1)) dX10_ribbons_49 (by decide) ?_
      refine e_iconst (w := (-1)) dX10_ribbons_50 (by decide) ?_
      obtain ⟨r7, s8, hg, hf⟩ := bP_some hf
      refine e_callV (as := [.ref (qS j6), .int y6, .int (-1), .int (-1)]) (v := (some (.int r7))) (s' := s8) hV dX10_ribbons_51 (Or.inl rfl) rfl rfl rfl rfl (Nat.le_of_ble_eq_true rfl) lc_T rfl rfl (fun Q hQ => tX10_firstWrong (d := d) hV hj6 hg hQ) ?_
      refine e_bipush (w := (-2)) dX10_ribbons_54 (by decide) ?_
      refine e_icmp_ne 66 dX10_ribbons_56 (by decide) hf (fun hf => ?_) (fun hf => ?_)
      · refine e_pick [0, 1, 2, 3, 4, 5] rfl ?_
        exact wX10_ribbons_b66 hV ih hP y1 y2 y4 y5 y6 s8 hf
      · refine e_iinc 3 dX10_ribbons_59 rfl rfl hf (fun v10 hf => ?_)
        refine e_iload 5 dX10_ribbons_62 rfl ?_
        refine e_istore dX10_ribbons_64 (by decide) hf (fun v11 hf => ?_)
        refine e_pick [2, 3, 4, 1, 0, 5] rfl ?_
        exact wX10_ribbons_b66 hV ih hP y1 y2 v10 v11 y6 s8 hf
set_option maxRecDepth 20000 in
theorem tX10_ribbons {ρ : mRo} {d : Nat} {P : mPo} {V : mS → List mE} (hV : mView LC V)  {x1 : Int32} {x2 : Int32} {s : mS} {res : (Int32 × mS)} (hf : fX10_ribbons x1 x2 s = some res) (hP : P (some (.int res.1)) (V res.2)) : mC ρ (d + 8) 86 [.ref qT, .int x1, .int x2] (V s) P := by
  refine ⟨_, rfl, Nat.le_of_ble_eq_true rfl, by decide, ?_⟩
  show mG ρ (mC ρ (d + 7)) 10 7 cX10_ribbons (some .int) P 0 [(0, .ref qT), (1, .int x1), (2, .int x2)] [] (V s)
  unfold fX10_ribbons at hf
  refine e_iload_n 2 dX10_ribbons_0 rfl rfl ?_
  refine e_if_lt 9 dX10_ribbons_1 (by decide) hf (fun hf => ?_) (fun hf => ?_)
  · refine e_iconst (w := (-1)) dX10_ribbons_9 (by decide) ?_
    cases hf
    exact e_iret dX10_ribbons_10 trivial hP
  · refine e_iload_n 2 dX10_ribbons_4 rfl rfl ?_
    refine e_iconst (w := 1) dX10_ribbons_5 (by decide) ?_
    refine e_icmp_le 11 dX10_ribbons_6 (by decide) hf (fun hf => ?_) (fun hf => ?_)
    · refine e_aload_n 0 dX10_ribbons_11 rfl rfl ?_
      refine e_iload_n 1 dX10_ribbons_12 rfl rfl ?_
      refine e_iconst (w := 1) dX10_ribbons_13 (by decide) ?_
      obtain ⟨r1, hg, hf⟩ := bO_some hf
      refine e_callV (as := [.int x1, .int 1]) (v := (some (.int r1))) (s' := s) hV dX10_ribbons_14 (Or.inl rfl) rfl rfl rfl rfl (Nat.le_of_ble_eq_true rfl) lc_T rfl rfl (fun Q hQ => tX10_rowRefusal (d := (d + 5)) hV  hg hQ) ?_
      refine e_istore_n dX10_ribbons_17 rfl (by decide) hf (fun v2 hf => ?_)
      refine e_iload_n 0 dX10_ribbons_18 rfl rfl ?_
      refine e_if_eq 24 dX10_ribbons_19 (by decide) hf (fun hf => ?_) (fun hf => ?_)
      · refine e_iconst (w := 0) dX10_ribbons_24 (by decide) ?_
        refine e_istore dX10_ribbons_25 (by decide) hf (fun v3 hf => ?_)
        refine e_bipush (w := (-2)) dX10_ribbons_27 (by decide) ?_
        refine e_istore dX10_ribbons_29 (by decide) hf (fun v4 hf => ?_)
        refine e_bipush (w := 9) dX10_ribbons_31 (by decide) ?_
        refine e_istore dX10_ribbons_33 (by decide) hf (fun v5 hf => ?_)
        refine e_pick [4, 5, 6, 2, 1, 0] rfl ?_
        exact wX10_ribbons_b35 hV hP mFu x1 x2 v3 v4 v5 s hf
      · refine e_iload_n 0 dX10_ribbons_22 rfl rfl ?_
        cases hf
        exact e_iret dX10_ribbons_23 trivial hP
    · refine e_iconst (w := (-1)) dX10_ribbons_9 (by decide) ?_
      cases hf
      exact e_iret dX10_ribbons_10 trivial hP

theorem dX10_morning_0 : decode cX10_morning 0 = .ok (.aload_n 0, 1) := by decide +kernel
theorem dX10_morning_1 : decode cX10_morning 1 = .ok (.getfield 10, 3) := by decide +kernel
theorem dX10_morning_4 : decode cX10_morning 4 = .ok (.iload_n 1, 1) := by decide +kernel
theorem dX10_morning_5 : decode cX10_morning 5 = .ok (.invokevirtual 174, 3) := by decide +kernel
theorem dX10_morning_8 : decode cX10_morning 8 = .ok (.ifCond .eq 22, 3) := by decide +kernel
theorem dX10_morning_11 : decode cX10_morning 11 = .ok (.iload_n 2, 1) := by decide +kernel
theorem dX10_morning_12 : decode cX10_morning 12 = .ok (.ifCond .lt 18, 3) := by decide +kernel
theorem dX10_morning_15 : decode cX10_morning 15 = .ok (.iload_n 2, 1) := by decide +kernel
theorem dX10_morning_16 : decode cX10_morning 16 = .ok (.bipush 60, 2) := by decide +kernel
theorem dX10_morning_18 : decode cX10_morning 18 = .ok (.if_icmp .gt 12, 3) := by decide +kernel
theorem dX10_morning_21 : decode cX10_morning 21 = .ok (.iload_n 3, 1) := by decide +kernel
theorem dX10_morning_22 : decode cX10_morning 22 = .ok (.ifCond .lt 8, 3) := by decide +kernel
theorem dX10_morning_25 : decode cX10_morning 25 = .ok (.iload_n 3, 1) := by decide +kernel
theorem dX10_morning_26 : decode cX10_morning 26 = .ok (.iconst 3, 1) := by decide +kernel
theorem dX10_morning_27 : decode cX10_morning 27 = .ok (.if_icmp .lt 5, 3) := by decide +kernel
theorem dX10_morning_30 : decode cX10_morning 30 = .ok (.iconst (-1), 1) := by decide +kernel
theorem dX10_morning_31 : decode cX10_morning 31 = .ok (.ireturn, 1) := by decide +kernel
theorem dX10_morning_32 : decode cX10_morning 32 = .ok (.aload_n 0, 1) := by decide +kernel
theorem dX10_morning_33 : decode cX10_morning 33 = .ok (.getfield 16, 3) := by decide +kernel
theorem dX10_morning_36 : decode cX10_morning 36 = .ok (.aload_n 0, 1) := by decide +kernel
theorem dX10_morning_37 : decode cX10_morning 37 = .ok (.getfield 10, 3) := by decide +kernel
theorem dX10_morning_40 : decode cX10_morning 40 = .ok (.invokevirtual 197, 3) := by decide +kernel
theorem dX10_morning_43 : decode cX10_morning 43 = .ok (.iconst 0, 1) := by decide +kernel
theorem dX10_morning_44 : decode cX10_morning 44 = .ok (.istore 4, 2) := by decide +kernel
theorem dX10_morning_46 : decode cX10_morning 46 = .ok (.iload 4, 2) := by decide +kernel
theorem dX10_morning_48 : decode cX10_morning 48 = .ok (.iload_n 2, 1) := by decide +kernel
theorem dX10_morning_49 : decode cX10_morning 49 = .ok (.if_icmp .ge 16, 3) := by decide +kernel
theorem dX10_morning_52 : decode cX10_morning 52 = .ok (.aload_n 0, 1) := by decide +kernel
theorem dX10_morning_53 : decode cX10_morning 53 = .ok (.getfield 16, 3) := by decide +kernel
theorem dX10_morning_56 : decode cX10_morning 56 = .ok (.invokevirtual 265, 3) := by decide +kernel
theorem dX10_morning_59 : decode cX10_morning 59 = .ok (.iinc 4 1, 3) := by decide +kernel
theorem dX10_morning_62 : decode cX10_morning 62 = .ok (.goto (-16), 3) := by decide +kernel
theorem dX10_morning_65 : decode cX10_morning 65 = .ok (.aload_n 0, 1) := by decide +kernel
theorem dX10_morning_66 : decode cX10_morning 66 = .ok (.getfield 16, 3) := by decide +kernel
theorem dX10_morning_69 : decode cX10_morning 69 = .ok (.iload_n 1, 1) := by decide +kernel
theorem dX10_morning_70 : decode cX10_morning 70 = .ok (.iload_n 3, 1) := by decide +kernel
theorem dX10_morning_71 : decode cX10_morning 71 = .ok (.invokevirtual 187, 3) := by decide +kernel
theorem dX10_morning_74 : decode cX10_morning 74 = .ok (.ireturn, 1) := by decide +kernel
def fX10_morning_b46 : Nat → Int32 → Int32 → Int32 → Int32 → mS → Option (Int32 × mS)
  | 0, _, _, _, _, _ => none
  | k + 1, y1, y2, y3, y4, s =>
    if y2 ≤ y4 then
      bO (fX6_pull 1 y1 y3 s) fun r4 =>
      some (r4, s)
    else
      bO (fX6_passNight 1 s) fun s5 =>
      bnd (y4 + 1) fun v6 =>
      fX10_morning_b46 k y1 y2 y3 v6 s5

def fX10_morning (x1 : Int32) (x2 : Int32) (x3 : Int32) (s : mS) : Option (Int32 × mS) :=
  bO (fX6_has 0 x1 s) fun r1 =>
  if r1 = 0 then
    some ((-1), s)
  else
    if x2 < 0 then
      some ((-1), s)
    else
      if 60 < x2 then
        some ((-1), s)
      else
        if x3 < 0 then
          some ((-1), s)
        else
          if x3 < 3 then
            bO (fX6_copy 1 0 s) fun s2 =>
            bnd 0 fun v3 =>
            fX10_morning_b46 mFu x1 x2 x3 v3 s2
          else
            some ((-1), s)

set_option maxRecDepth 20000 in
theorem wX10_morning_b46 {ρ : mRo} {d : Nat} {P : mPo} {V : mS → List mE} (hV : mView LC V)  {res : (Int32 × mS)} (hP : P (some (.int res.1)) (V res.2)) : ∀ (k : Nat) (y1 : Int32) (y2 : Int32) (y3 : Int32) (y4 : Int32) (s : mS), fX10_morning_b46 k y1 y2 y3 y4 s = some res → mG ρ (mC ρ (d + 2)) 10 5 cX10_morning (some .int) P 46 [(0, .ref qT), (1, .int y1), (2, .int y2), (3, .int y3), (4, .int y4)] [] (V s) := by
  intro k
  induction k with
  | zero => intro y1 y2 y3 y4 s hf; rw [fX10_morning_b46] at hf; cases hf
  | succ k ih =>
    intro y1 y2 y3 y4 s hf
    rw [fX10_morning_b46] at hf
    refine e_iload 4 dX10_morning_46 rfl ?_
    refine e_iload_n 2 dX10_morning_48 rfl rfl ?_
    refine e_icmp_ge 65 dX10_morning_49 (by decide) hf (fun hf => ?_) (fun hf => ?_)
    · refine e_aload_n 0 dX10_morning_65 rfl rfl ?_
      refine e_getr hV dX10_morning_66 rfl lc_T rfl ?_
      refine e_iload_n 1 dX10_morning_69 rfl rfl ?_
      refine e_iload_n 3 dX10_morning_70 rfl rfl ?_
      obtain ⟨r4, hg, hf⟩ := bO_some hf
      refine e_callV (as := [.int y1, .int y3]) (v := (some (.int r4))) (s' := s) hV dX10_morning_71 (Or.inl rfl) rfl rfl rfl rfl (Nat.le_of_ble_eq_true rfl) (lc_M (by decide)) rfl rfl (fun Q hQ => tX6_pull (d := (d + 1)) hV (by decide) hg hQ) ?_
      cases hf
      exact e_iret dX10_morning_74 trivial hP
    · refine e_aload_n 0 dX10_morning_52 rfl rfl ?_
      refine e_getr hV dX10_morning_53 rfl lc_T rfl ?_
      obtain ⟨s5, hg, hf⟩ := bO_some hf
      refine e_callV (as := []) (v := none) (s' := s5) hV dX10_morning_56 (Or.inl rfl) rfl rfl rfl rfl (Nat.le_of_ble_eq_true rfl) (lc_M (by decide)) rfl rfl (fun Q hQ => tX6_passNight (d := d) hV (by decide) hg hQ) ?_
      refine e_iinc 4 dX10_morning_59 rfl rfl hf (fun v6 hf => ?_)
      refine e_goto 46 dX10_morning_62 (by decide) ?_
      refine e_pick [1, 2, 3, 4, 0] rfl ?_
      exact ih y1 y2 y3 v6 s5 hf
set_option maxRecDepth 20000 in
theorem tX10_morning {ρ : mRo} {d : Nat} {P : mPo} {V : mS → List mE} (hV : mView LC V)  {x1 : Int32} {x2 : Int32} {x3 : Int32} {s : mS} {res : (Int32 × mS)} (hf : fX10_morning x1 x2 x3 s = some res) (hP : P (some (.int res.1)) (V res.2)) : mC ρ (d + 3) 87 [.ref qT, .int x1, .int x2, .int x3] (V s) P := by
  refine ⟨_, rfl, Nat.le_of_ble_eq_true rfl, by decide, ?_⟩
  show mG ρ (mC ρ (d + 2)) 10 5 cX10_morning (some .int) P 0 [(0, .ref qT), (1, .int x1), (2, .int x2), (3, .int x3)] [] (V s)
  unfold fX10_morning at hf
  refine e_aload_n 0 dX10_morning_0 rfl rfl ?_
  refine e_getr hV dX10_morning_1 rfl lc_T rfl ?_
  refine e_iload_n 1 dX10_morning_4 rfl rfl ?_
  obtain ⟨r1, hg, hf⟩ := bO_some hf
  refine e_callV (as := [.int x1]) (v := (some (.int r1))) (s' := s) hV dX10_morning_5 (Or.inl rfl) rfl rfl rfl rfl (Nat.le_of_ble_eq_true rfl) (lc_M (by decide)) rfl rfl (fun Q hQ => tX6_has (d := (d + 1)) hV (by decide) hg hQ) ?_
  refine e_if_eq 30 dX10_morning_8 (by decide) hf (fun hf => ?_) (fun hf => ?_)
  · refine e_iconst (w := (-1)) dX10_morning_30 (by decide) ?_
    cases hf
    exact e_iret dX10_morning_31 trivial hP
  · refine e_iload_n 2 dX10_morning_11 rfl rfl ?_
    refine e_if_lt 30 dX10_morning_12 (by decide) hf (fun hf => ?_) (fun hf => ?_)
    · refine e_iconst (w := (-1)) dX10_morning_30 (by decide) ?_
      cases hf
      exact e_iret dX10_morning_31 trivial hP
    · refine e_iload_n 2 dX10_morning_15 rfl rfl ?_
      refine e_bipush (w := 60) dX10_morning_16 (by decide) ?_
      refine e_icmp_gt 30 dX10_morning_18 (by decide) hf (fun hf => ?_) (fun hf => ?_)
      · refine e_iconst (w := (-1)) dX10_morning_30 (by decide) ?_
        cases hf
        exact e_iret dX10_morning_31 trivial hP
      · refine e_iload_n 3 dX10_morning_21 rfl rfl ?_
        refine e_if_lt 30 dX10_morning_22 (by decide) hf (fun hf => ?_) (fun hf => ?_)
        · refine e_iconst (w := (-1)) dX10_morning_30 (by decide) ?_
          cases hf
          exact e_iret dX10_morning_31 trivial hP
        · refine e_iload_n 3 dX10_morning_25 rfl rfl ?_
          refine e_iconst (w := 3) dX10_morning_26 (by decide) ?_
          refine e_icmp_lt 32 dX10_morning_27 (by decide) hf (fun hf => ?_) (fun hf => ?_)
          · refine e_aload_n 0 dX10_morning_32 rfl rfl ?_
            refine e_getr hV dX10_morning_33 rfl lc_T rfl ?_
            refine e_aload_n 0 dX10_morning_36 rfl rfl ?_
            refine e_getr hV dX10_morning_37 rfl lc_T rfl ?_
            obtain ⟨s2, hg, hf⟩ := bO_some hf
            refine e_callV (as := [.ref (qM 0)]) (v := none) (s' := s2) hV dX10_morning_40 (Or.inl rfl) rfl rfl rfl rfl (Nat.le_of_ble_eq_true rfl) (lc_M (by decide)) rfl rfl (fun Q hQ => tX6_copy (d := d) hV (by decide) (by decide) hg hQ) ?_
            refine e_iconst (w := 0) dX10_morning_43 (by decide) ?_
            refine e_istore dX10_morning_44 (by decide) hf (fun v3 hf => ?_)
            refine e_pick [1, 2, 3, 4, 0] rfl ?_
            exact wX10_morning_b46 hV hP mFu x1 x2 x3 v3 s2 hf
          · refine e_iconst (w := (-1)) dX10_morning_30 (by decide) ?_
            cases hf
            exact e_iret dX10_morning_31 trivial hP

theorem dX10_alike_0 : decode cX10_alike 0 = .ok (.aload_n 0, 1) := by decide +kernel
theorem dX10_alike_1 : decode cX10_alike 1 = .ok (.getfield 16, 3) := by decide +kernel
theorem dX10_alike_4 : decode cX10_alike 4 = .ok (.aload_n 0, 1) := by decide +kernel
theorem dX10_alike_5 : decode cX10_alike 5 = .ok (.getfield 10, 3) := by decide +kernel
theorem dX10_alike_8 : decode cX10_alike 8 = .ok (.invokevirtual 197, 3) := by decide +kernel
theorem dX10_alike_11 : decode cX10_alike 11 = .ok (.iconst 0, 1) := by decide +kernel
theorem dX10_alike_12 : decode cX10_alike 12 = .ok (.istore_n 1, 1) := by decide +kernel
theorem dX10_alike_13 : decode cX10_alike 13 = .ok (.iload_n 1, 1) := by decide +kernel
theorem dX10_alike_14 : decode cX10_alike 14 = .ok (.bipush 99, 2) := by decide +kernel
theorem dX10_alike_16 : decode cX10_alike 16 = .ok (.if_icmp .gt 28, 3) := by decide +kernel
theorem dX10_alike_19 : decode cX10_alike 19 = .ok (.aload_n 0, 1) := by decide +kernel
theorem dX10_alike_20 : decode cX10_alike 20 = .ok (.getfield 16, 3) := by decide +kernel
theorem dX10_alike_23 : decode cX10_alike 23 = .ok (.invokevirtual 268, 3) := by decide +kernel
theorem dX10_alike_26 : decode cX10_alike 26 = .ok (.ifCond .eq 5, 3) := by decide +kernel
theorem dX10_alike_29 : decode cX10_alike 29 = .ok (.iload_n 1, 1) := by decide +kernel
theorem dX10_alike_30 : decode cX10_alike 30 = .ok (.ireturn, 1) := by decide +kernel
theorem dX10_alike_31 : decode cX10_alike 31 = .ok (.aload_n 0, 1) := by decide +kernel
theorem dX10_alike_32 : decode cX10_alike 32 = .ok (.getfield 16, 3) := by decide +kernel
theorem dX10_alike_35 : decode cX10_alike 35 = .ok (.invokevirtual 265, 3) := by decide +kernel
theorem dX10_alike_38 : decode cX10_alike 38 = .ok (.iinc 1 1, 3) := by decide +kernel
theorem dX10_alike_41 : decode cX10_alike 41 = .ok (.goto (-28), 3) := by decide +kernel
theorem dX10_alike_44 : decode cX10_alike 44 = .ok (.bipush (-2), 2) := by decide +kernel
theorem dX10_alike_46 : decode cX10_alike 46 = .ok (.ireturn, 1) := by decide +kernel
def fX10_alike_b13 : Nat → Int32 → mS → Option (Int32 × mS)
  | 0, _, _ => none
  | k + 1, y1, s =>
    if 99 < y1 then
      some ((-2), s)
    else
      bO (fX6_areAllAlike 1 s) fun r3 =>
      if r3 = 0 then
        bO (fX6_passNight 1 s) fun s4 =>
        bnd (y1 + 1) fun v5 =>
        fX10_alike_b13 k v5 s4
      else
        some (y1, s)

def fX10_alike (s : mS) : Option (Int32 × mS) :=
  bO (fX6_copy 1 0 s) fun s1 =>
  bnd 0 fun v2 =>
  fX10_alike_b13 mFu v2 s1

set_option maxRecDepth 20000 in
theorem wX10_alike_b13 {ρ : mRo} {d : Nat} {P : mPo} {V : mS → List mE} (hV : mView LC V)  {res : (Int32 × mS)} (hP : P (some (.int res.1)) (V res.2)) : ∀ (k : Nat) (y1 : Int32) (s : mS), fX10_alike_b13 k y1 s = some res → mG ρ (mC ρ (d + 2)) 10 2 cX10_alike (some .int) P 13 [(0, .ref qT), (1, .int y1)] [] (V s) := by
  intro k
  induction k with
  | zero => intro y1 s hf; rw [fX10_alike_b13] at hf; cases hf
  | succ k ih =>
    intro y1 s hf
    rw [fX10_alike_b13] at hf
    refine e_iload_n 1 dX10_alike_13 rfl rfl ?_
    refine e_bipush (w := 99) dX10_alike_14 (by decide) ?_
    refine e_icmp_gt 44 dX10_alike_16 (by decide) hf (fun hf => ?_) (fun hf => ?_)
    · refine e_bipush (w := (-2)) dX10_alike_44 (by decide) ?_
      cases hf
      exact e_iret dX10_alike_46 trivial hP
    · refine e_aload_n 0 dX10_alike_19 rfl rfl ?_
      refine e_getr hV dX10_alike_20 rfl lc_T rfl ?_
      obtain ⟨r3, hg, hf⟩ := bO_some hf
      refine e_callV (as := []) (v := (some (.int r3))) (s' := s) hV dX10_alike_23 (Or.inl rfl) rfl rfl rfl rfl (Nat.le_of_ble_eq_true rfl) (lc_M (by decide)) rfl rfl (fun Q hQ => tX6_areAllAlike (d := (d + 1)) hV (by decide) hg hQ) ?_
      refine e_if_eq 31 dX10_alike_26 (by decide) hf (fun hf => ?_) (fun hf => ?_)
      · refine e_aload_n 0 dX10_alike_31 rfl rfl ?_
        refine e_getr hV dX10_alike_32 rfl lc_T rfl ?_
        obtain ⟨s4, hg, hf⟩ := bO_some hf
        refine e_callV (as := []) (v := none) (s' := s4) hV dX10_alike_35 (Or.inl rfl) rfl rfl rfl rfl (Nat.le_of_ble_eq_true rfl) (lc_M (by decide)) rfl rfl (fun Q hQ => tX6_passNight (d := d) hV (by decide) hg hQ) ?_
        refine e_iinc 1 dX10_alike_38 rfl rfl hf (fun v5 hf => ?_)
        refine e_goto 13 dX10_alike_41 (by decide) ?_
        refine e_pick [1, 0] rfl ?_
        exact ih v5 s4 hf
      · refine e_iload_n 1 dX10_alike_29 rfl rfl ?_
        cases hf
        exact e_iret dX10_alike_30 trivial hP
set_option maxRecDepth 20000 in
theorem tX10_alike {ρ : mRo} {d : Nat} {P : mPo} {V : mS → List mE} (hV : mView LC V)  {s : mS} {res : (Int32 × mS)} (hf : fX10_alike s = some res) (hP : P (some (.int res.1)) (V res.2)) : mC ρ (d + 3) 88 [.ref qT] (V s) P := by
  refine ⟨_, rfl, Nat.le_of_ble_eq_true rfl, by decide, ?_⟩
  show mG ρ (mC ρ (d + 2)) 10 2 cX10_alike (some .int) P 0 [(0, .ref qT)] [] (V s)
  unfold fX10_alike at hf
  refine e_aload_n 0 dX10_alike_0 rfl rfl ?_
  refine e_getr hV dX10_alike_1 rfl lc_T rfl ?_
  refine e_aload_n 0 dX10_alike_4 rfl rfl ?_
  refine e_getr hV dX10_alike_5 rfl lc_T rfl ?_
  obtain ⟨s1, hg, hf⟩ := bO_some hf
  refine e_callV (as := [.ref (qM 0)]) (v := none) (s' := s1) hV dX10_alike_8 (Or.inl rfl) rfl rfl rfl rfl (Nat.le_of_ble_eq_true rfl) (lc_M (by decide)) rfl rfl (fun Q hQ => tX6_copy (d := d) hV (by decide) (by decide) hg hQ) ?_
  refine e_iconst (w := 0) dX10_alike_11 (by decide) ?_
  refine e_istore_n dX10_alike_12 rfl (by decide) hf (fun v2 hf => ?_)
  refine e_pick [1, 0] rfl ?_
  exact wX10_alike_b13 hV hP mFu v2 s1 hf

theorem dX10_pence_0 : decode cX10_pence 0 = .ok (.aload_n 0, 1) := by decide +kernel
theorem dX10_pence_1 : decode cX10_pence 1 = .ok (.iload_n 1, 1) := by decide +kernel
theorem dX10_pence_2 : decode cX10_pence 2 = .ok (.invokevirtual 212, 3) := by decide +kernel
theorem dX10_pence_5 : decode cX10_pence 5 = .ok (.istore_n 2, 1) := by decide +kernel
theorem dX10_pence_6 : decode cX10_pence 6 = .ok (.iload_n 2, 1) := by decide +kernel
theorem dX10_pence_7 : decode cX10_pence 7 = .ok (.ifCond .ge 8, 3) := by decide +kernel
theorem dX10_pence_10 : decode cX10_pence 10 = .ok (.bipush 50, 2) := by decide +kernel
theorem dX10_pence_12 : decode cX10_pence 12 = .ok (.goto 15, 3) := by decide +kernel
theorem dX10_pence_15 : decode cX10_pence 15 = .ok (.iconst 3, 1) := by decide +kernel
theorem dX10_pence_16 : decode cX10_pence 16 = .ok (.aload_n 0, 1) := by decide +kernel
theorem dX10_pence_17 : decode cX10_pence 17 = .ok (.aload_n 0, 1) := by decide +kernel
theorem dX10_pence_18 : decode cX10_pence 18 = .ok (.getfield 10, 3) := by decide +kernel
theorem dX10_pence_21 : decode cX10_pence 21 = .ok (.iload_n 2, 1) := by decide +kernel
theorem dX10_pence_22 : decode cX10_pence 22 = .ok (.iload_n 1, 1) := by decide +kernel
theorem dX10_pence_23 : decode cX10_pence 23 = .ok (.invokevirtual 205, 3) := by decide +kernel
theorem dX10_pence_26 : decode cX10_pence 26 = .ok (.imul, 1) := by decide +kernel
theorem dX10_pence_27 : decode cX10_pence 27 = .ok (.istore_n 3, 1) := by decide +kernel
theorem dX10_pence_28 : decode cX10_pence 28 = .ok (.iconst 0, 1) := by decide +kernel
theorem dX10_pence_29 : decode cX10_pence 29 = .ok (.bipush 100, 2) := by decide +kernel
theorem dX10_pence_31 : decode cX10_pence 31 = .ok (.iload_n 3, 1) := by decide +kernel
theorem dX10_pence_32 : decode cX10_pence 32 = .ok (.isub, 1) := by decide +kernel
theorem dX10_pence_33 : decode cX10_pence 33 = .ok (.aload_n 0, 1) := by decide +kernel
theorem dX10_pence_34 : decode cX10_pence 34 = .ok (.getfield 10, 3) := by decide +kernel
theorem dX10_pence_37 : decode cX10_pence 37 = .ok (.getfield 184, 3) := by decide +kernel
theorem dX10_pence_40 : decode cX10_pence 40 = .ok (.iload_n 1, 1) := by decide +kernel
theorem dX10_pence_41 : decode cX10_pence 41 = .ok (.iaload, 1) := by decide +kernel
theorem dX10_pence_42 : decode cX10_pence 42 = .ok (.iconst 2, 1) := by decide +kernel
theorem dX10_pence_43 : decode cX10_pence 43 = .ok (.idiv, 1) := by decide +kernel
theorem dX10_pence_44 : decode cX10_pence 44 = .ok (.isub, 1) := by decide +kernel
theorem dX10_pence_45 : decode cX10_pence 45 = .ok (.invokestatic 438, 3) := by decide +kernel
theorem dX10_pence_48 : decode cX10_pence 48 = .ok (.ireturn, 1) := by decide +kernel
def fX10_pence_b27 (y1 : Int32) (z0 : Int32) (s : mS) : Option Int32 :=
  bnd z0 fun v4 =>
  ldA s (aM_ages 0) 8 y1 fun v5 =>
  some (if (0 : Int32) < ((100 - v4) - (v5 / 2)) then ((100 - v4) - (v5 / 2)) else (0 : Int32))

def fX10_pence (x1 : Int32) (s : mS) : Option Int32 :=
  bO (fX10_nearestWriter x1 s) fun r1 =>
  bnd r1 fun v2 =>
  if 0 ≤ v2 then
    bO (fX10_apart 0 v2 x1 s) fun r3 =>
    fX10_pence_b27 x1 (3 * r3) s
  else
    fX10_pence_b27 x1 50 s

set_option maxRecDepth 20000 in
theorem wX10_pence_b27 {ρ : mRo} {d : Nat} {P : mPo} {V : mS → List mE} (hV : mView LC V)  {res : Int32} {s : mS} (hP : P (some (.int res)) (V s)) (y1 : Int32) (z0 : Int32) (hf : fX10_pence_b27 y1 z0 s = some res) : mG ρ (mC ρ (d + 3)) 10 4 cX10_pence (some .int) P 27 [(0, .ref qT), (1, .int y1)] [.int z0] (V s) := by
  unfold fX10_pence_b27 at hf
  refine e_istore_n dX10_pence_27 rfl (by decide) hf (fun v4 hf => ?_)
  refine e_iconst (w := 0) dX10_pence_28 (by decide) ?_
  refine e_bipush (w := 100) dX10_pence_29 (by decide) ?_
  refine e_iload_n 0 dX10_pence_31 rfl rfl ?_
  refine e_isub dX10_pence_32 ?_
  refine e_aload_n 1 dX10_pence_33 rfl rfl ?_
  refine e_getr hV dX10_pence_34 rfl lc_T rfl ?_
  refine e_getr hV dX10_pence_37 rfl (lc_M (by decide)) rfl ?_
  refine e_iload_n 2 dX10_pence_40 rfl rfl ?_
  refine e_iald hV dX10_pence_41 (lc_M_ages (by decide)) hf (fun v5 hf => ?_)
  refine e_iconst (w := 2) dX10_pence_42 (by decide) ?_
  refine e_idiv dX10_pence_43 (by decide) ?_
  refine e_isub dX10_pence_44 ?_
  refine e_max dX10_pence_45 rfl (Nat.le_of_ble_eq_true rfl) ?_
  cases hf
  exact e_iret dX10_pence_48 trivial hP
set_option maxRecDepth 20000 in
theorem tX10_pence {ρ : mRo} {d : Nat} {P : mPo} {V : mS → List mE} (hV : mView LC V)  {x1 : Int32} {s : mS} {res : Int32} (hf : fX10_pence x1 s = some res) (hP : P (some (.int res)) (V s)) : mC ρ (d + 4) 135 [.ref qT, .int x1] (V s) P := by
  refine ⟨_, rfl, Nat.le_of_ble_eq_true rfl, by decide, ?_⟩
  show mG ρ (mC ρ (d + 3)) 10 4 cX10_pence (some .int) P 0 [(0, .ref qT), (1, .int x1)] [] (V s)
  unfold fX10_pence at hf
  refine e_aload_n 0 dX10_pence_0 rfl rfl ?_
  refine e_iload_n 1 dX10_pence_1 rfl rfl ?_
  obtain ⟨r1, hg, hf⟩ := bO_some hf
  refine e_callV (as := [.int x1]) (v := (some (.int r1))) (s' := s) hV dX10_pence_2 (Or.inl rfl) rfl rfl rfl rfl (Nat.le_of_ble_eq_true rfl) lc_T rfl rfl (fun Q hQ => tX10_nearestWriter (d := d) hV  hg hQ) ?_
  refine e_istore_n dX10_pence_5 rfl (by decide) hf (fun v2 hf => ?_)
  refine e_iload_n 0 dX10_pence_6 rfl rfl ?_
  refine e_if_ge 15 dX10_pence_7 (by decide) hf (fun hf => ?_) (fun hf => ?_)
  · refine e_iconst (w := 3) dX10_pence_15 (by decide) ?_
    refine e_aload_n 1 dX10_pence_16 rfl rfl ?_
    refine e_aload_n 1 dX10_pence_17 rfl rfl ?_
    refine e_getr hV dX10_pence_18 rfl lc_T rfl ?_
    refine e_iload_n 0 dX10_pence_21 rfl rfl ?_
    refine e_iload_n 2 dX10_pence_22 rfl rfl ?_
    obtain ⟨r3, hg, hf⟩ := bO_some hf
    refine e_callV (as := [.ref (qM 0), .int v2, .int x1]) (v := (some (.int r3))) (s' := s) hV dX10_pence_23 (Or.inl rfl) rfl rfl rfl rfl (Nat.le_of_ble_eq_true rfl) lc_T rfl rfl (fun Q hQ => tX10_apart (d := (d + 1)) hV (by decide) hg hQ) ?_
    refine e_imul dX10_pence_26 ?_
    refine e_pick [1, 2] rfl ?_
    exact wX10_pence_b27 hV hP x1 (3 * r3) hf
  · refine e_bipush (w := 50) dX10_pence_10 (by decide) ?_
    refine e_goto 27 dX10_pence_12 (by decide) ?_
    refine e_pick [1, 2] rfl ?_
    exact wX10_pence_b27 hV hP x1 50 hf

theorem dX10_price_0 : decode cX10_price 0 = .ok (.aload_n 0, 1) := by decide +kernel
theorem dX10_price_1 : decode cX10_price 1 = .ok (.getfield 10, 3) := by decide +kernel
theorem dX10_price_4 : decode cX10_price 4 = .ok (.iload_n 1, 1) := by decide +kernel
theorem dX10_price_5 : decode cX10_price 5 = .ok (.invokevirtual 174, 3) := by decide +kernel
theorem dX10_price_8 : decode cX10_price 8 = .ok (.ifCond .eq 11, 3) := by decide +kernel
theorem dX10_price_11 : decode cX10_price 11 = .ok (.aload_n 0, 1) := by decide +kernel
theorem dX10_price_12 : decode cX10_price 12 = .ok (.iload_n 1, 1) := by decide +kernel
theorem dX10_price_13 : decode cX10_price 13 = .ok (.invokevirtual 271, 3) := by decide +kernel
theorem dX10_price_16 : decode cX10_price 16 = .ok (.goto 4, 3) := by decide +kernel
theorem dX10_price_19 : decode cX10_price 19 = .ok (.iconst (-1), 1) := by decide +kernel
theorem dX10_price_20 : decode cX10_price 20 = .ok (.ireturn, 1) := by decide +kernel
def fX10_price (x1 : Int32) (s : mS) : Option Int32 :=
  bO (fX6_has 0 x1 s) fun r1 =>
  if r1 = 0 then
    some (-1)
  else
    bO (fX10_pence x1 s) fun r2 =>
    some r2

set_option maxRecDepth 20000 in
theorem tX10_price {ρ : mRo} {d : Nat} {P : mPo} {V : mS → List mE} (hV : mView LC V)  {x1 : Int32} {s : mS} {res : Int32} (hf : fX10_price x1 s = some res) (hP : P (some (.int res)) (V s)) : mC ρ (d + 5) 89 [.ref qT, .int x1] (V s) P := by
  refine ⟨_, rfl, Nat.le_of_ble_eq_true rfl, by decide, ?_⟩
  show mG ρ (mC ρ (d + 4)) 10 2 cX10_price (some .int) P 0 [(0, .ref qT), (1, .int x1)] [] (V s)
  unfold fX10_price at hf
  refine e_aload_n 0 dX10_price_0 rfl rfl ?_
  refine e_getr hV dX10_price_1 rfl lc_T rfl ?_
  refine e_iload_n 1 dX10_price_4 rfl rfl ?_
  obtain ⟨r1, hg, hf⟩ := bO_some hf
  refine e_callV (as := [.int x1]) (v := (some (.int r1))) (s' := s) hV dX10_price_5 (Or.inl rfl) rfl rfl rfl rfl (Nat.le_of_ble_eq_true rfl) (lc_M (by decide)) rfl rfl (fun Q hQ => tX6_has (d := (d + 3)) hV (by decide) hg hQ) ?_
  refine e_if_eq 19 dX10_price_8 (by decide) hf (fun hf => ?_) (fun hf => ?_)
  · refine e_iconst (w := (-1)) dX10_price_19 (by decide) ?_
    cases hf
    exact e_iret dX10_price_20 trivial hP
  · refine e_aload_n 0 dX10_price_11 rfl rfl ?_
    refine e_iload_n 1 dX10_price_12 rfl rfl ?_
    obtain ⟨r2, hg, hf⟩ := bO_some hf
    refine e_callV (as := [.int x1]) (v := (some (.int r2))) (s' := s) hV dX10_price_13 (Or.inl rfl) rfl rfl rfl rfl (Nat.le_of_ble_eq_true rfl) lc_T rfl rfl (fun Q hQ => tX10_pence (d := d) hV  hg hQ) ?_
    refine e_goto 20 dX10_price_16 (by decide) ?_
    cases hf
    exact e_iret dX10_price_20 trivial hP

theorem dX10_penceOf_0 : decode cX10_penceOf 0 = .ok (.iconst 0, 1) := by decide +kernel
theorem dX10_penceOf_1 : decode cX10_penceOf 1 = .ok (.istore_n 2, 1) := by decide +kernel
theorem dX10_penceOf_2 : decode cX10_penceOf 2 = .ok (.iconst 0, 1) := by decide +kernel
theorem dX10_penceOf_3 : decode cX10_penceOf 3 = .ok (.istore_n 3, 1) := by decide +kernel
theorem dX10_penceOf_4 : decode cX10_penceOf 4 = .ok (.iload_n 3, 1) := by decide +kernel
theorem dX10_penceOf_5 : decode cX10_penceOf 5 = .ok (.aload_n 0, 1) := by decide +kernel
theorem dX10_penceOf_6 : decode cX10_penceOf 6 = .ok (.getfield 10, 3) := by decide +kernel
theorem dX10_penceOf_9 : decode cX10_penceOf 9 = .ok (.getfield 216, 3) := by decide +kernel
theorem dX10_penceOf_12 : decode cX10_penceOf 12 = .ok (.if_icmp .ge 26, 3) := by decide +kernel
theorem dX10_penceOf_15 : decode cX10_penceOf 15 = .ok (.iload_n 1, 1) := by decide +kernel
theorem dX10_penceOf_16 : decode cX10_penceOf 16 = .ok (.iconst 1, 1) := by decide +kernel
theorem dX10_penceOf_17 : decode cX10_penceOf 17 = .ok (.iload_n 3, 1) := by decide +kernel
theorem dX10_penceOf_18 : decode cX10_penceOf 18 = .ok (.ishl, 1) := by decide +kernel
theorem dX10_penceOf_19 : decode cX10_penceOf 19 = .ok (.iand, 1) := by decide +kernel
theorem dX10_penceOf_20 : decode cX10_penceOf 20 = .ok (.ifCond .eq 12, 3) := by decide +kernel
theorem dX10_penceOf_23 : decode cX10_penceOf 23 = .ok (.iload_n 2, 1) := by decide +kernel
theorem dX10_penceOf_24 : decode cX10_penceOf 24 = .ok (.aload_n 0, 1) := by decide +kernel
theorem dX10_penceOf_25 : decode cX10_penceOf 25 = .ok (.getfield 78, 3) := by decide +kernel
theorem dX10_penceOf_28 : decode cX10_penceOf 28 = .ok (.iload_n 3, 1) := by decide +kernel
theorem dX10_penceOf_29 : decode cX10_penceOf 29 = .ok (.iaload, 1) := by decide +kernel
theorem dX10_penceOf_30 : decode cX10_penceOf 30 = .ok (.iadd, 1) := by decide +kernel
theorem dX10_penceOf_31 : decode cX10_penceOf 31 = .ok (.istore_n 2, 1) := by decide +kernel
theorem dX10_penceOf_32 : decode cX10_penceOf 32 = .ok (.iinc 3 1, 3) := by decide +kernel
theorem dX10_penceOf_35 : decode cX10_penceOf 35 = .ok (.goto (-31), 3) := by decide +kernel
theorem dX10_penceOf_38 : decode cX10_penceOf 38 = .ok (.iload_n 2, 1) := by decide +kernel
theorem dX10_penceOf_39 : decode cX10_penceOf 39 = .ok (.ireturn, 1) := by decide +kernel
def fX10_penceOf_b32 (K4 : Int32 → Int32 → Int32 → mS → Option Int32) (y1 : Int32) (y2 : Int32) (y3 : Int32) (s : mS) : Option Int32 :=
  bnd (y3 + 1) fun v3 =>
  K4 y1 y2 v3 s

def fX10_penceOf_b4 : Nat → Int32 → Int32 → Int32 → mS → Option Int32
  | 0, _, _, _, _ => none
  | k + 1, y1, y2, y3, s =>
    if (gI s (iM_size 0)) ≤ y3 then
      some y2
    else
      if (y1 &&& ((1 : Int32) <<< (y3 &&& 31))) = 0 then
        fX10_penceOf_b32 (fun u0 u1 u2 u3 => fX10_penceOf_b4 k u0 u1 u2 u3) y1 y2 y3 s
      else
        ldA s aT_prices 8 y3 fun v4 =>
        bnd (y2 + v4) fun v5 =>
        fX10_penceOf_b32 (fun u0 u1 u2 u3 => fX10_penceOf_b4 k u0 u1 u2 u3) y1 v5 y3 s

def fX10_penceOf (x1 : Int32) (s : mS) : Option Int32 :=
  bnd 0 fun v1 =>
  bnd 0 fun v2 =>
  fX10_penceOf_b4 mFu x1 v1 v2 s

set_option maxRecDepth 20000 in
theorem wX10_penceOf_b32 {ρ : mRo} {d : Nat} {P : mPo} {V : mS → List mE} (hV : mView LC V)  {res : Int32} {s : mS} {K4 : Int32 → Int32 → Int32 → mS → Option Int32} (hK4 : ∀ (y1 : Int32) (y2 : Int32) (y3 : Int32), K4 y1 y2 y3 s = some res → mG ρ (mC ρ d) 10 4 cX10_penceOf (some .int) P 4 [(0, .ref qT), (1, .int y1), (2, .int y2), (3, .int y3)] [] (V s)) (hP : P (some (.int res)) (V s)) (y1 : Int32) (y2 : Int32) (y3 : Int32) (hf : fX10_penceOf_b32 K4 y1 y2 y3 s = some res) : mG ρ (mC ρ d) 10 4 cX10_penceOf (some .int) P 32 [(0, .ref qT), (1, .int y1), (2, .int y2), (3, .int y3)] [] (V s) := by
  unfold fX10_penceOf_b32 at hf
  refine e_iinc 3 dX10_penceOf_32 rfl rfl hf (fun v3 hf => ?_)
  refine e_goto 4 dX10_penceOf_35 (by decide) ?_
  refine e_pick [1, 2, 3, 0] rfl ?_
  exact hK4 y1 y2 v3 hf
set_option maxRecDepth 20000 in
theorem wX10_penceOf_b4 {ρ : mRo} {d : Nat} {P : mPo} {V : mS → List mE} (hV : mView LC V)  {res : Int32} {s : mS} (hP : P (some (.int res)) (V s)) : ∀ (k : Nat) (y1 : Int32) (y2 : Int32) (y3 : Int32), fX10_penceOf_b4 k y1 y2 y3 s = some res → mG ρ (mC ρ d) 10 4 cX10_penceOf (some .int) P 4 [(0, .ref qT), (1, .int y1), (2, .int y2), (3, .int y3)] [] (V s) := by
  intro k
  induction k with
  | zero => intro y1 y2 y3 hf; rw [fX10_penceOf_b4] at hf; cases hf
  | succ k ih =>
    intro y1 y2 y3 hf
    rw [fX10_penceOf_b4] at hf
    refine e_iload_n 3 dX10_penceOf_4 rfl rfl ?_
    refine e_aload_n 0 dX10_penceOf_5 rfl rfl ?_
    refine e_getr hV dX10_penceOf_6 rfl lc_T rfl ?_
    refine e_geti hV dX10_penceOf_9 rfl (lc_M (by decide)) rfl ?_
    refine e_icmp_ge 38 dX10_penceOf_12 (by decide) hf (fun hf => ?_) (fun hf => ?_)
    · refine e_iload_n 2 dX10_penceOf_38 rfl rfl ?_
      cases hf
      exact e_iret dX10_penceOf_39 trivial hP
    · refine e_iload_n 1 dX10_penceOf_15 rfl rfl ?_
      refine e_iconst (w := 1) dX10_penceOf_16 (by decide) ?_
      refine e_iload_n 3 dX10_penceOf_17 rfl rfl ?_
      refine e_ishl dX10_penceOf_18 ?_
      refine e_iand dX10_penceOf_19 ?_
      refine e_if_eq 32 dX10_penceOf_20 (by decide) hf (fun hf => ?_) (fun hf => ?_)
      · refine e_pick [0, 1, 2, 3] rfl ?_
        exact wX10_penceOf_b32 hV ih hP y1 y2 y3 hf
      · refine e_iload_n 2 dX10_penceOf_23 rfl rfl ?_
        refine e_aload_n 0 dX10_penceOf_24 rfl rfl ?_
        refine e_getr hV dX10_penceOf_25 rfl lc_T rfl ?_
        refine e_iload_n 3 dX10_penceOf_28 rfl rfl ?_
        refine e_iald hV dX10_penceOf_29 lc_T_prices hf (fun v4 hf => ?_)
        refine e_iadd dX10_penceOf_30 ?_
        refine e_istore_n dX10_penceOf_31 rfl (by decide) hf (fun v5 hf => ?_)
        refine e_pick [1, 2, 0, 3] rfl ?_
        exact wX10_penceOf_b32 hV ih hP y1 v5 y3 hf
set_option maxRecDepth 20000 in
theorem tX10_penceOf {ρ : mRo} {d : Nat} {P : mPo} {V : mS → List mE} (hV : mView LC V)  {x1 : Int32} {s : mS} {res : Int32} (hf : fX10_penceOf x1 s = some res) (hP : P (some (.int res)) (V s)) : mC ρ (d + 1) 136 [.ref qT, .int x1] (V s) P := by
  refine ⟨_, rfl, Nat.le_of_ble_eq_true rfl, by decide, ?_⟩
  show mG ρ (mC ρ d) 10 4 cX10_penceOf (some .int) P 0 [(0, .ref qT), (1, .int x1)] [] (V s)
  unfold fX10_penceOf at hf
  refine e_iconst (w := 0) dX10_penceOf_0 (by decide) ?_
  refine e_istore_n dX10_penceOf_1 rfl (by decide) hf (fun v1 hf => ?_)
  refine e_iconst (w := 0) dX10_penceOf_2 (by decide) ?_
  refine e_istore_n dX10_penceOf_3 rfl (by decide) hf (fun v2 hf => ?_)
  refine e_pick [2, 3, 1, 0] rfl ?_
  exact wX10_penceOf_b4 hV hP mFu x1 v1 v2 hf

theorem dX10_buy_0 : decode cX10_buy 0 = .ok (.iload_n 1, 1) := by decide +kernel
theorem dX10_buy_1 : decode cX10_buy 1 = .ok (.ifCond .lt 19, 3) := by decide +kernel
theorem dX10_buy_4 : decode cX10_buy 4 = .ok (.iload_n 1, 1) := by decide +kernel
theorem dX10_buy_5 : decode cX10_buy 5 = .ok (.sipush 999, 3) := by decide +kernel
theorem dX10_buy_8 : decode cX10_buy 8 = .ok (.if_icmp .gt 12, 3) := by decide +kernel
theorem dX10_buy_11 : decode cX10_buy 11 = .ok (.iload_n 2, 1) := by decide +kernel
theorem dX10_buy_12 : decode cX10_buy 12 = .ok (.ifCond .lt 8, 3) := by decide +kernel
theorem dX10_buy_15 : decode cX10_buy 15 = .ok (.iload_n 2, 1) := by decide +kernel
theorem dX10_buy_16 : decode cX10_buy 16 = .ok (.iconst 1, 1) := by decide +kernel
theorem dX10_buy_17 : decode cX10_buy 17 = .ok (.if_icmp .le 5, 3) := by decide +kernel
theorem dX10_buy_20 : decode cX10_buy 20 = .ok (.iconst (-1), 1) := by decide +kernel
theorem dX10_buy_21 : decode cX10_buy 21 = .ok (.ireturn, 1) := by decide +kernel
theorem dX10_buy_22 : decode cX10_buy 22 = .ok (.iconst 0, 1) := by decide +kernel
theorem dX10_buy_23 : decode cX10_buy 23 = .ok (.istore_n 3, 1) := by decide +kernel
theorem dX10_buy_24 : decode cX10_buy 24 = .ok (.iload_n 3, 1) := by decide +kernel
theorem dX10_buy_25 : decode cX10_buy 25 = .ok (.aload_n 0, 1) := by decide +kernel
theorem dX10_buy_26 : decode cX10_buy 26 = .ok (.getfield 10, 3) := by decide +kernel
theorem dX10_buy_29 : decode cX10_buy 29 = .ok (.getfield 216, 3) := by decide +kernel
theorem dX10_buy_32 : decode cX10_buy 32 = .ok (.if_icmp .ge 20, 3) := by decide +kernel
theorem dX10_buy_35 : decode cX10_buy 35 = .ok (.aload_n 0, 1) := by decide +kernel
theorem dX10_buy_36 : decode cX10_buy 36 = .ok (.getfield 78, 3) := by decide +kernel
theorem dX10_buy_39 : decode cX10_buy 39 = .ok (.iload_n 3, 1) := by decide +kernel
theorem dX10_buy_40 : decode cX10_buy 40 = .ok (.aload_n 0, 1) := by decide +kernel
theorem dX10_buy_41 : decode cX10_buy 41 = .ok (.iload_n 3, 1) := by decide +kernel
theorem dX10_buy_42 : decode cX10_buy 42 = .ok (.invokevirtual 271, 3) := by decide +kernel
theorem dX10_buy_45 : decode cX10_buy 45 = .ok (.iastore, 1) := by decide +kernel
theorem dX10_buy_46 : decode cX10_buy 46 = .ok (.iinc 3 1, 3) := by decide +kernel
theorem dX10_buy_49 : decode cX10_buy 49 = .ok (.goto (-25), 3) := by decide +kernel
theorem dX10_buy_52 : decode cX10_buy 52 = .ok (.iconst 0, 1) := by decide +kernel
theorem dX10_buy_53 : decode cX10_buy 53 = .ok (.istore_n 3, 1) := by decide +kernel
theorem dX10_buy_54 : decode cX10_buy 54 = .ok (.iconst 0, 1) := by decide +kernel
theorem dX10_buy_55 : decode cX10_buy 55 = .ok (.istore 4, 2) := by decide +kernel
theorem dX10_buy_57 : decode cX10_buy 57 = .ok (.iconst 1, 1) := by decide +kernel
theorem dX10_buy_58 : decode cX10_buy 58 = .ok (.istore 5, 2) := by decide +kernel
theorem dX10_buy_60 : decode cX10_buy 60 = .ok (.iload 5, 2) := by decide +kernel
theorem dX10_buy_62 : decode cX10_buy 62 = .ok (.iconst 1, 1) := by decide +kernel
theorem dX10_buy_63 : decode cX10_buy 63 = .ok (.aload_n 0, 1) := by decide +kernel
theorem dX10_buy_64 : decode cX10_buy 64 = .ok (.getfield 10, 3) := by decide +kernel
theorem dX10_buy_67 : decode cX10_buy 67 = .ok (.getfield 216, 3) := by decide +kernel
theorem dX10_buy_70 : decode cX10_buy 70 = .ok (.ishl, 1) := by decide +kernel
theorem dX10_buy_71 : decode cX10_buy 71 = .ok (.if_icmp .ge 59, 3) := by decide +kernel
theorem dX10_buy_74 : decode cX10_buy 74 = .ok (.aload_n 0, 1) := by decide +kernel
theorem dX10_buy_75 : decode cX10_buy 75 = .ok (.iload 5, 2) := by decide +kernel
theorem dX10_buy_77 : decode cX10_buy 77 = .ok (.invokevirtual 274, 3) := by decide +kernel
theorem dX10_buy_80 : decode cX10_buy 80 = .ok (.istore 6, 2) := by decide +kernel
theorem dX10_buy_82 : decode cX10_buy 82 = .ok (.iload 5, 2) := by decide +kernel
theorem dX10_buy_84 : decode cX10_buy 84 = .ok (.invokestatic 246, 3) := by decide +kernel
theorem dX10_buy_87 : decode cX10_buy 87 = .ok (.iload_n 3, 1) := by decide +kernel
theorem dX10_buy_88 : decode cX10_buy 88 = .ok (.invokestatic 246, 3) := by decide +kernel
theorem dX10_buy_91 : decode cX10_buy 91 = .ok (.isub, 1) := by decide +kernel
theorem dX10_buy_92 : decode cX10_buy 92 = .ok (.istore 7, 2) := by decide +kernel
theorem dX10_buy_94 : decode cX10_buy 94 = .ok (.iload 6, 2) := by decide +kernel
theorem dX10_buy_96 : decode cX10_buy 96 = .ok (.iload_n 1, 1) := by decide +kernel
theorem dX10_buy_97 : decode cX10_buy 97 = .ok (.if_icmp .gt 27, 3) := by decide +kernel
theorem dX10_buy_100 : decode cX10_buy 100 = .ok (.iload 7, 2) := by decide +kernel
theorem dX10_buy_102 : decode cX10_buy 102 = .ok (.ifCond .gt 15, 3) := by decide +kernel
theorem dX10_buy_105 : decode cX10_buy 105 = .ok (.iload 7, 2) := by decide +kernel
theorem dX10_buy_107 : decode cX10_buy 107 = .ok (.ifCond .ne 17, 3) := by decide +kernel
theorem dX10_buy_110 : decode cX10_buy 110 = .ok (.iload 6, 2) := by decide +kernel
theorem dX10_buy_112 : decode cX10_buy 112 = .ok (.iload 4, 2) := by decide +kernel
theorem dX10_buy_114 : decode cX10_buy 114 = .ok (.if_icmp .ge 10, 3) := by decide +kernel
theorem dX10_buy_117 : decode cX10_buy 117 = .ok (.iload 5, 2) := by decide +kernel
theorem dX10_buy_119 : decode cX10_buy 119 = .ok (.istore_n 3, 1) := by decide +kernel
theorem dX10_buy_120 : decode cX10_buy 120 = .ok (.iload 6, 2) := by decide +kernel
theorem dX10_buy_122 : decode cX10_buy 122 = .ok (.istore 4, 2) := by decide +kernel
theorem dX10_buy_124 : decode cX10_buy 124 = .ok (.iinc 5 1, 3) := by decide +kernel
theorem dX10_buy_127 : decode cX10_buy 127 = .ok (.goto (-67), 3) := by decide +kernel
theorem dX10_buy_130 : decode cX10_buy 130 = .ok (.iload_n 2, 1) := by decide +kernel
theorem dX10_buy_131 : decode cX10_buy 131 = .ok (.ifCond .ne 10, 3) := by decide +kernel
theorem dX10_buy_134 : decode cX10_buy 134 = .ok (.iload_n 3, 1) := by decide +kernel
theorem dX10_buy_135 : decode cX10_buy 135 = .ok (.invokestatic 246, 3) := by decide +kernel
theorem dX10_buy_138 : decode cX10_buy 138 = .ok (.goto 4, 3) := by decide +kernel
theorem dX10_buy_141 : decode cX10_buy 141 = .ok (.iload_n 3, 1) := by decide +kernel
theorem dX10_buy_142 : decode cX10_buy 142 = .ok (.ireturn, 1) := by decide +kernel
def fX10_buy_b124 (K60 : Int32 → Int32 → Int32 → Int32 → Int32 → mS → Option (Int32 × mS)) (y1 : Int32) (y2 : Int32) (y3 : Int32) (y4 : Int32) (y5 : Int32) (s : mS) : Option (Int32 × mS) :=
  bnd (y5 + 1) fun v11 =>
  K60 y1 y2 y3 y4 v11 s

def fX10_buy_b117 (K60 : Int32 → Int32 → Int32 → Int32 → Int32 → mS → Option (Int32 × mS)) (y1 : Int32) (y2 : Int32) (y5 : Int32) (y6 : Int32) (s : mS) : Option (Int32 × mS) :=
  bnd y5 fun v12 =>
  bnd y6 fun v13 =>
  fX10_buy_b124 K60 y1 y2 v12 v13 y5 s

def fX10_buy_b60 : Nat → Int32 → Int32 → Int32 → Int32 → Int32 → mS → Option (Int32 × mS)
  | 0, _, _, _, _, _, _ => none
  | k + 1, y1, y2, y3, y4, y5, s =>
    if ((1 : Int32) <<< ((gI s (iM_size 0)) &&& 31)) ≤ y5 then
      if y2 = 0 then
        bO (fJ6_bitCount_0f7a4 y3 s) fun r5 =>
        some (r5, s)
      else
        some (y3, s)
    else
      bO (fX10_penceOf y5 s) fun r6 =>
      bnd r6 fun v7 =>
      bO (fJ6_bitCount_0f7a4 y5 s) fun r8 =>
      bO (fJ6_bitCount_0f7a4 y3 s) fun r9 =>
      bnd (r8 - r9) fun v10 =>
      if y1 < v7 then
        fX10_buy_b124 (fun u0 u1 u2 u3 u4 u5 => fX10_buy_b60 k u0 u1 u2 u3 u4 u5) y1 y2 y3 y4 y5 s
      else
        if 0 < v10 then
          fX10_buy_b117 (fun u0 u1 u2 u3 u4 u5 => fX10_buy_b60 k u0 u1 u2 u3 u4 u5) y1 y2 y5 v7 s
        else
          if v10 = 0 then
            if y4 ≤ v7 then
              fX10_buy_b124 (fun u0 u1 u2 u3 u4 u5 => fX10_buy_b60 k u0 u1 u2 u3 u4 u5) y1 y2 y3 y4 y5 s
            else
              fX10_buy_b117 (fun u0 u1 u2 u3 u4 u5 => fX10_buy_b60 k u0 u1 u2 u3 u4 u5) y1 y2 y5 v7 s
          else
            fX10_buy_b124 (fun u0 u1 u2 u3 u4 u5 => fX10_buy_b60 k u0 u1 u2 u3 u4 u5) y1 y2 y3 y4 y5 s

def fX10_buy_b24 : Nat → Int32 → Int32 → Int32 → mS → Option (Int32 × mS)
  | 0, _, _, _, _ => none
  | k + 1, y1, y2, y3, s =>
    if (gI s (iM_size 0)) ≤ y3 then
      bnd 0 fun v2 =>
      bnd 0 fun v3 =>
      bnd 1 fun v4 =>
      fX10_buy_b60 mFu y1 y2 v2 v3 v4 s
    else
      bO (fX10_pence y3 s) fun r14 =>
      stA s aT_prices 8 y3 r14 fun s15 =>
      bnd (y3 + 1) fun v16 =>
      fX10_buy_b24 k y1 y2 v16 s15

def fX10_buy (x1 : Int32) (x2 : Int32) (s : mS) : Option (Int32 × mS) :=
  if x1 < 0 then
    some ((-1), s)
  else
    if 999 < x1 then
      some ((-1), s)
    else
      if x2 < 0 then
        some ((-1), s)
      else
        if x2 ≤ 1 then
          bnd 0 fun v1 =>
          fX10_buy_b24 mFu x1 x2 v1 s
        else
          some ((-1), s)

set_option maxRecDepth 20000 in
theorem wX10_buy_b124 {ρ : mRo} {d : Nat} {P : mPo} {V : mS → List mE} (hV : mView LC V)  {res : (Int32 × mS)} {K60 : Int32 → Int32 → Int32 → Int32 → Int32 → mS → Option (Int32 × mS)} (hK60 : ∀ (y1 : Int32) (y2 : Int32) (y3 : Int32) (y4 : Int32) (y5 : Int32) (s : mS), K60 y1 y2 y3 y4 y5 s = some res → mG ρ (mC ρ (d + 4)) 10 8 cX10_buy (some .int) P 60 [(0, .ref qT), (1, .int y1), (2, .int y2), (3, .int y3), (4, .int y4), (5, .int y5)] [] (V s)) (hP : P (some (.int res.1)) (V res.2)) (y1 : Int32) (y2 : Int32) (y3 : Int32) (y4 : Int32) (y5 : Int32) (s : mS) (hf : fX10_buy_b124 K60 y1 y2 y3 y4 y5 s = some res) : mG ρ (mC ρ (d + 4)) 10 8 cX10_buy (some .int) P 124 [(0, .ref qT), (1, .int y1), (2, .int y2), (3, .int y3), (4, .int y4), (5, .int y5)] [] (V s) := by
  unfold fX10_buy_b124 at hf
  refine e_iinc 5 dX10_buy_124 rfl rfl hf (fun v11 hf => ?_)
  refine e_goto 60 dX10_buy_127 (by decide) ?_
  refine e_pick [1, 2, 3, 4, 5, 0] rfl ?_
  exact hK60 y1 y2 y3 y4 v11 s hf
set_option maxRecDepth 20000 in
theorem wX10_buy_b117 {ρ : mRo} {d : Nat} {P : mPo} {V : mS → List mE} (hV : mView LC V)  {res : (Int32 × mS)} {K60 : Int32 → Int32 → Int32 → Int32 → Int32 → mS → Option (Int32 × mS)} (hK60 : ∀ (y1 : Int32) (y2 : Int32) (y3 : Int32) (y4 : Int32) (y5 : Int32) (s : mS), K60 y1 y2 y3 y4 y5 s = some res → mG ρ (mC ρ (d + 4)) 10 8 cX10_buy (some .int) P 60 [(0, .ref qT), (1, .int y1), (2, .int y2), (3, .int y3), (4, .int y4), (5, .int y5)] [] (V s)) (hP : P (some (.int res.1)) (V res.2)) (y1 : Int32) (y2 : Int32) (y5 : Int32) (y6 : Int32) (s : mS) (hf : fX10_buy_b117 K60 y1 y2 y5 y6 s = some res) : mG ρ (mC ρ (d + 4)) 10 8 cX10_buy (some .int) P 117 [(0, .ref qT), (1, .int y1), (2, .int y2), (5, .int y5), (6, .int y6)] [] (V s) := by
  unfold fX10_buy_b117 at hf
  refine e_iload 3 dX10_buy_117 rfl ?_
  refine e_istore_n dX10_buy_119 rfl (by decide) hf (fun v12 hf => ?_)
  refine e_iload 5 dX10_buy_120 rfl ?_
  refine e_istore dX10_buy_122 (by decide) hf (fun v13 hf => ?_)
  refine e_pick [2, 3, 4, 1, 0, 5] rfl ?_
  exact wX10_buy_b124 hV hK60 hP y1 y2 v12 v13 y5 s hf
set_option maxRecDepth 20000 in
theorem wX10_buy_b60 {ρ : mRo} {d : Nat} {P : mPo} {V : mS → List mE} (hV : mView LC V)  {res : (Int32 × mS)} (hP : P (some (.int res.1)) (V res.2)) : ∀ (k : Nat) (y1 : Int32) (y2 : Int32) (y3 : Int32) (y4 : Int32) (y5 : Int32) (s : mS), fX10_buy_b60 k y1 y2 y3 y4 y5 s = some res → mG ρ (mC ρ (d + 4)) 10 8 cX10_buy (some .int) P 60 [(0, .ref qT), (1, .int y1), (2, .int y2), (3, .int y3), (4, .int y4), (5, .int y5)] [] (V s) := by
  intro k
  induction k with
  | zero => intro y1 y2 y3 y4 y5 s hf; rw [fX10_buy_b60] at hf; cases hf
  | succ k ih =>
    intro y1 y2 y3 y4 y5 s hf
    rw [fX10_buy_b60] at hf
    refine e_iload 5 dX10_buy_60 rfl ?_
    refine e_iconst (w := 1) dX10_buy_62 (by decide) ?_
    refine e_aload_n 0 dX10_buy_63 rfl rfl ?_
    refine e_getr hV dX10_buy_64 rfl lc_T rfl ?_
    refine e_geti hV dX10_buy_67 rfl (lc_M (by decide)) rfl ?_
    refine e_ishl dX10_buy_70 ?_
    refine e_icmp_ge 130 dX10_buy_71 (by decide) hf (fun hf => ?_) (fun hf => ?_)
    · refine e_iload_n 2 dX10_buy_130 rfl rfl ?_
      refine e_if_ne 141 dX10_buy_131 (by decide) hf (fun hf => ?_) (fun hf => ?_)
      · refine e_iload_n 3 dX10_buy_141 rfl rfl ?_
        cases hf
        exact e_iret dX10_buy_142 trivial hP
      · refine e_iload_n 3 dX10_buy_134 rfl rfl ?_
        obtain ⟨r5, hg, hf⟩ := bO_some hf
        refine e_callS (as := [.int y3]) (v := (some (.int r5))) (s' := s) dX10_buy_135 rfl rfl rfl rfl rfl (Nat.le_of_ble_eq_true rfl) (fun Q hQ => tJ6_bitCount_0f7a4 (d := (d + 3)) hV  hg hQ) ?_
        refine e_goto 142 dX10_buy_138 (by decide) ?_
        cases hf
        exact e_iret dX10_buy_142 trivial hP
    · refine e_aload_n 0 dX10_buy_74 rfl rfl ?_
      refine e_iload 5 dX10_buy_75 rfl ?_
      obtain ⟨r6, hg, hf⟩ := bO_some hf
      refine e_callV (as := [.int y5]) (v := (some (.int r6))) (s' := s) hV dX10_buy_77 (Or.inl rfl) rfl rfl rfl rfl (Nat.le_of_ble_eq_true rfl) lc_T rfl rfl (fun Q hQ => tX10_penceOf (d := (d + 3)) hV  hg hQ) ?_
      refine e_istore dX10_buy_80 (by decide) hf (fun v7 hf => ?_)
      refine e_iload 6 dX10_buy_82 rfl ?_
      obtain ⟨r8, hg, hf⟩ := bO_some hf
      refine e_callS (as := [.int y5]) (v := (some (.int r8))) (s' := s) dX10_buy_84 rfl rfl rfl rfl rfl (Nat.le_of_ble_eq_true rfl) (fun Q hQ => tJ6_bitCount_0f7a4 (d := (d + 3)) hV  hg hQ) ?_
      refine e_iload_n 4 dX10_buy_87 rfl rfl ?_
      obtain ⟨r9, hg, hf⟩ := bO_some hf
      refine e_callS (as := [.int y3]) (v := (some (.int r9))) (s' := s) dX10_buy_88 rfl rfl rfl rfl rfl (Nat.le_of_ble_eq_true rfl) (fun Q hQ => tJ6_bitCount_0f7a4 (d := (d + 3)) hV  hg hQ) ?_
      refine e_isub dX10_buy_91 ?_
      refine e_istore dX10_buy_92 (by decide) hf (fun v10 hf => ?_)
      refine e_iload 1 dX10_buy_94 rfl ?_
      refine e_iload_n 3 dX10_buy_96 rfl rfl ?_
      refine e_icmp_gt 124 dX10_buy_97 (by decide) hf (fun hf => ?_) (fun hf => ?_)
      · refine e_pick [2, 3, 4, 5, 6, 7] rfl ?_
        exact wX10_buy_b124 hV ih hP y1 y2 y3 y4 y5 s hf
      · refine e_iload 0 dX10_buy_100 rfl ?_
        refine e_if_gt 117 dX10_buy_102 (by decide) hf (fun hf => ?_) (fun hf => ?_)
        · refine e_pick [2, 3, 4, 7, 1] rfl ?_
          exact wX10_buy_b117 hV ih hP y1 y2 y5 v7 s hf
        · refine e_iload 0 dX10_buy_105 rfl ?_
          refine e_if_ne 124 dX10_buy_107 (by decide) hf (fun hf => ?_) (fun hf => ?_)
          · refine e_pick [2, 3, 4, 5, 6, 7] rfl ?_
            exact wX10_buy_b124 hV ih hP y1 y2 y3 y4 y5 s hf
          · refine e_iload 1 dX10_buy_110 rfl ?_
            refine e_iload 6 dX10_buy_112 rfl ?_
            refine e_icmp_ge 124 dX10_buy_114 (by decide) hf (fun hf => ?_) (fun hf => ?_)
            · refine e_pick [2, 3, 4, 5, 6, 7] rfl ?_
              exact wX10_buy_b124 hV ih hP y1 y2 y3 y4 y5 s hf
            · refine e_pick [2, 3, 4, 7, 1] rfl ?_
              exact wX10_buy_b117 hV ih hP y1 y2 y5 v7 s hf
set_option maxRecDepth 20000 in
theorem wX10_buy_b24 {ρ : mRo} {d : Nat} {P : mPo} {V : mS → List mE} (hV : mView LC V)  {res : (Int32 × mS)} (hP : P (some (.int res.1)) (V res.2)) : ∀ (k : Nat) (y1 : Int32) (y2 : Int32) (y3 : Int32) (s : mS), fX10_buy_b24 k y1 y2 y3 s = some res → mG ρ (mC ρ (d + 4)) 10 8 cX10_buy (some .int) P 24 [(0, .ref qT), (1, .int y1), (2, .int y2), (3, .int y3)] [] (V s) := by
  intro k
  induction k with
  | zero => intro y1 y2 y3 s hf; rw [fX10_buy_b24] at hf; cases hf
  | succ k ih =>
    intro y1 y2 y3 s hf
    rw [fX10_buy_b24] at hf
    refine e_iload_n 3 dX10_buy_24 rfl rfl ?_
    refine e_aload_n 0 dX10_buy_25 rfl rfl ?_
    refine e_getr hV dX10_buy_26 rfl lc_T rfl ?_
    refine e_geti hV dX10_buy_29 rfl (lc_M (by decide)) rfl ?_
    refine e_icmp_ge 52 dX10_buy_32 (by decide) hf (fun hf => ?_) (fun hf => ?_)
    · refine e_iconst (w := 0) dX10_buy_52 (by decide) ?_
      refine e_istore_n dX10_buy_53 rfl (by decide) hf (fun v2 hf => ?_)
      refine e_iconst (w := 0) dX10_buy_54 (by decide) ?_
      refine e_istore dX10_buy_55 (by decide) hf (fun v3 hf => ?_)
      refine e_iconst (w := 1) dX10_buy_57 (by decide) ?_
      refine e_istore dX10_buy_58 (by decide) hf (fun v4 hf => ?_)
      refine e_pick [3, 4, 5, 2, 1, 0] rfl ?_
      exact wX10_buy_b60 hV hP mFu y1 y2 v2 v3 v4 s hf
    · refine e_aload_n 0 dX10_buy_35 rfl rfl ?_
      refine e_getr hV dX10_buy_36 rfl lc_T rfl ?_
      refine e_iload_n 3 dX10_buy_39 rfl rfl ?_
      refine e_aload_n 0 dX10_buy_40 rfl rfl ?_
      refine e_iload_n 3 dX10_buy_41 rfl rfl ?_
      obtain ⟨r14, hg, hf⟩ := bO_some hf
      refine e_callV (as := [.int y3]) (v := (some (.int r14))) (s' := s) hV dX10_buy_42 (Or.inl rfl) rfl rfl rfl rfl (Nat.le_of_ble_eq_true rfl) lc_T rfl rfl (fun Q hQ => tX10_pence (d := d) hV  hg hQ) ?_
      refine e_iast hV dX10_buy_45 lc_T_prices hf (fun s15 hf => ?_)
      refine e_iinc 3 dX10_buy_46 rfl rfl hf (fun v16 hf => ?_)
      refine e_goto 24 dX10_buy_49 (by decide) ?_
      refine e_pick [1, 2, 3, 0] rfl ?_
      exact ih y1 y2 v16 s15 hf
set_option maxRecDepth 20000 in
theorem tX10_buy {ρ : mRo} {d : Nat} {P : mPo} {V : mS → List mE} (hV : mView LC V)  {x1 : Int32} {x2 : Int32} {s : mS} {res : (Int32 × mS)} (hf : fX10_buy x1 x2 s = some res) (hP : P (some (.int res.1)) (V res.2)) : mC ρ (d + 5) 90 [.ref qT, .int x1, .int x2] (V s) P := by
  refine ⟨_, rfl, Nat.le_of_ble_eq_true rfl, by decide, ?_⟩
  show mG ρ (mC ρ (d + 4)) 10 8 cX10_buy (some .int) P 0 [(0, .ref qT), (1, .int x1), (2, .int x2)] [] (V s)
  unfold fX10_buy at hf
  refine e_iload_n 1 dX10_buy_0 rfl rfl ?_
  refine e_if_lt 20 dX10_buy_1 (by decide) hf (fun hf => ?_) (fun hf => ?_)
  · refine e_iconst (w := (-1)) dX10_buy_20 (by decide) ?_
    cases hf
    exact e_iret dX10_buy_21 trivial hP
  · refine e_iload_n 1 dX10_buy_4 rfl rfl ?_
    refine e_sipush (w := 999) dX10_buy_5 (by decide) ?_
    refine e_icmp_gt 20 dX10_buy_8 (by decide) hf (fun hf => ?_) (fun hf => ?_)
    · refine e_iconst (w := (-1)) dX10_buy_20 (by decide) ?_
      cases hf
      exact e_iret dX10_buy_21 trivial hP
    · refine e_iload_n 2 dX10_buy_11 rfl rfl ?_
      refine e_if_lt 20 dX10_buy_12 (by decide) hf (fun hf => ?_) (fun hf => ?_)
      · refine e_iconst (w := (-1)) dX10_buy_20 (by decide) ?_
        cases hf
        exact e_iret dX10_buy_21 trivial hP
      · refine e_iload_n 2 dX10_buy_15 rfl rfl ?_
        refine e_iconst (w := 1) dX10_buy_16 (by decide) ?_
        refine e_icmp_le 22 dX10_buy_17 (by decide) hf (fun hf => ?_) (fun hf => ?_)
        · refine e_iconst (w := 0) dX10_buy_22 (by decide) ?_
          refine e_istore_n dX10_buy_23 rfl (by decide) hf (fun v1 hf => ?_)
          refine e_pick [1, 2, 3, 0] rfl ?_
          exact wX10_buy_b24 hV hP mFu x1 x2 v1 s hf
        · refine e_iconst (w := (-1)) dX10_buy_20 (by decide) ?_
          cases hf
          exact e_iret dX10_buy_21 trivial hP

theorem dX10_allApart_0 : decode cX10_allApart 0 = .ok (.iconst 0, 1) := by decide +kernel
theorem dX10_allApart_1 : decode cX10_allApart 1 = .ok (.istore_n 2, 1) := by decide +kernel
theorem dX10_allApart_2 : decode cX10_allApart 2 = .ok (.iconst 0, 1) := by decide +kernel
theorem dX10_allApart_3 : decode cX10_allApart 3 = .ok (.istore_n 3, 1) := by decide +kernel
theorem dX10_allApart_4 : decode cX10_allApart 4 = .ok (.iload_n 3, 1) := by decide +kernel
theorem dX10_allApart_5 : decode cX10_allApart 5 = .ok (.aload_n 0, 1) := by decide +kernel
theorem dX10_allApart_6 : decode cX10_allApart 6 = .ok (.getfield 22, 3) := by decide +kernel
theorem dX10_allApart_9 : decode cX10_allApart 9 = .ok (.getfield 215, 3) := by decide +kernel
theorem dX10_allApart_12 : decode cX10_allApart 12 = .ok (.if_icmp .ge 38, 3) := by decide +kernel
theorem dX10_allApart_15 : decode cX10_allApart 15 = .ok (.iconst 0, 1) := by decide +kernel
theorem dX10_allApart_16 : decode cX10_allApart 16 = .ok (.istore 4, 2) := by decide +kernel
theorem dX10_allApart_18 : decode cX10_allApart 18 = .ok (.iload 4, 2) := by decide +kernel
theorem dX10_allApart_20 : decode cX10_allApart 20 = .ok (.aload_n 1, 1) := by decide +kernel
theorem dX10_allApart_21 : decode cX10_allApart 21 = .ok (.getfield 216, 3) := by decide +kernel
theorem dX10_allApart_24 : decode cX10_allApart 24 = .ok (.if_icmp .ge 20, 3) := by decide +kernel
theorem dX10_allApart_27 : decode cX10_allApart 27 = .ok (.iload_n 2, 1) := by decide +kernel
theorem dX10_allApart_28 : decode cX10_allApart 28 = .ok (.aload_n 0, 1) := by decide +kernel
theorem dX10_allApart_29 : decode cX10_allApart 29 = .ok (.aload_n 1, 1) := by decide +kernel
theorem dX10_allApart_30 : decode cX10_allApart 30 = .ok (.iload_n 3, 1) := by decide +kernel
theorem dX10_allApart_31 : decode cX10_allApart 31 = .ok (.iload 4, 2) := by decide +kernel
theorem dX10_allApart_33 : decode cX10_allApart 33 = .ok (.invokevirtual 205, 3) := by decide +kernel
theorem dX10_allApart_36 : decode cX10_allApart 36 = .ok (.iadd, 1) := by decide +kernel
theorem dX10_allApart_37 : decode cX10_allApart 37 = .ok (.istore_n 2, 1) := by decide +kernel
theorem dX10_allApart_38 : decode cX10_allApart 38 = .ok (.iinc 4 1, 3) := by decide +kernel
theorem dX10_allApart_41 : decode cX10_allApart 41 = .ok (.goto (-23), 3) := by decide +kernel
theorem dX10_allApart_44 : decode cX10_allApart 44 = .ok (.iinc 3 1, 3) := by decide +kernel
theorem dX10_allApart_47 : decode cX10_allApart 47 = .ok (.goto (-43), 3) := by decide +kernel
theorem dX10_allApart_50 : decode cX10_allApart 50 = .ok (.iload_n 2, 1) := by decide +kernel
theorem dX10_allApart_51 : decode cX10_allApart 51 = .ok (.ireturn, 1) := by decide +kernel
def fX10_allApart_b18 (K4 : Nat → Int32 → Int32 → mS → Option Int32) : Nat → Nat → Int32 → Int32 → Int32 → mS → Option Int32
  | 0, _, _, _, _, _ => none
  | k + 1, k1, y2, y3, y4, s =>
    if (gI s (iM_size k1)) ≤ y4 then
      bnd (y3 + 1) fun v4 =>
      K4 k1 y2 v4 s
    else
      bO (fX10_apart k1 y3 y4 s) fun r5 =>
      bnd (y2 + r5) fun v6 =>
      bnd (y4 + 1) fun v7 =>
      fX10_allApart_b18 K4 k k1 v6 y3 v7 s

def fX10_allApart_b4 : Nat → Nat → Int32 → Int32 → mS → Option Int32
  | 0, _, _, _, _ => none
  | k + 1, k1, y2, y3, s =>
    if (gI s (iW_size 0)) ≤ y3 then
      some y2
    else
      bnd 0 fun v3 =>
      fX10_allApart_b18 (fun u0 u1 u2 u3 => fX10_allApart_b4 k u0 u1 u2 u3) mFu k1 y2 y3 v3 s

def fX10_allApart (k1 : Nat) (s : mS) : Option Int32 :=
  bnd 0 fun v1 =>
  bnd 0 fun v2 =>
  fX10_allApart_b4 mFu k1 v1 v2 s

set_option maxRecDepth 20000 in
theorem wX10_allApart_b18 {ρ : mRo} {d : Nat} {P : mPo} {V : mS → List mE} (hV : mView LC V)  {res : Int32} {s : mS} {K4 : Nat → Int32 → Int32 → mS → Option Int32} (hK4 : ∀ (k1 : Nat) (hk1 : k1 < 3) (y2 : Int32) (y3 : Int32), K4 k1 y2 y3 s = some res → mG ρ (mC ρ (d + 2)) 10 5 cX10_allApart (some .int) P 4 [(0, .ref qT), (1, .ref (qM k1)), (2, .int y2), (3, .int y3)] [] (V s)) (hP : P (some (.int res)) (V s)) : ∀ (k : Nat) (k1 : Nat) (hk1 : k1 < 3) (y2 : Int32) (y3 : Int32) (y4 : Int32), fX10_allApart_b18 K4 k k1 y2 y3 y4 s = some res → mG ρ (mC ρ (d + 2)) 10 5 cX10_allApart (some .int) P 18 [(0, .ref qT), (1, .ref (qM k1)), (2, .int y2), (3, .int y3), (4, .int y4)] [] (V s) := by
  intro k
  induction k with
  | zero => intro k1 hk1 y2 y3 y4 hf; rw [fX10_allApart_b18] at hf; cases hf
  | succ k ih =>
    intro k1 hk1 y2 y3 y4 hf
    rw [fX10_allApart_b18] at hf
    refine e_iload 4 dX10_allApart_18 rfl ?_
    refine e_aload_n 1 dX10_allApart_20 rfl rfl ?_
    refine e_geti hV dX10_allApart_21 rfl (lc_M hk1) rfl ?_
    refine e_icmp_ge 44 dX10_allApart_24 (by decide) hf (fun hf => ?_) (fun hf => ?_)
    · refine e_iinc 3 dX10_allApart_44 rfl rfl hf (fun v4 hf => ?_)
      refine e_goto 4 dX10_allApart_47 (by decide) ?_
      refine e_pick [1, 2, 3, 0] rfl ?_
      exact hK4 k1 hk1 y2 v4 hf
    · refine e_iload_n 2 dX10_allApart_27 rfl rfl ?_
      refine e_aload_n 0 dX10_allApart_28 rfl rfl ?_
      refine e_aload_n 1 dX10_allApart_29 rfl rfl ?_
      refine e_iload_n 3 dX10_allApart_30 rfl rfl ?_
      refine e_iload 4 dX10_allApart_31 rfl ?_
      obtain ⟨r5, hg, hf⟩ := bO_some hf
      refine e_callV (as := [.ref (qM k1), .int y3, .int y4]) (v := (some (.int r5))) (s' := s) hV dX10_allApart_33 (Or.inl rfl) rfl rfl rfl rfl (Nat.le_of_ble_eq_true rfl) lc_T rfl rfl (fun Q hQ => tX10_apart (d := d) hV hk1 hg hQ) ?_
      refine e_iadd dX10_allApart_36 ?_
      refine e_istore_n dX10_allApart_37 rfl (by decide) hf (fun v6 hf => ?_)
      refine e_iinc 4 dX10_allApart_38 rfl rfl hf (fun v7 hf => ?_)
      refine e_goto 18 dX10_allApart_41 (by decide) ?_
      refine e_pick [2, 3, 1, 4, 0] rfl ?_
      exact ih k1 hk1 v6 y3 v7 hf
set_option maxRecDepth 20000 in
theorem wX10_allApart_b4 {ρ : mRo} {d : Nat} {P : mPo} {V : mS → List mE} (hV : mView LC V)  {res : Int32} {s : mS} (hP : P (some (.int res)) (V s)) : ∀ (k : Nat) (k1 : Nat) (hk1 : k1 < 3) (y2 : Int32) (y3 : Int32), fX10_allApart_b4 k k1 y2 y3 s = some res → mG ρ (mC ρ (d + 2)) 10 5 cX10_allApart (some .int) P 4 [(0, .ref qT), (1, .ref (qM k1)), (2, .int y2), (3, .int y3)] [] (V s) := by
  intro k
  induction k with
  | zero => intro k1 hk1 y2 y3 hf; rw [fX10_allApart_b4] at hf; cases hf
  | succ k ih =>
    intro k1 hk1 y2 y3 hf
    rw [fX10_allApart_b4] at hf
    refine e_iload_n 3 dX10_allApart_4 rfl rfl ?_
    refine e_aload_n 0 dX10_allApart_5 rfl rfl ?_
    refine e_getr hV dX10_allApart_6 rfl lc_T rfl ?_
    refine e_geti hV dX10_allApart_9 rfl (lc_W (by decide)) rfl ?_
    refine e_icmp_ge 50 dX10_allApart_12 (by decide) hf (fun hf => ?_) (fun hf => ?_)
    · refine e_iload_n 2 dX10_allApart_50 rfl rfl ?_
      cases hf
      exact e_iret dX10_allApart_51 trivial hP
    · refine e_iconst (w := 0) dX10_allApart_15 (by decide) ?_
      refine e_istore dX10_allApart_16 (by decide) hf (fun v3 hf => ?_)
      refine e_pick [1, 2, 3, 4, 0] rfl ?_
      exact wX10_allApart_b18 hV ih hP mFu k1 hk1 y2 y3 v3 hf
set_option maxRecDepth 20000 in
theorem tX10_allApart {ρ : mRo} {d : Nat} {P : mPo} {V : mS → List mE} (hV : mView LC V)  {k1 : Nat} (hk1 : k1 < 3) {s : mS} {res : Int32} (hf : fX10_allApart k1 s = some res) (hP : P (some (.int res)) (V s)) : mC ρ (d + 3) 127 [.ref qT, .ref (qM k1)] (V s) P := by
  refine ⟨_, rfl, Nat.le_of_ble_eq_true rfl, by decide, ?_⟩
  show mG ρ (mC ρ (d + 2)) 10 5 cX10_allApart (some .int) P 0 [(0, .ref qT), (1, .ref (qM k1))] [] (V s)
  unfold fX10_allApart at hf
  refine e_iconst (w := 0) dX10_allApart_0 (by decide) ?_
  refine e_istore_n dX10_allApart_1 rfl (by decide) hf (fun v1 hf => ?_)
  refine e_iconst (w := 0) dX10_allApart_2 (by decide) ?_
  refine e_istore_n dX10_allApart_3 rfl (by decide) hf (fun v2 hf => ?_)
  refine e_pick [2, 3, 1, 0] rfl ?_
  exact wX10_allApart_b4 hV hP mFu k1 hk1 v1 v2 hf

theorem dX10_drawn_0 : decode cX10_drawn 0 = .ok (.iload_n 2, 1) := by decide +kernel
theorem dX10_drawn_1 : decode cX10_drawn 1 = .ok (.bipush 100, 2) := by decide +kernel
theorem dX10_drawn_3 : decode cX10_drawn 3 = .ok (.idiv, 1) := by decide +kernel
theorem dX10_drawn_4 : decode cX10_drawn 4 = .ok (.istore 4, 2) := by decide +kernel
theorem dX10_drawn_6 : decode cX10_drawn 6 = .ok (.iload_n 2, 1) := by decide +kernel
theorem dX10_drawn_7 : decode cX10_drawn 7 = .ok (.bipush 100, 2) := by decide +kernel
theorem dX10_drawn_9 : decode cX10_drawn 9 = .ok (.irem, 1) := by decide +kernel
theorem dX10_drawn_10 : decode cX10_drawn 10 = .ok (.istore 5, 2) := by decide +kernel
theorem dX10_drawn_12 : decode cX10_drawn 12 = .ok (.iload 4, 2) := by decide +kernel
theorem dX10_drawn_14 : decode cX10_drawn 14 = .ok (.iconst 1, 1) := by decide +kernel
theorem dX10_drawn_15 : decode cX10_drawn 15 = .ok (.if_icmp .lt 39, 3) := by decide +kernel
theorem dX10_drawn_18 : decode cX10_drawn 18 = .ok (.iload 4, 2) := by decide +kernel
theorem dX10_drawn_20 : decode cX10_drawn 20 = .ok (.bipush 30, 2) := by decide +kernel
theorem dX10_drawn_22 : decode cX10_drawn 22 = .ok (.if_icmp .gt 32, 3) := by decide +kernel
theorem dX10_drawn_25 : decode cX10_drawn 25 = .ok (.iload 5, 2) := by decide +kernel
theorem dX10_drawn_27 : decode cX10_drawn 27 = .ok (.iconst 1, 1) := by decide +kernel
theorem dX10_drawn_28 : decode cX10_drawn 28 = .ok (.if_icmp .lt 26, 3) := by decide +kernel
theorem dX10_drawn_31 : decode cX10_drawn 31 = .ok (.iload 5, 2) := by decide +kernel
theorem dX10_drawn_33 : decode cX10_drawn 33 = .ok (.bipush 30, 2) := by decide +kernel
theorem dX10_drawn_35 : decode cX10_drawn 35 = .ok (.if_icmp .gt 19, 3) := by decide +kernel
theorem dX10_drawn_38 : decode cX10_drawn 38 = .ok (.iload_n 3, 1) := by decide +kernel
theorem dX10_drawn_39 : decode cX10_drawn 39 = .ok (.iconst (-1), 1) := by decide +kernel
theorem dX10_drawn_40 : decode cX10_drawn 40 = .ok (.if_icmp .eq 16, 3) := by decide +kernel
theorem dX10_drawn_43 : decode cX10_drawn 43 = .ok (.aload_n 0, 1) := by decide +kernel
theorem dX10_drawn_44 : decode cX10_drawn 44 = .ok (.getfield 10, 3) := by decide +kernel
theorem dX10_drawn_47 : decode cX10_drawn 47 = .ok (.iload_n 3, 1) := by decide +kernel
theorem dX10_drawn_48 : decode cX10_drawn 48 = .ok (.invokevirtual 174, 3) := by decide +kernel
theorem dX10_drawn_51 : decode cX10_drawn 51 = .ok (.ifCond .ne 5, 3) := by decide +kernel
theorem dX10_drawn_54 : decode cX10_drawn 54 = .ok (.iconst (-1), 1) := by decide +kernel
theorem dX10_drawn_55 : decode cX10_drawn 55 = .ok (.ireturn, 1) := by decide +kernel
theorem dX10_drawn_56 : decode cX10_drawn 56 = .ok (.aload_n 0, 1) := by decide +kernel
theorem dX10_drawn_57 : decode cX10_drawn 57 = .ok (.getfield 22, 3) := by decide +kernel
theorem dX10_drawn_60 : decode cX10_drawn 60 = .ok (.getfield 215, 3) := by decide +kernel
theorem dX10_drawn_63 : decode cX10_drawn 63 = .ok (.ifCond .eq 13, 3) := by decide +kernel
theorem dX10_drawn_66 : decode cX10_drawn 66 = .ok (.aload_n 0, 1) := by decide +kernel
theorem dX10_drawn_67 : decode cX10_drawn 67 = .ok (.getfield 10, 3) := by decide +kernel
theorem dX10_drawn_70 : decode cX10_drawn 70 = .ok (.getfield 216, 3) := by decide +kernel
theorem dX10_drawn_73 : decode cX10_drawn 73 = .ok (.ifCond .ne 5, 3) := by decide +kernel
theorem dX10_drawn_76 : decode cX10_drawn 76 = .ok (.iconst 0, 1) := by decide +kernel
theorem dX10_drawn_77 : decode cX10_drawn 77 = .ok (.ireturn, 1) := by decide +kernel
theorem dX10_drawn_78 : decode cX10_drawn 78 = .ok (.iload_n 1, 1) := by decide +kernel
theorem dX10_drawn_79 : decode cX10_drawn 79 = .ok (.istore 6, 2) := by decide +kernel
theorem dX10_drawn_81 : decode cX10_drawn 81 = .ok (.iconst 0, 1) := by decide +kernel
theorem dX10_drawn_82 : decode cX10_drawn 82 = .ok (.istore 7, 2) := by decide +kernel
theorem dX10_drawn_84 : decode cX10_drawn 84 = .ok (.iconst 0, 1) := by decide +kernel
theorem dX10_drawn_85 : decode cX10_drawn 85 = .ok (.istore 8, 2) := by decide +kernel
theorem dX10_drawn_87 : decode cX10_drawn 87 = .ok (.iconst 0, 1) := by decide +kernel
theorem dX10_drawn_88 : decode cX10_drawn 88 = .ok (.istore 9, 2) := by decide +kernel
theorem dX10_drawn_90 : decode cX10_drawn 90 = .ok (.iload 9, 2) := by decide +kernel
theorem dX10_drawn_92 : decode cX10_drawn 92 = .ok (.iload 4, 2) := by decide +kernel
theorem dX10_drawn_94 : decode cX10_drawn 94 = .ok (.if_icmp .ge 115, 3) := by decide +kernel
theorem dX10_drawn_97 : decode cX10_drawn 97 = .ok (.aload_n 0, 1) := by decide +kernel
theorem dX10_drawn_98 : decode cX10_drawn 98 = .ok (.getfield 16, 3) := by decide +kernel
theorem dX10_drawn_101 : decode cX10_drawn 101 = .ok (.aload_n 0, 1) := by decide +kernel
theorem dX10_drawn_102 : decode cX10_drawn 102 = .ok (.getfield 10, 3) := by decide +kernel
theorem dX10_drawn_105 : decode cX10_drawn 105 = .ok (.invokevirtual 197, 3) := by decide +kernel
theorem dX10_drawn_108 : decode cX10_drawn 108 = .ok (.iconst 0, 1) := by decide +kernel
theorem dX10_drawn_109 : decode cX10_drawn 109 = .ok (.istore 10, 2) := by decide +kernel
theorem dX10_drawn_111 : decode cX10_drawn 111 = .ok (.iload 10, 2) := by decide +kernel
theorem dX10_drawn_113 : decode cX10_drawn 113 = .ok (.iload 5, 2) := by decide +kernel
theorem dX10_drawn_115 : decode cX10_drawn 115 = .ok (.if_icmp .ge 75, 3) := by decide +kernel
theorem dX10_drawn_118 : decode cX10_drawn 118 = .ok (.iload 6, 2) := by decide +kernel
theorem dX10_drawn_120 : decode cX10_drawn 120 = .ok (.ldc_w 277, 3) := by decide +kernel
theorem dX10_drawn_123 : decode cX10_drawn 123 = .ok (.imul, 1) := by decide +kernel
theorem dX10_drawn_124 : decode cX10_drawn 124 = .ok (.sipush 12345, 3) := by decide +kernel
theorem dX10_drawn_127 : decode cX10_drawn 127 = .ok (.iadd, 1) := by decide +kernel
theorem dX10_drawn_128 : decode cX10_drawn 128 = .ok (.istore 6, 2) := by decide +kernel
theorem dX10_drawn_130 : decode cX10_drawn 130 = .ok (.iload 6, 2) := by decide +kernel
theorem dX10_drawn_132 : decode cX10_drawn 132 = .ok (.bipush 16, 2) := by decide +kernel
theorem dX10_drawn_134 : decode cX10_drawn 134 = .ok (.iushr, 1) := by decide +kernel
theorem dX10_drawn_135 : decode cX10_drawn 135 = .ok (.aload_n 0, 1) := by decide +kernel
theorem dX10_drawn_136 : decode cX10_drawn 136 = .ok (.getfield 10, 3) := by decide +kernel
theorem dX10_drawn_139 : decode cX10_drawn 139 = .ok (.getfield 216, 3) := by decide +kernel
theorem dX10_drawn_142 : decode cX10_drawn 142 = .ok (.irem, 1) := by decide +kernel
theorem dX10_drawn_143 : decode cX10_drawn 143 = .ok (.istore 11, 2) := by decide +kernel
theorem dX10_drawn_145 : decode cX10_drawn 145 = .ok (.aload_n 0, 1) := by decide +kernel
theorem dX10_drawn_146 : decode cX10_drawn 146 = .ok (.aload_n 0, 1) := by decide +kernel
theorem dX10_drawn_147 : decode cX10_drawn 147 = .ok (.getfield 16, 3) := by decide +kernel
theorem dX10_drawn_150 : decode cX10_drawn 150 = .ok (.iload 6, 2) := by decide +kernel
theorem dX10_drawn_152 : decode cX10_drawn 152 = .ok (.bipush 8, 2) := by decide +kernel
theorem dX10_drawn_154 : decode cX10_drawn 154 = .ok (.iushr, 1) := by decide +kernel
theorem dX10_drawn_155 : decode cX10_drawn 155 = .ok (.aload_n 0, 1) := by decide +kernel
theorem dX10_drawn_156 : decode cX10_drawn 156 = .ok (.getfield 22, 3) := by decide +kernel
theorem dX10_drawn_159 : decode cX10_drawn 159 = .ok (.getfield 215, 3) := by decide +kernel
theorem dX10_drawn_162 : decode cX10_drawn 162 = .ok (.irem, 1) := by decide +kernel
theorem dX10_drawn_163 : decode cX10_drawn 163 = .ok (.iload 11, 2) := by decide +kernel
theorem dX10_drawn_165 : decode cX10_drawn 165 = .ok (.invokevirtual 254, 3) := by decide +kernel
theorem dX10_drawn_168 : decode cX10_drawn 168 = .ok (.iload 8, 2) := by decide +kernel
theorem dX10_drawn_170 : decode cX10_drawn 170 = .ok (.iload 11, 2) := by decide +kernel
theorem dX10_drawn_172 : decode cX10_drawn 172 = .ok (.iload_n 3, 1) := by decide +kernel
theorem dX10_drawn_173 : decode cX10_drawn 173 = .ok (.if_icmp .ne 7, 3) := by decide +kernel
theorem dX10_drawn_176 : decode cX10_drawn 176 = .ok (.iconst 1, 1) := by decide +kernel
theorem dX10_drawn_177 : decode cX10_drawn 177 = .ok (.goto 4, 3) := by decide +kernel
theorem dX10_drawn_180 : decode cX10_drawn 180 = .ok (.iconst 0, 1) := by decide +kernel
theorem dX10_drawn_181 : decode cX10_drawn 181 = .ok (.iadd, 1) := by decide +kernel
theorem dX10_drawn_182 : decode cX10_drawn 182 = .ok (.istore 8, 2) := by decide +kernel
theorem dX10_drawn_184 : decode cX10_drawn 184 = .ok (.iinc 10 1, 3) := by decide +kernel
theorem dX10_drawn_187 : decode cX10_drawn 187 = .ok (.goto (-76), 3) := by decide +kernel
theorem dX10_drawn_190 : decode cX10_drawn 190 = .ok (.iload 7, 2) := by decide +kernel
theorem dX10_drawn_192 : decode cX10_drawn 192 = .ok (.aload_n 0, 1) := by decide +kernel
theorem dX10_drawn_193 : decode cX10_drawn 193 = .ok (.aload_n 0, 1) := by decide +kernel
theorem dX10_drawn_194 : decode cX10_drawn 194 = .ok (.getfield 16, 3) := by decide +kernel
theorem dX10_drawn_197 : decode cX10_drawn 197 = .ok (.invokevirtual 278, 3) := by decide +kernel
theorem dX10_drawn_200 : decode cX10_drawn 200 = .ok (.iadd, 1) := by decide +kernel
theorem dX10_drawn_201 : decode cX10_drawn 201 = .ok (.istore 7, 2) := by decide +kernel
theorem dX10_drawn_203 : decode cX10_drawn 203 = .ok (.iinc 9 1, 3) := by decide +kernel
theorem dX10_drawn_206 : decode cX10_drawn 206 = .ok (.goto (-116), 3) := by decide +kernel
theorem dX10_drawn_209 : decode cX10_drawn 209 = .ok (.iload_n 3, 1) := by decide +kernel
theorem dX10_drawn_210 : decode cX10_drawn 210 = .ok (.iconst (-1), 1) := by decide +kernel
theorem dX10_drawn_211 : decode cX10_drawn 211 = .ok (.if_icmp .ne 8, 3) := by decide +kernel
theorem dX10_drawn_214 : decode cX10_drawn 214 = .ok (.iload 7, 2) := by decide +kernel
theorem dX10_drawn_216 : decode cX10_drawn 216 = .ok (.goto 5, 3) := by decide +kernel
theorem dX10_drawn_219 : decode cX10_drawn 219 = .ok (.iload 8, 2) := by decide +kernel
theorem dX10_drawn_221 : decode cX10_drawn 221 = .ok (.ireturn, 1) := by decide +kernel
def fX10_drawn_b181 (K90 : Int32 → Int32 → Int32 → Int32 → Int32 → Int32 → Int32 → mS → Option (Int32 × mS)) (K111 : Int32 → Int32 → Int32 → Int32 → Int32 → Int32 → Int32 → Int32 → mS → Option (Int32 × mS)) (y3 : Int32) (y4 : Int32) (y5 : Int32) (y6 : Int32) (y7 : Int32) (y9 : Int32) (y10 : Int32) (z0 : Int32) (z1 : Int32) (s : mS) : Option (Int32 × mS) :=
  bnd (z1 + z0) fun v17 =>
  bnd (y10 + 1) fun v18 =>
  K111 y3 y4 y5 y6 y7 v17 y9 v18 s

def fX10_drawn_b111 (K90 : Int32 → Int32 → Int32 → Int32 → Int32 → Int32 → Int32 → mS → Option (Int32 × mS)) : Nat → Int32 → Int32 → Int32 → Int32 → Int32 → Int32 → Int32 → Int32 → mS → Option (Int32 × mS)
  | 0, _, _, _, _, _, _, _, _, _ => none
  | k + 1, y3, y4, y5, y6, y7, y8, y9, y10, s =>
    if y5 ≤ y10 then
      bO (fX10_allApart 1 s) fun r9 =>
      bnd (y7 + r9) fun v10 =>
      bnd (y9 + 1) fun v11 =>
      K90 y3 y4 y5 y6 v10 y8 v11 s
    else
      bnd ((y6 * 1103515245) + 12345) fun v12 =>
      rmI ((Int32.toUInt32 v12 >>> (Int32.toUInt32 16 &&& Int32.toUInt32 31)).toInt32) (gI s (iM_size 0)) fun v13 =>
      bnd v13 fun v14 =>
      rmI ((Int32.toUInt32 v12 >>> (Int32.toUInt32 8 &&& Int32.toUInt32 31)).toInt32) (gI s (iW_size 0)) fun v15 =>
      bO (fX10_pass 1 v15 v14 s) fun s16 =>
      if v14 = y3 then
        fX10_drawn_b181 K90 (fun u0 u1 u2 u3 u4 u5 u6 u7 u8 => fX10_drawn_b111 K90 k u0 u1 u2 u3 u4 u5 u6 u7 u8) y3 y4 y5 v12 y7 y9 y10 1 y8 s16
      else
        fX10_drawn_b181 K90 (fun u0 u1 u2 u3 u4 u5 u6 u7 u8 => fX10_drawn_b111 K90 k u0 u1 u2 u3 u4 u5 u6 u7 u8) y3 y4 y5 v12 y7 y9 y10 0 y8 s16

def fX10_drawn_b90 : Nat → Int32 → Int32 → Int32 → Int32 → Int32 → Int32 → Int32 → mS → Option (Int32 × mS)
  | 0, _, _, _, _, _, _, _, _ => none
  | k + 1, y3, y4, y5, y6, y7, y8, y9, s =>
    if y4 ≤ y9 then
      if y3 = (-1) then
        some (y7, s)
      else
        some (y8, s)
    else
      bO (fX6_copy 1 0 s) fun s7 =>
      bnd 0 fun v8 =>
      fX10_drawn_b111 (fun u0 u1 u2 u3 u4 u5 u6 u7 => fX10_drawn_b90 k u0 u1 u2 u3 u4 u5 u6 u7) mFu y3 y4 y5 y6 y7 y8 y9 v8 s7

def fX10_drawn_b56 (y1 : Int32) (y3 : Int32) (y4 : Int32) (y5 : Int32) (s : mS) : Option (Int32 × mS) :=
  if (gI s (iW_size 0)) = 0 then
    some (0, s)
  else
    if (gI s (iM_size 0)) = 0 then
      some (0, s)
    else
      bnd y1 fun v3 =>
      bnd 0 fun v4 =>
      bnd 0 fun v5 =>
      bnd 0 fun v6 =>
      fX10_drawn_b90 mFu y3 y4 y5 v3 v4 v5 v6 s

def fX10_drawn (x1 : Int32) (x2 : Int32) (x3 : Int32) (s : mS) : Option (Int32 × mS) :=
  bnd (x2 / 100) fun v1 =>
  bnd (x2 - x2 / 100 * 100) fun v2 =>
  if v1 < 1 then
    some ((-1), s)
  else
    if 30 < v1 then
      some ((-1), s)
    else
      if v2 < 1 then
        some ((-1), s)
      else
        if 30 < v2 then
          some ((-1), s)
        else
          if x3 = (-1) then
            fX10_drawn_b56 x1 x3 v1 v2 s
          else
            bO (fX6_has 0 x3 s) fun r19 =>
            if r19 = 0 then
              some ((-1), s)
            else
              fX10_drawn_b56 x1 x3 v1 v2 s

set_option maxRecDepth 20000 in
theorem wX10_drawn_b181 {ρ : mRo} {d : Nat} {P : mPo} {V : mS → List mE} (hV : mView LC V)  {res : (Int32 × mS)} {K90 : Int32 → Int32 → Int32 → Int32 → Int32 → Int32 → Int32 → mS → Option (Int32 × mS)} (hK90 : ∀ (y3 : Int32) (y4 : Int32) (y5 : Int32) (y6 : Int32) (y7 : Int32) (y8 : Int32) (y9 : Int32) (s : mS), K90 y3 y4 y5 y6 y7 y8 y9 s = some res → mG ρ (mC ρ (d + 3)) 10 12 cX10_drawn (some .int) P 90 [(0, .ref qT), (3, .int y3), (4, .int y4), (5, .int y5), (6, .int y6), (7, .int y7), (8, .int y8), (9, .int y9)] [] (V s)) {K111 : Int32 → Int32 → Int32 → Int32 → Int32 → Int32 → Int32 → Int32 → mS → Option (Int32 × mS)} (hK111 : ∀ (y3 : Int32) (y4 : Int32) (y5 : Int32) (y6 : Int32) (y7 : Int32) (y8 : Int32) (y9 : Int32) (y10 : Int32) (s : mS), K111 y3 y4 y5 y6 y7 y8 y9 y10 s = some res → mG ρ (mC ρ (d + 3)) 10 12 cX10_drawn (some .int) P 111 [(0, .ref qT), (3, .int y3), (4, .int y4), (5, .int y5), (6, .int y6), (7, .int y7), (8, .int y8), (9, .int y9), (10, .int y10)] [] (V s)) (hP : P (some (.int res.1)) (V res.2)) (y3 : Int32) (y4 : Int32) (y5 : Int32) (y6 : Int32) (y7 : Int32) (y9 : Int32) (y10 : Int32) (z0 : Int32) (z1 : Int32) (s : mS) (hf : fX10_drawn_b181 K90 K111 y3 y4 y5 y6 y7 y9 y10 z0 z1 s = some res) : mG ρ (mC ρ (d + 3)) 10 12 cX10_drawn (some .int) P 181 [(0, .ref qT), (3, .int y3), (4, .int y4), (5, .int y5), (6, .int y6), (7, .int y7), (9, .int y9), (10, .int y10)] [.int z0, .int z1] (V s) := by
  unfold fX10_drawn_b181 at hf
  refine e_iadd dX10_drawn_181 ?_
  refine e_istore dX10_drawn_182 (by decide) hf (fun v17 hf => ?_)
  refine e_iinc 8 dX10_drawn_184 rfl rfl hf (fun v18 hf => ?_)
  refine e_goto 111 dX10_drawn_187 (by decide) ?_
  refine e_pick [2, 3, 4, 5, 6, 7, 1, 8, 0] rfl ?_
  exact hK111 y3 y4 y5 y6 y7 v17 y9 v18 s hf
set_option maxRecDepth 20000 in
theorem wX10_drawn_b111 {ρ : mRo} {d : Nat} {P : mPo} {V : mS → List mE} (hV : mView LC V)  {res : (Int32 × mS)} {K90 : Int32 → Int32 → Int32 → Int32 → Int32 → Int32 → Int32 → mS → Option (Int32 × mS)} (hK90 : ∀ (y3 : Int32) (y4 : Int32) (y5 : Int32) (y6 : Int32) (y7 : Int32) (y8 : Int32) (y9 : Int32) (s : mS), K90 y3 y4 y5 y6 y7 y8 y9 s = some res → mG ρ (mC ρ (d + 3)) 10 12 cX10_drawn (some .int) P 90 [(0, .ref qT), (3, .int y3), (4, .int y4), (5, .int y5), (6, .int y6), (7, .int y7), (8, .int y8), (9, .int y9)] [] (V s)) (hP : P (some (.int res.1)) (V res.2)) : ∀ (k : Nat) (y3 : Int32) (y4 : Int32) (y5 : Int32) (y6 : Int32) (y7 : Int32) (y8 : Int32) (y9 : Int32) (y10 : Int32) (s : mS), fX10_drawn_b111 K90 k y3 y4 y5 y6 y7 y8 y9 y10 s = some res → mG ρ (mC ρ (d + 3)) 10 12 cX10_drawn (some .int) P 111 [(0, .ref qT), (3, .int y3), (4, .int y4), (5, .int y5), (6, .int y6), (7, .int y7), (8, .int y8), (9, .int y9), (10, .int y10)] [] (V s) := by
  intro k
  induction k with
  | zero => intro y3 y4 y5 y6 y7 y8 y9 y10 s hf; rw [fX10_drawn_b111] at hf; cases hf
  | succ k ih =>
    intro y3 y4 y5 y6 y7 y8 y9 y10 s hf
    rw [fX10_drawn_b111] at hf
    refine e_iload 8 dX10_drawn_111 rfl ?_
    refine e_iload 3 dX10_drawn_113 rfl ?_
    refine e_icmp_ge 190 dX10_drawn_115 (by decide) hf (fun hf => ?_) (fun hf => ?_)
    · refine e_iload 5 dX10_drawn_190 rfl ?_
      refine e_aload_n 0 dX10_drawn_192 rfl rfl ?_
      refine e_aload_n 0 dX10_drawn_193 rfl rfl ?_
      refine e_getr hV dX10_drawn_194 rfl lc_T rfl ?_
      obtain ⟨r9, hg, hf⟩ := bO_some hf
      refine e_callV (as := [.ref (qM 1)]) (v := (some (.int r9))) (s' := s) hV dX10_drawn_197 (Or.inl rfl) rfl rfl rfl rfl (Nat.le_of_ble_eq_true rfl) lc_T rfl rfl (fun Q hQ => tX10_allApart (d := d) hV (by decide) hg hQ) ?_
      refine e_iadd dX10_drawn_200 ?_
      refine e_istore dX10_drawn_201 (by decide) hf (fun v10 hf => ?_)
      refine e_iinc 7 dX10_drawn_203 rfl rfl hf (fun v11 hf => ?_)
      refine e_goto 90 dX10_drawn_206 (by decide) ?_
      refine e_pick [2, 3, 4, 5, 6, 1, 7, 0] rfl ?_
      exact hK90 y3 y4 y5 y6 v10 y8 v11 s hf
    · refine e_iload 4 dX10_drawn_118 rfl ?_
      refine e_ldc_w (w := 1103515245) dX10_drawn_120 rfl ?_
      refine e_imul dX10_drawn_123 ?_
      refine e_sipush (w := 12345) dX10_drawn_124 (by decide) ?_
      refine e_iadd dX10_drawn_127 ?_
      refine e_istore dX10_drawn_128 (by decide) hf (fun v12 hf => ?_)
      refine e_iload 0 dX10_drawn_130 rfl ?_
      refine e_bipush (w := 16) dX10_drawn_132 (by decide) ?_
      refine e_iushr dX10_drawn_134 ?_
      refine e_aload_n 1 dX10_drawn_135 rfl rfl ?_
      refine e_getr hV dX10_drawn_136 rfl lc_T rfl ?_
      refine e_geti hV dX10_drawn_139 rfl (lc_M (by decide)) rfl ?_
      refine e_iremb dX10_drawn_142 hf (fun v13 hf => ?_)
      refine e_istore dX10_drawn_143 (by decide) hf (fun v14 hf => ?_)
      refine e_aload_n 2 dX10_drawn_145 rfl rfl ?_
      refine e_aload_n 2 dX10_drawn_146 rfl rfl ?_
      refine e_getr hV dX10_drawn_147 rfl lc_T rfl ?_
      refine e_iload 1 dX10_drawn_150 rfl ?_
      refine e_bipush (w := 8) dX10_drawn_152 (by decide) ?_
      refine e_iushr dX10_drawn_154 ?_
      refine e_aload_n 2 dX10_drawn_155 rfl rfl ?_
      refine e_getr hV dX10_drawn_156 rfl lc_T rfl ?_
      refine e_geti hV dX10_drawn_159 rfl (lc_W (by decide)) rfl ?_
      refine e_iremb dX10_drawn_162 hf (fun v15 hf => ?_)
      refine e_iload 0 dX10_drawn_163 rfl ?_
      obtain ⟨s16, hg, hf⟩ := bO_some hf
      refine e_callV (as := [.ref (qM 1), .int v15, .int v14]) (v := none) (s' := s16) hV dX10_drawn_165 (Or.inl rfl) rfl rfl rfl rfl (Nat.le_of_ble_eq_true rfl) lc_T rfl rfl (fun Q hQ => tX10_pass (d := (d + 1)) hV (by decide) hg hQ) ?_
      refine e_iload 7 dX10_drawn_168 rfl ?_
      refine e_iload 0 dX10_drawn_170 rfl ?_
      refine e_iload_n 3 dX10_drawn_172 rfl rfl ?_
      refine e_icmp_ne 180 dX10_drawn_173 (by decide) hf (fun hf => ?_) (fun hf => ?_)
      · refine e_iconst (w := 0) dX10_drawn_180 (by decide) ?_
        refine e_pick [2, 3, 4, 5, 1, 6, 8, 9] rfl ?_
        exact wX10_drawn_b181 hV hK90 ih hP y3 y4 y5 v12 y7 y9 y10 0 y8 s16 hf
      · refine e_iconst (w := 1) dX10_drawn_176 (by decide) ?_
        refine e_goto 181 dX10_drawn_177 (by decide) ?_
        refine e_pick [2, 3, 4, 5, 1, 6, 8, 9] rfl ?_
        exact wX10_drawn_b181 hV hK90 ih hP y3 y4 y5 v12 y7 y9 y10 1 y8 s16 hf
set_option maxRecDepth 20000 in
theorem wX10_drawn_b90 {ρ : mRo} {d : Nat} {P : mPo} {V : mS → List mE} (hV : mView LC V)  {res : (Int32 × mS)} (hP : P (some (.int res.1)) (V res.2)) : ∀ (k : Nat) (y3 : Int32) (y4 : Int32) (y5 : Int32) (y6 : Int32) (y7 : Int32) (y8 : Int32) (y9 : Int32) (s : mS), fX10_drawn_b90 k y3 y4 y5 y6 y7 y8 y9 s = some res → mG ρ (mC ρ (d + 3)) 10 12 cX10_drawn (some .int) P 90 [(0, .ref qT), (3, .int y3), (4, .int y4), (5, .int y5), (6, .int y6), (7, .int y7), (8, .int y8), (9, .int y9)] [] (V s) := by
  intro k
  induction k with
  | zero => intro y3 y4 y5 y6 y7 y8 y9 s hf; rw [fX10_drawn_b90] at hf; cases hf
  | succ k ih =>
    intro y3 y4 y5 y6 y7 y8 y9 s hf
    rw [fX10_drawn_b90] at hf
    refine e_iload 7 dX10_drawn_90 rfl ?_
    refine e_iload 2 dX10_drawn_92 rfl ?_
    refine e_icmp_ge 209 dX10_drawn_94 (by decide) hf (fun hf => ?_) (fun hf => ?_)
    · refine e_iload_n 1 dX10_drawn_209 rfl rfl ?_
      refine e_iconst (w := (-1)) dX10_drawn_210 (by decide) ?_
      refine e_icmp_ne 219 dX10_drawn_211 (by decide) hf (fun hf => ?_) (fun hf => ?_)
      · refine e_iload 6 dX10_drawn_219 rfl ?_
        cases hf
        exact e_iret dX10_drawn_221 trivial hP
      · refine e_iload 5 dX10_drawn_214 rfl ?_
        refine e_goto 221 dX10_drawn_216 (by decide) ?_
        cases hf
        exact e_iret dX10_drawn_221 trivial hP
    · refine e_aload_n 0 dX10_drawn_97 rfl rfl ?_
      refine e_getr hV dX10_drawn_98 rfl lc_T rfl ?_
      refine e_aload_n 0 dX10_drawn_101 rfl rfl ?_
      refine e_getr hV dX10_drawn_102 rfl lc_T rfl ?_
      obtain ⟨s7, hg, hf⟩ := bO_some hf
      refine e_callV (as := [.ref (qM 0)]) (v := none) (s' := s7) hV dX10_drawn_105 (Or.inl rfl) rfl rfl rfl rfl (Nat.le_of_ble_eq_true rfl) (lc_M (by decide)) rfl rfl (fun Q hQ => tX6_copy (d := (d + 1)) hV (by decide) (by decide) hg hQ) ?_
      refine e_iconst (w := 0) dX10_drawn_108 (by decide) ?_
      refine e_istore dX10_drawn_109 (by decide) hf (fun v8 hf => ?_)
      refine e_pick [1, 2, 3, 4, 5, 6, 7, 8, 0] rfl ?_
      exact wX10_drawn_b111 hV ih hP mFu y3 y4 y5 y6 y7 y8 y9 v8 s7 hf
set_option maxRecDepth 20000 in
theorem wX10_drawn_b56 {ρ : mRo} {d : Nat} {P : mPo} {V : mS → List mE} (hV : mView LC V)  {res : (Int32 × mS)} (hP : P (some (.int res.1)) (V res.2)) (y1 : Int32) (y3 : Int32) (y4 : Int32) (y5 : Int32) (s : mS) (hf : fX10_drawn_b56 y1 y3 y4 y5 s = some res) : mG ρ (mC ρ (d + 3)) 10 12 cX10_drawn (some .int) P 56 [(0, .ref qT), (1, .int y1), (3, .int y3), (4, .int y4), (5, .int y5)] [] (V s) := by
  unfold fX10_drawn_b56 at hf
  refine e_aload_n 0 dX10_drawn_56 rfl rfl ?_
  refine e_getr hV dX10_drawn_57 rfl lc_T rfl ?_
  refine e_geti hV dX10_drawn_60 rfl (lc_W (by decide)) rfl ?_
  refine e_if_eq 76 dX10_drawn_63 (by decide) hf (fun hf => ?_) (fun hf => ?_)
  · refine e_iconst (w := 0) dX10_drawn_76 (by decide) ?_
    cases hf
    exact e_iret dX10_drawn_77 trivial hP
  · refine e_aload_n 0 dX10_drawn_66 rfl rfl ?_
    refine e_getr hV dX10_drawn_67 rfl lc_T rfl ?_
    refine e_geti hV dX10_drawn_70 rfl (lc_M (by decide)) rfl ?_
    refine e_if_ne 78 dX10_drawn_73 (by decide) hf (fun hf => ?_) (fun hf => ?_)
    · refine e_iload_n 1 dX10_drawn_78 rfl rfl ?_
      refine e_istore dX10_drawn_79 (by decide) hf (fun v3 hf => ?_)
      refine e_iconst (w := 0) dX10_drawn_81 (by decide) ?_
      refine e_istore dX10_drawn_82 (by decide) hf (fun v4 hf => ?_)
      refine e_iconst (w := 0) dX10_drawn_84 (by decide) ?_
      refine e_istore dX10_drawn_85 (by decide) hf (fun v5 hf => ?_)
      refine e_iconst (w := 0) dX10_drawn_87 (by decide) ?_
      refine e_istore dX10_drawn_88 (by decide) hf (fun v6 hf => ?_)
      refine e_pick [4, 6, 7, 8, 3, 2, 1, 0] rfl ?_
      exact wX10_drawn_b90 hV hP mFu y3 y4 y5 v3 v4 v5 v6 s hf
    · refine e_iconst (w := 0) dX10_drawn_76 (by decide) ?_
      cases hf
      exact e_iret dX10_drawn_77 trivial hP
set_option maxRecDepth 20000 in
theorem tX10_drawn {ρ : mRo} {d : Nat} {P : mPo} {V : mS → List mE} (hV : mView LC V)  {x1 : Int32} {x2 : Int32} {x3 : Int32} {s : mS} {res : (Int32 × mS)} (hf : fX10_drawn x1 x2 x3 s = some res) (hP : P (some (.int res.1)) (V res.2)) : mC ρ (d + 4) 91 [.ref qT, .int x1, .int x2, .int x3] (V s) P := by
  refine ⟨_, rfl, Nat.le_of_ble_eq_true rfl, by decide, ?_⟩
  show mG ρ (mC ρ (d + 3)) 10 12 cX10_drawn (some .int) P 0 [(0, .ref qT), (1, .int x1), (2, .int x2), (3, .int x3)] [] (V s)
  unfold fX10_drawn at hf
  refine e_iload_n 2 dX10_drawn_0 rfl rfl ?_
  refine e_bipush (w := 100) dX10_drawn_1 (by decide) ?_
  refine e_idiv dX10_drawn_3 (by decide) ?_
  refine e_istore dX10_drawn_4 (by decide) hf (fun v1 hf => ?_)
  refine e_iload_n 3 dX10_drawn_6 rfl rfl ?_
  refine e_bipush (w := 100) dX10_drawn_7 (by decide) ?_
  refine e_irem dX10_drawn_9 (by decide) ?_
  refine e_istore dX10_drawn_10 (by decide) hf (fun v2 hf => ?_)
  refine e_iload 1 dX10_drawn_12 rfl ?_
  refine e_iconst (w := 1) dX10_drawn_14 (by decide) ?_
  refine e_icmp_lt 54 dX10_drawn_15 (by decide) hf (fun hf => ?_) (fun hf => ?_)
  · refine e_iconst (w := (-1)) dX10_drawn_54 (by decide) ?_
    cases hf
    exact e_iret dX10_drawn_55 trivial hP
  · refine e_iload 1 dX10_drawn_18 rfl ?_
    refine e_bipush (w := 30) dX10_drawn_20 (by decide) ?_
    refine e_icmp_gt 54 dX10_drawn_22 (by decide) hf (fun hf => ?_) (fun hf => ?_)
    · refine e_iconst (w := (-1)) dX10_drawn_54 (by decide) ?_
      cases hf
      exact e_iret dX10_drawn_55 trivial hP
    · refine e_iload 0 dX10_drawn_25 rfl ?_
      refine e_iconst (w := 1) dX10_drawn_27 (by decide) ?_
      refine e_icmp_lt 54 dX10_drawn_28 (by decide) hf (fun hf => ?_) (fun hf => ?_)
      · refine e_iconst (w := (-1)) dX10_drawn_54 (by decide) ?_
        cases hf
        exact e_iret dX10_drawn_55 trivial hP
      · refine e_iload 0 dX10_drawn_31 rfl ?_
        refine e_bipush (w := 30) dX10_drawn_33 (by decide) ?_
        refine e_icmp_gt 54 dX10_drawn_35 (by decide) hf (fun hf => ?_) (fun hf => ?_)
        · refine e_iconst (w := (-1)) dX10_drawn_54 (by decide) ?_
          cases hf
          exact e_iret dX10_drawn_55 trivial hP
        · refine e_iload_n 5 dX10_drawn_38 rfl rfl ?_
          refine e_iconst (w := (-1)) dX10_drawn_39 (by decide) ?_
          refine e_icmp_eq 56 dX10_drawn_40 (by decide) hf (fun hf => ?_) (fun hf => ?_)
          · refine e_pick [2, 3, 5, 1, 0] rfl ?_
            exact wX10_drawn_b56 hV hP x1 x3 v1 v2 s hf
          · refine e_aload_n 2 dX10_drawn_43 rfl rfl ?_
            refine e_getr hV dX10_drawn_44 rfl lc_T rfl ?_
            refine e_iload_n 5 dX10_drawn_47 rfl rfl ?_
            obtain ⟨r19, hg, hf⟩ := bO_some hf
            refine e_callV (as := [.int x3]) (v := (some (.int r19))) (s' := s) hV dX10_drawn_48 (Or.inl rfl) rfl rfl rfl rfl (Nat.le_of_ble_eq_true rfl) (lc_M (by decide)) rfl rfl (fun Q hQ => tX6_has (d := (d + 2)) hV (by decide) hg hQ) ?_
            refine e_if_ne 56 dX10_drawn_51 (by decide) hf (fun hf => ?_) (fun hf => ?_)
            · refine e_pick [2, 3, 5, 1, 0] rfl ?_
              exact wX10_drawn_b56 hV hP x1 x3 v1 v2 s hf
            · refine e_iconst (w := (-1)) dX10_drawn_54 (by decide) ?_
              cases hf
              exact e_iret dX10_drawn_55 trivial hP

theorem dX10_types_0 : decode cX10_types 0 = .ok (.aload_n 0, 1) := by decide +kernel
theorem dX10_types_1 : decode cX10_types 1 = .ok (.iload_n 1, 1) := by decide +kernel
theorem dX10_types_2 : decode cX10_types 2 = .ok (.invokevirtual 164, 3) := by decide +kernel
theorem dX10_types_5 : decode cX10_types 5 = .ok (.ifCond .ne 5, 3) := by decide +kernel
theorem dX10_types_8 : decode cX10_types 8 = .ok (.iconst (-1), 1) := by decide +kernel
theorem dX10_types_9 : decode cX10_types 9 = .ok (.ireturn, 1) := by decide +kernel
theorem dX10_types_10 : decode cX10_types 10 = .ok (.aload_n 0, 1) := by decide +kernel
theorem dX10_types_11 : decode cX10_types 11 = .ok (.aload_n 0, 1) := by decide +kernel
theorem dX10_types_12 : decode cX10_types 12 = .ok (.getfield 10, 3) := by decide +kernel
theorem dX10_types_15 : decode cX10_types 15 = .ok (.iload_n 1, 1) := by decide +kernel
theorem dX10_types_16 : decode cX10_types 16 = .ok (.bipush 10, 2) := by decide +kernel
theorem dX10_types_18 : decode cX10_types 18 = .ok (.idiv, 1) := by decide +kernel
theorem dX10_types_19 : decode cX10_types 19 = .ok (.iload_n 1, 1) := by decide +kernel
theorem dX10_types_20 : decode cX10_types 20 = .ok (.bipush 10, 2) := by decide +kernel
theorem dX10_types_22 : decode cX10_types 22 = .ok (.irem, 1) := by decide +kernel
theorem dX10_types_23 : decode cX10_types 23 = .ok (.invokevirtual 193, 3) := by decide +kernel
theorem dX10_types_26 : decode cX10_types 26 = .ok (.istore_n 2, 1) := by decide +kernel
theorem dX10_types_27 : decode cX10_types 27 = .ok (.aload_n 0, 1) := by decide +kernel
theorem dX10_types_28 : decode cX10_types 28 = .ok (.aload_n 0, 1) := by decide +kernel
theorem dX10_types_29 : decode cX10_types 29 = .ok (.getfield 10, 3) := by decide +kernel
theorem dX10_types_32 : decode cX10_types 32 = .ok (.iload_n 1, 1) := by decide +kernel
theorem dX10_types_33 : decode cX10_types 33 = .ok (.bipush 10, 2) := by decide +kernel
theorem dX10_types_35 : decode cX10_types 35 = .ok (.idiv, 1) := by decide +kernel
theorem dX10_types_36 : decode cX10_types 36 = .ok (.iload_n 1, 1) := by decide +kernel
theorem dX10_types_37 : decode cX10_types 37 = .ok (.bipush 10, 2) := by decide +kernel
theorem dX10_types_39 : decode cX10_types 39 = .ok (.irem, 1) := by decide +kernel
theorem dX10_types_40 : decode cX10_types 40 = .ok (.invokevirtual 254, 3) := by decide +kernel
theorem dX10_types_43 : decode cX10_types 43 = .ok (.aload_n 0, 1) := by decide +kernel
theorem dX10_types_44 : decode cX10_types 44 = .ok (.getfield 63, 3) := by decide +kernel
theorem dX10_types_47 : decode cX10_types 47 = .ok (.dup, 1) := by decide +kernel
theorem dX10_types_48 : decode cX10_types 48 = .ok (.getfield 282, 3) := by decide +kernel
theorem dX10_types_51 : decode cX10_types 51 = .ok (.iconst 1, 1) := by decide +kernel
theorem dX10_types_52 : decode cX10_types 52 = .ok (.iadd, 1) := by decide +kernel
theorem dX10_types_53 : decode cX10_types 53 = .ok (.putfield 282, 3) := by decide +kernel
theorem dX10_types_56 : decode cX10_types 56 = .ok (.aload_n 0, 1) := by decide +kernel
theorem dX10_types_57 : decode cX10_types 57 = .ok (.getfield 63, 3) := by decide +kernel
theorem dX10_types_60 : decode cX10_types 60 = .ok (.dup, 1) := by decide +kernel
theorem dX10_types_61 : decode cX10_types 61 = .ok (.getfield 285, 3) := by decide +kernel
theorem dX10_types_64 : decode cX10_types 64 = .ok (.iload_n 2, 1) := by decide +kernel
theorem dX10_types_65 : decode cX10_types 65 = .ok (.invokestatic 288, 3) := by decide +kernel
theorem dX10_types_68 : decode cX10_types 68 = .ok (.iadd, 1) := by decide +kernel
theorem dX10_types_69 : decode cX10_types 69 = .ok (.putfield 285, 3) := by decide +kernel
theorem dX10_types_72 : decode cX10_types 72 = .ok (.aload_n 0, 1) := by decide +kernel
theorem dX10_types_73 : decode cX10_types 73 = .ok (.getfield 63, 3) := by decide +kernel
theorem dX10_types_76 : decode cX10_types 76 = .ok (.iload_n 1, 1) := by decide +kernel
theorem dX10_types_77 : decode cX10_types 77 = .ok (.bipush 10, 2) := by decide +kernel
theorem dX10_types_79 : decode cX10_types 79 = .ok (.irem, 1) := by decide +kernel
theorem dX10_types_80 : decode cX10_types 80 = .ok (.putfield 291, 3) := by decide +kernel
theorem dX10_types_83 : decode cX10_types 83 = .ok (.iload_n 2, 1) := by decide +kernel
theorem dX10_types_84 : decode cX10_types 84 = .ok (.ireturn, 1) := by decide +kernel
def fX10_types (x1 : Int32) (s : mS) : Option (Int32 × mS) :=
  bO (fX10_isPair x1 s) fun r1 =>
  if r1 = 0 then
    some ((-1), s)
  else
    bP (fX10_shownCode 0 (x1 / 10) (x1 - x1 / 10 * 10) s) fun r2 s3 =>
    bnd r2 fun v4 =>
    bO (fX10_pass 0 (x1 / 10) (x1 - x1 / 10 * 10) s3) fun s5 =>
    bnd (pI s5 (iG_letters 0) ((gI s5 (iG_letters 0)) + 1)) fun s6 =>
    bO (fX2_sum v4 s6) fun r7 =>
    bnd (pI s6 (iG_showed 0) ((gI s6 (iG_showed 0)) + r7)) fun s8 =>
    bnd (pI s8 (iG_latest 0) (x1 - x1 / 10 * 10)) fun s9 =>
    some (v4, s9)

set_option maxRecDepth 20000 in
theorem tX10_types {ρ : mRo} {d : Nat} {P : mPo} {V : mS → List mE} (hV : mView LC V)  {x1 : Int32} {s : mS} {res : (Int32 × mS)} (hf : fX10_types x1 s = some res) (hP : P (some (.int res.1)) (V res.2)) : mC ρ (d + 7) 92 [.ref qT, .int x1] (V s) P := by
  refine ⟨_, rfl, Nat.le_of_ble_eq_true rfl, by decide, ?_⟩
  show mG ρ (mC ρ (d + 6)) 10 3 cX10_types (some .int) P 0 [(0, .ref qT), (1, .int x1)] [] (V s)
  unfold fX10_types at hf
  refine e_aload_n 0 dX10_types_0 rfl rfl ?_
  refine e_iload_n 1 dX10_types_1 rfl rfl ?_
  obtain ⟨r1, hg, hf⟩ := bO_some hf
  refine e_callV (as := [.int x1]) (v := (some (.int r1))) (s' := s) hV dX10_types_2 (Or.inl rfl) rfl rfl rfl rfl (Nat.le_of_ble_eq_true rfl) lc_T rfl rfl (fun Q hQ => tX10_isPair (d := (d + 4)) hV  hg hQ) ?_
  refine e_if_ne 10 dX10_types_5 (by decide) hf (fun hf => ?_) (fun hf => ?_)
  · refine e_aload_n 0 dX10_types_10 rfl rfl ?_
    refine e_aload_n 0 dX10_types_11 rfl rfl ?_
    refine e_getr hV dX10_types_12 rfl lc_T rfl ?_
    refine e_iload_n 1 dX10_types_15 rfl rfl ?_
    refine e_bipush (w := 10) dX10_types_16 (by decide) ?_
    refine e_idiv dX10_types_18 (by decide) ?_
    refine e_iload_n 1 dX10_types_19 rfl rfl ?_
    refine e_bipush (w := 10) dX10_types_20 (by decide) ?_
    refine e_irem dX10_types_22 (by decide) ?_
    obtain ⟨r2, s3, hg, hf⟩ := bP_some hf
    refine e_callV (as := [.ref (qM 0), .int (x1 / 10), .int (x1 - x1 / 10 * 10)]) (v := (some (.int r2))) (s' := s3) hV dX10_types_23 (Or.inl rfl) rfl rfl rfl rfl (Nat.le_of_ble_eq_true rfl) lc_T rfl rfl (fun Q hQ => tX10_shownCode (d := d) hV (by decide) hg hQ) ?_
    refine e_istore_n dX10_types_26 rfl (by decide) hf (fun v4 hf => ?_)
    refine e_aload_n 1 dX10_types_27 rfl rfl ?_
    refine e_aload_n 1 dX10_types_28 rfl rfl ?_
    refine e_getr hV dX10_types_29 rfl lc_T rfl ?_
    refine e_iload_n 2 dX10_types_32 rfl rfl ?_
    refine e_bipush (w := 10) dX10_types_33 (by decide) ?_
    refine e_idiv dX10_types_35 (by decide) ?_
    refine e_iload_n 2 dX10_types_36 rfl rfl ?_
    refine e_bipush (w := 10) dX10_types_37 (by decide) ?_
    refine e_irem dX10_types_39 (by decide) ?_
    obtain ⟨s5, hg, hf⟩ := bO_some hf
    refine e_callV (as := [.ref (qM 0), .int (x1 / 10), .int (x1 - x1 / 10 * 10)]) (v := none) (s' := s5) hV dX10_types_40 (Or.inl rfl) rfl rfl rfl rfl (Nat.le_of_ble_eq_true rfl) lc_T rfl rfl (fun Q hQ => tX10_pass (d := (d + 4)) hV (by decide) hg hQ) ?_
    refine e_aload_n 1 dX10_types_43 rfl rfl ?_
    refine e_getr hV dX10_types_44 rfl lc_T rfl ?_
    refine e_dup dX10_types_47 rfl ?_
    refine e_geti hV dX10_types_48 rfl (lc_G (by decide)) rfl ?_
    refine e_iconst (w := 1) dX10_types_51 (by decide) ?_
    refine e_iadd dX10_types_52 ?_
    refine e_puti hV dX10_types_53 rfl rfl rfl (Or.inl rfl) (lc_G (by decide)) rfl hf (fun s6 hf => ?_)
    refine e_aload_n 1 dX10_types_56 rfl rfl ?_
    refine e_getr hV dX10_types_57 rfl lc_T rfl ?_
    refine e_dup dX10_types_60 rfl ?_
    refine e_geti hV dX10_types_61 rfl (lc_G (by decide)) rfl ?_
    refine e_iload_n 0 dX10_types_64 rfl rfl ?_
    obtain ⟨r7, hg, hf⟩ := bO_some hf
    refine e_callS (as := [.int v4]) (v := (some (.int r7))) (s' := s6) dX10_types_65 rfl rfl rfl rfl rfl (Nat.le_of_ble_eq_true rfl) (fun Q hQ => tX2_sum (d := (d + 4)) hV  hg hQ) ?_
    refine e_iadd dX10_types_68 ?_
    refine e_puti hV dX10_types_69 rfl rfl rfl (Or.inl rfl) (lc_G (by decide)) rfl hf (fun s8 hf => ?_)
    refine e_aload_n 1 dX10_types_72 rfl rfl ?_
    refine e_getr hV dX10_types_73 rfl lc_T rfl ?_
    refine e_iload_n 2 dX10_types_76 rfl rfl ?_
    refine e_bipush (w := 10) dX10_types_77 (by decide) ?_
    refine e_irem dX10_types_79 (by decide) ?_
    refine e_puti hV dX10_types_80 rfl rfl rfl (Or.inl rfl) (lc_G (by decide)) rfl hf (fun s9 hf => ?_)
    refine e_iload_n 0 dX10_types_83 rfl rfl ?_
    cases hf
    exact e_iret dX10_types_84 trivial hP
  · refine e_iconst (w := (-1)) dX10_types_8 (by decide) ?_
    cases hf
    exact e_iret dX10_types_9 trivial hP
