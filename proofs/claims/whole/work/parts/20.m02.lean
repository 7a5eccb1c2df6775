-- bytecode to functions, by program (wip/gen/decomp.py)
theorem dX8_readOperand_0 : decode cX8_readOperand 0 = .ok (.aload_n 0, 1) := by decide +kernel
theorem dX8_readOperand_1 : decode cX8_readOperand 1 = .ok (.invokevirtual 45, 3) := by decide +kernel
theorem dX8_readOperand_4 : decode cX8_readOperand 4 = .ok (.istore_n 2, 1) := by decide +kernel
theorem dX8_readOperand_5 : decode cX8_readOperand 5 = .ok (.iload_n 2, 1) := by decide +kernel
theorem dX8_readOperand_6 : decode cX8_readOperand 6 = .ok (.invokestatic 53, 3) := by decide +kernel
theorem dX8_readOperand_9 : decode cX8_readOperand 9 = .ok (.ifCond .eq 9, 3) := by decide +kernel
theorem dX8_readOperand_12 : decode cX8_readOperand 12 = .ok (.aload_n 0, 1) := by decide +kernel
theorem dX8_readOperand_13 : decode cX8_readOperand 13 = .ok (.invokevirtual 56, 3) := by decide +kernel
theorem dX8_readOperand_16 : decode cX8_readOperand 16 = .ok (.iconst 1, 1) := by decide +kernel
theorem dX8_readOperand_17 : decode cX8_readOperand 17 = .ok (.ireturn, 1) := by decide +kernel
theorem dX8_readOperand_18 : decode cX8_readOperand 18 = .ok (.iload_n 2, 1) := by decide +kernel
theorem dX8_readOperand_19 : decode cX8_readOperand 19 = .ok (.invokestatic 59, 3) := by decide +kernel
theorem dX8_readOperand_22 : decode cX8_readOperand 22 = .ok (.ifCond .eq 21, 3) := by decide +kernel
theorem dX8_readOperand_25 : decode cX8_readOperand 25 = .ok (.aload_n 0, 1) := by decide +kernel
theorem dX8_readOperand_26 : decode cX8_readOperand 26 = .ok (.dup, 1) := by decide +kernel
theorem dX8_readOperand_27 : decode cX8_readOperand 27 = .ok (.getfield 20, 3) := by decide +kernel
theorem dX8_readOperand_30 : decode cX8_readOperand 30 = .ok (.iconst 1, 1) := by decide +kernel
theorem dX8_readOperand_31 : decode cX8_readOperand 31 = .ok (.iadd, 1) := by decide +kernel
theorem dX8_readOperand_32 : decode cX8_readOperand 32 = .ok (.putfield 20, 3) := by decide +kernel
theorem dX8_readOperand_35 : decode cX8_readOperand 35 = .ok (.aload_n 0, 1) := by decide +kernel
theorem dX8_readOperand_36 : decode cX8_readOperand 36 = .ok (.iload_n 2, 1) := by decide +kernel
theorem dX8_readOperand_37 : decode cX8_readOperand 37 = .ok (.ineg, 1) := by decide +kernel
theorem dX8_readOperand_38 : decode cX8_readOperand 38 = .ok (.invokevirtual 38, 3) := by decide +kernel
theorem dX8_readOperand_41 : decode cX8_readOperand 41 = .ok (.iconst 1, 1) := by decide +kernel
theorem dX8_readOperand_42 : decode cX8_readOperand 42 = .ok (.ireturn, 1) := by decide +kernel
theorem dX8_readOperand_43 : decode cX8_readOperand 43 = .ok (.iload_n 1, 1) := by decide +kernel
theorem dX8_readOperand_44 : decode cX8_readOperand 44 = .ok (.bipush 6, 2) := by decide +kernel
theorem dX8_readOperand_46 : decode cX8_readOperand 46 = .ok (.if_icmp .ge 21, 3) := by decide +kernel
theorem dX8_readOperand_49 : decode cX8_readOperand 49 = .ok (.iload_n 2, 1) := by decide +kernel
theorem dX8_readOperand_50 : decode cX8_readOperand 50 = .ok (.bipush 40, 2) := by decide +kernel
theorem dX8_readOperand_52 : decode cX8_readOperand 52 = .ok (.if_icmp .eq 17, 3) := by decide +kernel
theorem dX8_readOperand_55 : decode cX8_readOperand 55 = .ok (.iload_n 2, 1) := by decide +kernel
theorem dX8_readOperand_56 : decode cX8_readOperand 56 = .ok (.bipush 33, 2) := by decide +kernel
theorem dX8_readOperand_58 : decode cX8_readOperand 58 = .ok (.if_icmp .eq 11, 3) := by decide +kernel
theorem dX8_readOperand_61 : decode cX8_readOperand 61 = .ok (.iload_n 2, 1) := by decide +kernel
theorem dX8_readOperand_62 : decode cX8_readOperand 62 = .ok (.bipush 45, 2) := by decide +kernel
theorem dX8_readOperand_64 : decode cX8_readOperand 64 = .ok (.if_icmp .eq 5, 3) := by decide +kernel
theorem dX8_readOperand_67 : decode cX8_readOperand 67 = .ok (.iconst 0, 1) := by decide +kernel
theorem dX8_readOperand_68 : decode cX8_readOperand 68 = .ok (.ireturn, 1) := by decide +kernel
theorem dX8_readOperand_69 : decode cX8_readOperand 69 = .ok (.aload_n 0, 1) := by decide +kernel
theorem dX8_readOperand_70 : decode cX8_readOperand 70 = .ok (.dup, 1) := by decide +kernel
theorem dX8_readOperand_71 : decode cX8_readOperand 71 = .ok (.getfield 20, 3) := by decide +kernel
theorem dX8_readOperand_74 : decode cX8_readOperand 74 = .ok (.iconst 1, 1) := by decide +kernel
theorem dX8_readOperand_75 : decode cX8_readOperand 75 = .ok (.iadd, 1) := by decide +kernel
theorem dX8_readOperand_76 : decode cX8_readOperand 76 = .ok (.putfield 20, 3) := by decide +kernel
theorem dX8_readOperand_79 : decode cX8_readOperand 79 = .ok (.iload_n 2, 1) := by decide +kernel
theorem dX8_readOperand_80 : decode cX8_readOperand 80 = .ok (.bipush 40, 2) := by decide +kernel
theorem dX8_readOperand_82 : decode cX8_readOperand 82 = .ok (.if_icmp .ne 29, 3) := by decide +kernel
theorem dX8_readOperand_85 : decode cX8_readOperand 85 = .ok (.aload_n 0, 1) := by decide +kernel
theorem dX8_readOperand_86 : decode cX8_readOperand 86 = .ok (.iconst 0, 1) := by decide +kernel
theorem dX8_readOperand_87 : decode cX8_readOperand 87 = .ok (.iload_n 1, 1) := by decide +kernel
theorem dX8_readOperand_88 : decode cX8_readOperand 88 = .ok (.iconst 1, 1) := by decide +kernel
theorem dX8_readOperand_89 : decode cX8_readOperand 89 = .ok (.iadd, 1) := by decide +kernel
theorem dX8_readOperand_90 : decode cX8_readOperand 90 = .ok (.invokevirtual 34, 3) := by decide +kernel
theorem dX8_readOperand_93 : decode cX8_readOperand 93 = .ok (.ifCond .eq 16, 3) := by decide +kernel
theorem dX8_readOperand_96 : decode cX8_readOperand 96 = .ok (.aload_n 0, 1) := by decide +kernel
theorem dX8_readOperand_97 : decode cX8_readOperand 97 = .ok (.bipush 41, 2) := by decide +kernel
theorem dX8_readOperand_99 : decode cX8_readOperand 99 = .ok (.invokevirtual 30, 3) := by decide +kernel
theorem dX8_readOperand_102 : decode cX8_readOperand 102 = .ok (.ifCond .eq 7, 3) := by decide +kernel
theorem dX8_readOperand_105 : decode cX8_readOperand 105 = .ok (.iconst 1, 1) := by decide +kernel
theorem dX8_readOperand_106 : decode cX8_readOperand 106 = .ok (.goto 4, 3) := by decide +kernel
theorem dX8_readOperand_109 : decode cX8_readOperand 109 = .ok (.iconst 0, 1) := by decide +kernel
theorem dX8_readOperand_110 : decode cX8_readOperand 110 = .ok (.ireturn, 1) := by decide +kernel
theorem dX8_readOperand_111 : decode cX8_readOperand 111 = .ok (.aload_n 0, 1) := by decide +kernel
theorem dX8_readOperand_112 : decode cX8_readOperand 112 = .ok (.iload_n 1, 1) := by decide +kernel
theorem dX8_readOperand_113 : decode cX8_readOperand 113 = .ok (.iconst 1, 1) := by decide +kernel
theorem dX8_readOperand_114 : decode cX8_readOperand 114 = .ok (.iadd, 1) := by decide +kernel
theorem dX8_readOperand_115 : decode cX8_readOperand 115 = .ok (.invokevirtual 42, 3) := by decide +kernel
theorem dX8_readOperand_118 : decode cX8_readOperand 118 = .ok (.ifCond .ne 5, 3) := by decide +kernel
theorem dX8_readOperand_121 : decode cX8_readOperand 121 = .ok (.iconst 0, 1) := by decide +kernel
theorem dX8_readOperand_122 : decode cX8_readOperand 122 = .ok (.ireturn, 1) := by decide +kernel
theorem dX8_readOperand_123 : decode cX8_readOperand 123 = .ok (.aload_n 0, 1) := by decide +kernel
theorem dX8_readOperand_124 : decode cX8_readOperand 124 = .ok (.iload_n 2, 1) := by decide +kernel
theorem dX8_readOperand_125 : decode cX8_readOperand 125 = .ok (.bipush 45, 2) := by decide +kernel
theorem dX8_readOperand_127 : decode cX8_readOperand 127 = .ok (.if_icmp .ne 7, 3) := by decide +kernel
theorem dX8_readOperand_130 : decode cX8_readOperand 130 = .ok (.iconst (-1), 1) := by decide +kernel
theorem dX8_readOperand_131 : decode cX8_readOperand 131 = .ok (.goto 5, 3) := by decide +kernel
theorem dX8_readOperand_134 : decode cX8_readOperand 134 = .ok (.iload_n 2, 1) := by decide +kernel
theorem dX8_readOperand_135 : decode cX8_readOperand 135 = .ok (.ineg, 1) := by decide +kernel
theorem dX8_readOperand_136 : decode cX8_readOperand 136 = .ok (.invokevirtual 38, 3) := by decide +kernel
theorem dX8_readOperand_139 : decode cX8_readOperand 139 = .ok (.iconst 1, 1) := by decide +kernel
theorem dX8_readOperand_140 : decode cX8_readOperand 140 = .ok (.ireturn, 1) := by decide +kernel
def gX8_readOperand_b136 (R0 : Int32 → Int32 → mS → Option (Int32 × mS)) (R1 : Int32 → mS → Option (Int32 × mS)) (z0 : Int32) (s : mS) : Option (Int32 × mS) :=
  bO (fX8_addStep z0 s) fun s8 =>
  some ((nI 1), s8)

def gX8_readOperand_b69 (R0 : Int32 → Int32 → mS → Option (Int32 × mS)) (R1 : Int32 → mS → Option (Int32 × mS)) (y1 : Int32) (y2 : Int32) (s : mS) : Option (Int32 × mS) :=
  bnd (pI s iP_at ((gI s iP_at) + (nI 1))) fun s5 =>
  if y2 = (nI 40) then
    bP (R0 (nI 0) (y1 + (nI 1)) s5) fun r9 s10 =>
    if r9 = 0 then
      some ((nI 0), s10)
    else
      bP (fX8_takes (nI 41) s10) fun r11 s12 =>
      if r11 = 0 then
        some ((nI 0), s12)
      else
        some ((nI 1), s12)
  else
    bP (R1 (y1 + (nI 1)) s5) fun r6 s7 =>
    if r6 = 0 then
      some ((nI 0), s7)
    else
      if y2 = (nI 45) then
        gX8_readOperand_b136 R0 R1 (-1) s7
      else
        gX8_readOperand_b136 R0 R1 (-y2) s7

def gX8_readOperand (R0 : Int32 → Int32 → mS → Option (Int32 × mS)) (R1 : Int32 → mS → Option (Int32 × mS)) (x1 : Int32) (s : mS) : Option (Int32 × mS) :=
  bO (fX8_next s) fun r1 =>
  bnd r1 fun v2 =>
  bO (fX8_isDigit v2 s) fun r3 =>
  if r3 = 0 then
    bO (fX8_isName v2 s) fun r4 =>
    if r4 = 0 then
      if (nI 6) ≤ x1 then
        some ((nI 0), s)
      else
        if v2 = (nI 40) then
          gX8_readOperand_b69 R0 R1 x1 v2 s
        else
          if v2 = (nI 33) then
            gX8_readOperand_b69 R0 R1 x1 v2 s
          else
            if v2 = (nI 45) then
              gX8_readOperand_b69 R0 R1 x1 v2 s
            else
              some ((nI 0), s)
    else
      bnd (pI s iP_at ((gI s iP_at) + (nI 1))) fun s13 =>
      bO (fX8_addStep (-v2) s13) fun s14 =>
      some ((nI 1), s14)
  else
    bO (fX8_readNumber s) fun s15 =>
    some ((nI 1), s15)

set_option maxRecDepth 20000 in
theorem wX8_readOperand_b136 {ρ : mRo} {n d : Nat} {P : mPo} {V : mS → List mE} (hV : mView LC V) {R0 : Int32 → Int32 → mS → Option (Int32 × mS)} (hR0 : ∀ {x1 x2 : Int32} {s : mS} {res : (Int32 × mS)} {Q : mPo}, R0 x1 x2 s = some res → Q (some (.int res.1)) (V res.2) → mC ρ (n + d + 2) 48 [.ref qP, .int x1, .int x2] (V s) Q) {R1 : Int32 → mS → Option (Int32 × mS)} (hR1 : ∀ {x1 : Int32} {s : mS} {res : (Int32 × mS)} {Q : mPo}, R1 x1 s = some res → Q (some (.int res.1)) (V res.2) → mC ρ (n + d + 2) 49 [.ref qP, .int x1] (V s) Q)  {res : (Int32 × mS)} (hP : P (some (.int res.1)) (V res.2)) (z0 : Int32) (s : mS) (hf : gX8_readOperand_b136 R0 R1 z0 s = some res) : mG ρ (mC ρ (n + d + 2)) 8 3 cX8_readOperand (some .boolean) P 136 [] [.int z0, .ref qP] (V s) := by
  unfold gX8_readOperand_b136 at hf
  obtain ⟨s8, hg, hf⟩ := bO_some hf
  refine e_callV (as := [.int z0]) (v := none) (s' := s8) hV dX8_readOperand_136 (Or.inl rfl) rfl rfl rfl rfl (Nat.le_of_ble_eq_true rfl) lc_P rfl rfl (fun Q hQ => tX8_addStep (d := (n + d + 1)) hV  hg hQ) ?_
  refine e_iconst (w := (nI 1)) dX8_readOperand_139 (by decide) ?_
  obtain rfl := Option.some.inj hf
  exact e_iret dX8_readOperand_140 (Or.inr rfl) hP
set_option maxRecDepth 20000 in
theorem wX8_readOperand_b69 {ρ : mRo} {n d : Nat} {P : mPo} {V : mS → List mE} (hV : mView LC V) {R0 : Int32 → Int32 → mS → Option (Int32 × mS)} (hR0 : ∀ {x1 x2 : Int32} {s : mS} {res : (Int32 × mS)} {Q : mPo}, R0 x1 x2 s = some res → Q (some (.int res.1)) (V res.2) → mC ρ (n + d + 2) 48 [.ref qP, .int x1, .int x2] (V s) Q) {R1 : Int32 → mS → Option (Int32 × mS)} (hR1 : ∀ {x1 : Int32} {s : mS} {res : (Int32 × mS)} {Q : mPo}, R1 x1 s = some res → Q (some (.int res.1)) (V res.2) → mC ρ (n + d + 2) 49 [.ref qP, .int x1] (V s) Q)  {res : (Int32 × mS)} (hP : P (some (.int res.1)) (V res.2)) (y1 : Int32) (y2 : Int32) (s : mS) (hf : gX8_readOperand_b69 R0 R1 y1 y2 s = some res) : mG ρ (mC ρ (n + d + 2)) 8 3 cX8_readOperand (some .boolean) P 69 [(0, .ref qP), (1, .int y1), (2, .int y2)] [] (V s) := by
  unfold gX8_readOperand_b69 at hf
  refine e_aload_n 0 dX8_readOperand_69 rfl rfl ?_
  refine e_dup dX8_readOperand_70 rfl ?_
  refine e_geti hV dX8_readOperand_71 rfl lc_P rfl ?_
  refine e_iconst (w := (nI 1)) dX8_readOperand_74 (by decide) ?_
  refine e_iadd dX8_readOperand_75 ?_
  refine e_puti hV dX8_readOperand_76 rfl rfl rfl (Or.inl rfl) lc_P rfl hf (fun s5 hf => ?_)
  refine e_iload_n 2 dX8_readOperand_79 rfl rfl ?_
  refine e_bipush (w := (nI 40)) dX8_readOperand_80 (by decide) ?_
  refine e_icmp_ne 111 dX8_readOperand_82 (by decide) hf (fun hf => ?_) (fun hf => ?_)
  · refine e_aload_n 0 dX8_readOperand_111 rfl rfl ?_
    refine e_iload_n 1 dX8_readOperand_112 rfl rfl ?_
    refine e_iconst (w := (nI 1)) dX8_readOperand_113 (by decide) ?_
    refine e_iadd dX8_readOperand_114 ?_
    obtain ⟨r6, s7, hg, hf⟩ := bP_some hf
    refine e_callV (as := [.int (y1 + (nI 1))]) (v := (some (.int r6))) (s' := s7) hV dX8_readOperand_115 (Or.inl rfl) rfl rfl rfl rfl (Nat.le_of_ble_eq_true rfl) lc_P rfl rfl (fun Q hQ => hR1 hg hQ) ?_
    refine e_if_ne 123 dX8_readOperand_118 (by decide) hf (fun hf => ?_) (fun hf => ?_)
    · refine e_aload_n 0 dX8_readOperand_123 rfl rfl ?_
      refine e_iload_n 2 dX8_readOperand_124 rfl rfl ?_
      refine e_bipush (w := (nI 45)) dX8_readOperand_125 (by decide) ?_
      refine e_icmp_ne 134 dX8_readOperand_127 (by decide) hf (fun hf => ?_) (fun hf => ?_)
      · refine e_iload_n 2 dX8_readOperand_134 rfl rfl ?_
        refine e_ineg dX8_readOperand_135 ?_
        refine e_pick [] rfl ?_
        exact wX8_readOperand_b136 hV hR0 hR1 hP (-y2) s7 hf
      · refine e_iconst (w := (-1)) dX8_readOperand_130 (by decide) ?_
        refine e_goto 136 dX8_readOperand_131 (by decide) ?_
        refine e_pick [] rfl ?_
        exact wX8_readOperand_b136 hV hR0 hR1 hP (-1) s7 hf
    · refine e_iconst (w := (nI 0)) dX8_readOperand_121 (by decide) ?_
      obtain rfl := Option.some.inj hf
      exact e_iret dX8_readOperand_122 (Or.inl rfl) hP
  · refine e_aload_n 0 dX8_readOperand_85 rfl rfl ?_
    refine e_iconst (w := (nI 0)) dX8_readOperand_86 (by decide) ?_
    refine e_iload_n 1 dX8_readOperand_87 rfl rfl ?_
    refine e_iconst (w := (nI 1)) dX8_readOperand_88 (by decide) ?_
    refine e_iadd dX8_readOperand_89 ?_
    obtain ⟨r9, s10, hg, hf⟩ := bP_some hf
    refine e_callV (as := [.int (nI 0), .int (y1 + (nI 1))]) (v := (some (.int r9))) (s' := s10) hV dX8_readOperand_90 (Or.inl rfl) rfl rfl rfl rfl (Nat.le_of_ble_eq_true rfl) lc_P rfl rfl (fun Q hQ => hR0 hg hQ) ?_
    refine e_if_eq 109 dX8_readOperand_93 (by decide) hf (fun hf => ?_) (fun hf => ?_)
    · refine e_iconst (w := (nI 0)) dX8_readOperand_109 (by decide) ?_
      obtain rfl := Option.some.inj hf
      exact e_iret dX8_readOperand_110 (Or.inl rfl) hP
    · refine e_aload_n 0 dX8_readOperand_96 rfl rfl ?_
      refine e_bipush (w := (nI 41)) dX8_readOperand_97 (by decide) ?_
      obtain ⟨r11, s12, hg, hf⟩ := bP_some hf
      refine e_callV (as := [.int (nI 41)]) (v := (some (.int r11))) (s' := s12) hV dX8_readOperand_99 (Or.inl rfl) rfl rfl rfl rfl (Nat.le_of_ble_eq_true rfl) lc_P rfl rfl (fun Q hQ => tX8_takes (d := (n + d)) hV  hg hQ) ?_
      refine e_if_eq 109 dX8_readOperand_102 (by decide) hf (fun hf => ?_) (fun hf => ?_)
      · refine e_iconst (w := (nI 0)) dX8_readOperand_109 (by decide) ?_
        obtain rfl := Option.some.inj hf
        exact e_iret dX8_readOperand_110 (Or.inl rfl) hP
      · refine e_iconst (w := (nI 1)) dX8_readOperand_105 (by decide) ?_
        refine e_goto 110 dX8_readOperand_106 (by decide) ?_
        obtain rfl := Option.some.inj hf
        exact e_iret dX8_readOperand_110 (Or.inr rfl) hP
set_option maxRecDepth 20000 in
theorem uX8_readOperand {ρ : mRo} {n d : Nat} {P : mPo} {V : mS → List mE} (hV : mView LC V) {R0 : Int32 → Int32 → mS → Option (Int32 × mS)} (hR0 : ∀ {x1 x2 : Int32} {s : mS} {res : (Int32 × mS)} {Q : mPo}, R0 x1 x2 s = some res → Q (some (.int res.1)) (V res.2) → mC ρ (n + d + 2) 48 [.ref qP, .int x1, .int x2] (V s) Q) {R1 : Int32 → mS → Option (Int32 × mS)} (hR1 : ∀ {x1 : Int32} {s : mS} {res : (Int32 × mS)} {Q : mPo}, R1 x1 s = some res → Q (some (.int res.1)) (V res.2) → mC ρ (n + d + 2) 49 [.ref qP, .int x1] (V s) Q)  {x1 : Int32} {s : mS} {res : (Int32 × mS)} (hf : gX8_readOperand R0 R1 x1 s = some res) (hP : P (some (.int res.1)) (V res.2)) : mC ρ (n + d + 2 + 1) 49 [.ref qP, .int x1] (V s) P := by
  refine ⟨_, rfl, Nat.le_of_ble_eq_true rfl, by decide, ?_⟩
  show mG ρ (mC ρ (n + d + 2)) 8 3 cX8_readOperand (some .boolean) P 0 [(0, .ref qP), (1, .int x1)] [] (V s)
  unfold gX8_readOperand at hf
  refine e_aload_n 0 dX8_readOperand_0 rfl rfl ?_
  obtain ⟨r1, hg, hf⟩ := bO_some hf
  refine e_callV (as := []) (v := (some (.int r1))) (s' := s) hV dX8_readOperand_1 (Or.inl rfl) rfl rfl rfl rfl (Nat.le_of_ble_eq_true rfl) lc_P rfl rfl (fun Q hQ => tX8_next (d := (n + d + 1)) hV  hg hQ) ?_
  refine e_istore_n dX8_readOperand_4 rfl (by decide) hf (fun v2 hf => ?_)
  refine e_iload_n 0 dX8_readOperand_5 rfl rfl ?_
  obtain ⟨r3, hg, hf⟩ := bO_some hf
  refine e_callS (as := [.int v2]) (v := (some (.int r3))) (s' := s) dX8_readOperand_6 rfl rfl rfl rfl rfl (Nat.le_of_ble_eq_true rfl) (fun Q hQ => tX8_isDigit (d := (n + d + 1)) hV  hg hQ) ?_
  refine e_if_eq 18 dX8_readOperand_9 (by decide) hf (fun hf => ?_) (fun hf => ?_)
  · refine e_iload_n 0 dX8_readOperand_18 rfl rfl ?_
    obtain ⟨r4, hg, hf⟩ := bO_some hf
    refine e_callS (as := [.int v2]) (v := (some (.int r4))) (s' := s) dX8_readOperand_19 rfl rfl rfl rfl rfl (Nat.le_of_ble_eq_true rfl) (fun Q hQ => tX8_isName (d := (n + d + 1)) hV  hg hQ) ?_
    refine e_if_eq 43 dX8_readOperand_22 (by decide) hf (fun hf => ?_) (fun hf => ?_)
    · refine e_iload_n 2 dX8_readOperand_43 rfl rfl ?_
      refine e_bipush (w := (nI 6)) dX8_readOperand_44 (by decide) ?_
      refine e_icmp_ge 67 dX8_readOperand_46 (by decide) hf (fun hf => ?_) (fun hf => ?_)
      · refine e_iconst (w := (nI 0)) dX8_readOperand_67 (by decide) ?_
        obtain rfl := Option.some.inj hf
        exact e_iret dX8_readOperand_68 (Or.inl rfl) hP
      · refine e_iload_n 0 dX8_readOperand_49 rfl rfl ?_
        refine e_bipush (w := (nI 40)) dX8_readOperand_50 (by decide) ?_
        refine e_icmp_eq 69 dX8_readOperand_52 (by decide) hf (fun hf => ?_) (fun hf => ?_)
        · refine e_pick [1, 2, 0] rfl ?_
          exact wX8_readOperand_b69 hV hR0 hR1 hP x1 v2 s hf
        · refine e_iload_n 0 dX8_readOperand_55 rfl rfl ?_
          refine e_bipush (w := (nI 33)) dX8_readOperand_56 (by decide) ?_
          refine e_icmp_eq 69 dX8_readOperand_58 (by decide) hf (fun hf => ?_) (fun hf => ?_)
          · refine e_pick [1, 2, 0] rfl ?_
            exact wX8_readOperand_b69 hV hR0 hR1 hP x1 v2 s hf
          · refine e_iload_n 0 dX8_readOperand_61 rfl rfl ?_
            refine e_bipush (w := (nI 45)) dX8_readOperand_62 (by decide) ?_
            refine e_icmp_eq 69 dX8_readOperand_64 (by decide) hf (fun hf => ?_) (fun hf => ?_)
            · refine e_pick [1, 2, 0] rfl ?_
              exact wX8_readOperand_b69 hV hR0 hR1 hP x1 v2 s hf
            · refine e_iconst (w := (nI 0)) dX8_readOperand_67 (by decide) ?_
              obtain rfl := Option.some.inj hf
              exact e_iret dX8_readOperand_68 (Or.inl rfl) hP
    · refine e_aload_n 1 dX8_readOperand_25 rfl rfl ?_
      refine e_dup dX8_readOperand_26 rfl ?_
      refine e_geti hV dX8_readOperand_27 rfl lc_P rfl ?_
      refine e_iconst (w := (nI 1)) dX8_readOperand_30 (by decide) ?_
      refine e_iadd dX8_readOperand_31 ?_
      refine e_puti hV dX8_readOperand_32 rfl rfl rfl (Or.inl rfl) lc_P rfl hf (fun s13 hf => ?_)
      refine e_aload_n 1 dX8_readOperand_35 rfl rfl ?_
      refine e_iload_n 0 dX8_readOperand_36 rfl rfl ?_
      refine e_ineg dX8_readOperand_37 ?_
      obtain ⟨s14, hg, hf⟩ := bO_some hf
      refine e_callV (as := [.int (-v2)]) (v := none) (s' := s14) hV dX8_readOperand_38 (Or.inl rfl) rfl rfl rfl rfl (Nat.le_of_ble_eq_true rfl) lc_P rfl rfl (fun Q hQ => tX8_addStep (d := (n + d + 1)) hV  hg hQ) ?_
      refine e_iconst (w := (nI 1)) dX8_readOperand_41 (by decide) ?_
      obtain rfl := Option.some.inj hf
      exact e_iret dX8_readOperand_42 (Or.inr rfl) hP
  · refine e_aload_n 1 dX8_readOperand_12 rfl rfl ?_
    obtain ⟨s15, hg, hf⟩ := bO_some hf
    refine e_callV (as := []) (v := none) (s' := s15) hV dX8_readOperand_13 (Or.inl rfl) rfl rfl rfl rfl (Nat.le_of_ble_eq_true rfl) lc_P rfl rfl (fun Q hQ => tX8_readNumber (d := (n + d)) hV  hg hQ) ?_
    refine e_iconst (w := (nI 1)) dX8_readOperand_16 (by decide) ?_
    obtain rfl := Option.some.inj hf
    exact e_iret dX8_readOperand_17 (Or.inr rfl) hP

theorem dX8_levelOf_0 : decode cX8_levelOf 0 = .ok (.iload_n 0, 1) := by decide +kernel
theorem dX8_levelOf_1 : decode cX8_levelOf 1 = .ok (.lookupswitch 101 #[(37, 99), (38, 93), (42, 99), (43, 97), (45, 97), (47, 99), (60, 95), (61, 95), (62, 95), (124, 91)], 91) := by decide +kernel
theorem dX8_levelOf_92 : decode cX8_levelOf 92 = .ok (.iconst 0, 1) := by decide +kernel
theorem dX8_levelOf_93 : decode cX8_levelOf 93 = .ok (.ireturn, 1) := by decide +kernel
theorem dX8_levelOf_94 : decode cX8_levelOf 94 = .ok (.iconst 1, 1) := by decide +kernel
theorem dX8_levelOf_95 : decode cX8_levelOf 95 = .ok (.ireturn, 1) := by decide +kernel
theorem dX8_levelOf_96 : decode cX8_levelOf 96 = .ok (.iconst 2, 1) := by decide +kernel
theorem dX8_levelOf_97 : decode cX8_levelOf 97 = .ok (.ireturn, 1) := by decide +kernel
theorem dX8_levelOf_98 : decode cX8_levelOf 98 = .ok (.iconst 3, 1) := by decide +kernel
theorem dX8_levelOf_99 : decode cX8_levelOf 99 = .ok (.ireturn, 1) := by decide +kernel
theorem dX8_levelOf_100 : decode cX8_levelOf 100 = .ok (.iconst 4, 1) := by decide +kernel
theorem dX8_levelOf_101 : decode cX8_levelOf 101 = .ok (.ireturn, 1) := by decide +kernel
theorem dX8_levelOf_102 : decode cX8_levelOf 102 = .ok (.iconst (-1), 1) := by decide +kernel
theorem dX8_levelOf_103 : decode cX8_levelOf 103 = .ok (.ireturn, 1) := by decide +kernel
def fX8_levelOf (x0 : Int32) (s : mS) : Option Int32 :=
  if x0 = (nI 37) then
    some (nI 4)
  else if x0 = (nI 38) then
    some (nI 1)
  else if x0 = (nI 42) then
    some (nI 4)
  else if x0 = (nI 43) then
    some (nI 3)
  else if x0 = (nI 45) then
    some (nI 3)
  else if x0 = (nI 47) then
    some (nI 4)
  else if x0 = (nI 60) then
    some (nI 2)
  else if x0 = (nI 61) then
    some (nI 2)
  else if x0 = (nI 62) then
    some (nI 2)
  else if x0 = (nI 124) then
    some (nI 0)
  else
    some (-1)

set_option maxRecDepth 20000 in
theorem tX8_levelOf {ρ : mRo} {d : Nat} {P : mPo} {V : mS → List mE} (hV : mView LC V)  {x0 : Int32} {s : mS} {res : Int32} (hf : fX8_levelOf x0 s = some res) (hP : P (some (.int res)) (V s)) : mC ρ (d + 1) 56 [.int x0] (V s) P := by
  refine ⟨_, rfl, Nat.le_of_ble_eq_true rfl, by decide, ?_⟩
  show mG ρ (mC ρ d) 8 1 cX8_levelOf (some .int) P 0 [(0, .int x0)] [] (V s)
  unfold fX8_levelOf at hf
  refine e_iload_n 0 dX8_levelOf_0 rfl rfl ?_
  by_cases hc37 : x0 = (nI 37)
  · rw [if_pos hc37] at hf
    refine e_look (tgt := 100) (w := (nI 37)) dX8_levelOf_1 hc37 (by decide) (by decide) ?_
    refine e_iconst (w := (nI 4)) dX8_levelOf_100 (by decide) ?_
    obtain rfl := Option.some.inj hf
    exact e_iret dX8_levelOf_101 trivial hP
  rw [if_neg hc37] at hf
  by_cases hc38 : x0 = (nI 38)
  · rw [if_pos hc38] at hf
    refine e_look (tgt := 94) (w := (nI 38)) dX8_levelOf_1 hc38 (by decide) (by decide) ?_
    refine e_iconst (w := (nI 1)) dX8_levelOf_94 (by decide) ?_
    obtain rfl := Option.some.inj hf
    exact e_iret dX8_levelOf_95 trivial hP
  rw [if_neg hc38] at hf
  by_cases hc42 : x0 = (nI 42)
  · rw [if_pos hc42] at hf
    refine e_look (tgt := 100) (w := (nI 42)) dX8_levelOf_1 hc42 (by decide) (by decide) ?_
    refine e_iconst (w := (nI 4)) dX8_levelOf_100 (by decide) ?_
    obtain rfl := Option.some.inj hf
    exact e_iret dX8_levelOf_101 trivial hP
  rw [if_neg hc42] at hf
  by_cases hc43 : x0 = (nI 43)
  · rw [if_pos hc43] at hf
    refine e_look (tgt := 98) (w := (nI 43)) dX8_levelOf_1 hc43 (by decide) (by decide) ?_
    refine e_iconst (w := (nI 3)) dX8_levelOf_98 (by decide) ?_
    obtain rfl := Option.some.inj hf
    exact e_iret dX8_levelOf_99 trivial hP
  rw [if_neg hc43] at hf
  by_cases hc45 : x0 = (nI 45)
  · rw [if_pos hc45] at hf
    refine e_look (tgt := 98) (w := (nI 45)) dX8_levelOf_1 hc45 (by decide) (by decide) ?_
    refine e_iconst (w := (nI 3)) dX8_levelOf_98 (by decide) ?_
    obtain rfl := Option.some.inj hf
    exact e_iret dX8_levelOf_99 trivial hP
  rw [if_neg hc45] at hf
  by_cases hc47 : x0 = (nI 47)
  · rw [if_pos hc47] at hf
    refine e_look (tgt := 100) (w := (nI 47)) dX8_levelOf_1 hc47 (by decide) (by decide) ?_
    refine e_iconst (w := (nI 4)) dX8_levelOf_100 (by decide) ?_
    obtain rfl := Option.some.inj hf
    exact e_iret dX8_levelOf_101 trivial hP
  rw [if_neg hc47] at hf
  by_cases hc60 : x0 = (nI 60)
  · rw [if_pos hc60] at hf
    refine e_look (tgt := 96) (w := (nI 60)) dX8_levelOf_1 hc60 (by decide) (by decide) ?_
    refine e_iconst (w := (nI 2)) dX8_levelOf_96 (by decide) ?_
    obtain rfl := Option.some.inj hf
    exact e_iret dX8_levelOf_97 trivial hP
  rw [if_neg hc60] at hf
  by_cases hc61 : x0 = (nI 61)
  · rw [if_pos hc61] at hf
    refine e_look (tgt := 96) (w := (nI 61)) dX8_levelOf_1 hc61 (by decide) (by decide) ?_
    refine e_iconst (w := (nI 2)) dX8_levelOf_96 (by decide) ?_
    obtain rfl := Option.some.inj hf
    exact e_iret dX8_levelOf_97 trivial hP
  rw [if_neg hc61] at hf
  by_cases hc62 : x0 = (nI 62)
  · rw [if_pos hc62] at hf
    refine e_look (tgt := 96) (w := (nI 62)) dX8_levelOf_1 hc62 (by decide) (by decide) ?_
    refine e_iconst (w := (nI 2)) dX8_levelOf_96 (by decide) ?_
    obtain rfl := Option.some.inj hf
    exact e_iret dX8_levelOf_97 trivial hP
  rw [if_neg hc62] at hf
  by_cases hc124 : x0 = (nI 124)
  · rw [if_pos hc124] at hf
    refine e_look (tgt := 92) (w := (nI 124)) dX8_levelOf_1 hc124 (by decide) (by decide) ?_
    refine e_iconst (w := (nI 0)) dX8_levelOf_92 (by decide) ?_
    obtain rfl := Option.some.inj hf
    exact e_iret dX8_levelOf_93 trivial hP
  rw [if_neg hc124] at hf
  refine e_lookD (tgt := 102) (ks := [(nI 37), (nI 38), (nI 42), (nI 43), (nI 45), (nI 47), (nI 60), (nI 61), (nI 62), (nI 124)]) dX8_levelOf_1 (by decide) (by decide) (fun z hz => ?_) ?_
  · simp only [List.mem_cons, List.not_mem_nil, or_false] at hz
    rcases hz with rfl | rfl | rfl | rfl | rfl | rfl | rfl | rfl | rfl | rfl
    · exact hc37
    · exact hc38
    · exact hc42
    · exact hc43
    · exact hc45
    · exact hc47
    · exact hc60
    · exact hc61
    · exact hc62
    · exact hc124
  refine e_iconst (w := (-1)) dX8_levelOf_102 (by decide) ?_
  obtain rfl := Option.some.inj hf
  exact e_iret dX8_levelOf_103 trivial hP

theorem dX8_readLevel_0 : decode cX8_readLevel 0 = .ok (.iload_n 1, 1) := by decide +kernel
theorem dX8_readLevel_1 : decode cX8_readLevel 1 = .ok (.iconst 5, 1) := by decide +kernel
theorem dX8_readLevel_2 : decode cX8_readLevel 2 = .ok (.if_icmp .lt 9, 3) := by decide +kernel
theorem dX8_readLevel_5 : decode cX8_readLevel 5 = .ok (.aload_n 0, 1) := by decide +kernel
theorem dX8_readLevel_6 : decode cX8_readLevel 6 = .ok (.iload_n 2, 1) := by decide +kernel
theorem dX8_readLevel_7 : decode cX8_readLevel 7 = .ok (.invokevirtual 42, 3) := by decide +kernel
theorem dX8_readLevel_10 : decode cX8_readLevel 10 = .ok (.ireturn, 1) := by decide +kernel
theorem dX8_readLevel_11 : decode cX8_readLevel 11 = .ok (.aload_n 0, 1) := by decide +kernel
theorem dX8_readLevel_12 : decode cX8_readLevel 12 = .ok (.iload_n 1, 1) := by decide +kernel
theorem dX8_readLevel_13 : decode cX8_readLevel 13 = .ok (.iconst 1, 1) := by decide +kernel
theorem dX8_readLevel_14 : decode cX8_readLevel 14 = .ok (.iadd, 1) := by decide +kernel
theorem dX8_readLevel_15 : decode cX8_readLevel 15 = .ok (.iload_n 2, 1) := by decide +kernel
theorem dX8_readLevel_16 : decode cX8_readLevel 16 = .ok (.invokevirtual 34, 3) := by decide +kernel
theorem dX8_readLevel_19 : decode cX8_readLevel 19 = .ok (.ifCond .ne 5, 3) := by decide +kernel
theorem dX8_readLevel_22 : decode cX8_readLevel 22 = .ok (.iconst 0, 1) := by decide +kernel
theorem dX8_readLevel_23 : decode cX8_readLevel 23 = .ok (.ireturn, 1) := by decide +kernel
theorem dX8_readLevel_24 : decode cX8_readLevel 24 = .ok (.iload_n 1, 1) := by decide +kernel
theorem dX8_readLevel_25 : decode cX8_readLevel 25 = .ok (.iconst 2, 1) := by decide +kernel
theorem dX8_readLevel_26 : decode cX8_readLevel 26 = .ok (.if_icmp .ne 7, 3) := by decide +kernel
theorem dX8_readLevel_29 : decode cX8_readLevel 29 = .ok (.iconst 1, 1) := by decide +kernel
theorem dX8_readLevel_30 : decode cX8_readLevel 30 = .ok (.goto 7, 3) := by decide +kernel
theorem dX8_readLevel_33 : decode cX8_readLevel 33 = .ok (.aload_n 0, 1) := by decide +kernel
theorem dX8_readLevel_34 : decode cX8_readLevel 34 = .ok (.getfield 16, 3) := by decide +kernel
theorem dX8_readLevel_37 : decode cX8_readLevel 37 = .ok (.istore_n 3, 1) := by decide +kernel
theorem dX8_readLevel_38 : decode cX8_readLevel 38 = .ok (.iconst 0, 1) := by decide +kernel
theorem dX8_readLevel_39 : decode cX8_readLevel 39 = .ok (.istore 4, 2) := by decide +kernel
theorem dX8_readLevel_41 : decode cX8_readLevel 41 = .ok (.iload 4, 2) := by decide +kernel
theorem dX8_readLevel_43 : decode cX8_readLevel 43 = .ok (.iload_n 3, 1) := by decide +kernel
theorem dX8_readLevel_44 : decode cX8_readLevel 44 = .ok (.if_icmp .ge 56, 3) := by decide +kernel
theorem dX8_readLevel_47 : decode cX8_readLevel 47 = .ok (.aload_n 0, 1) := by decide +kernel
theorem dX8_readLevel_48 : decode cX8_readLevel 48 = .ok (.invokevirtual 45, 3) := by decide +kernel
theorem dX8_readLevel_51 : decode cX8_readLevel 51 = .ok (.invokestatic 49, 3) := by decide +kernel
theorem dX8_readLevel_54 : decode cX8_readLevel 54 = .ok (.iload_n 1, 1) := by decide +kernel
theorem dX8_readLevel_55 : decode cX8_readLevel 55 = .ok (.if_icmp .ne 45, 3) := by decide +kernel
theorem dX8_readLevel_58 : decode cX8_readLevel 58 = .ok (.aload_n 0, 1) := by decide +kernel
theorem dX8_readLevel_59 : decode cX8_readLevel 59 = .ok (.invokevirtual 45, 3) := by decide +kernel
theorem dX8_readLevel_62 : decode cX8_readLevel 62 = .ok (.istore 5, 2) := by decide +kernel
theorem dX8_readLevel_64 : decode cX8_readLevel 64 = .ok (.aload_n 0, 1) := by decide +kernel
theorem dX8_readLevel_65 : decode cX8_readLevel 65 = .ok (.dup, 1) := by decide +kernel
theorem dX8_readLevel_66 : decode cX8_readLevel 66 = .ok (.getfield 20, 3) := by decide +kernel
theorem dX8_readLevel_69 : decode cX8_readLevel 69 = .ok (.iconst 1, 1) := by decide +kernel
theorem dX8_readLevel_70 : decode cX8_readLevel 70 = .ok (.iadd, 1) := by decide +kernel
theorem dX8_readLevel_71 : decode cX8_readLevel 71 = .ok (.putfield 20, 3) := by decide +kernel
theorem dX8_readLevel_74 : decode cX8_readLevel 74 = .ok (.aload_n 0, 1) := by decide +kernel
theorem dX8_readLevel_75 : decode cX8_readLevel 75 = .ok (.iload_n 1, 1) := by decide +kernel
theorem dX8_readLevel_76 : decode cX8_readLevel 76 = .ok (.iconst 1, 1) := by decide +kernel
theorem dX8_readLevel_77 : decode cX8_readLevel 77 = .ok (.iadd, 1) := by decide +kernel
theorem dX8_readLevel_78 : decode cX8_readLevel 78 = .ok (.iload_n 2, 1) := by decide +kernel
theorem dX8_readLevel_79 : decode cX8_readLevel 79 = .ok (.invokevirtual 34, 3) := by decide +kernel
theorem dX8_readLevel_82 : decode cX8_readLevel 82 = .ok (.ifCond .ne 5, 3) := by decide +kernel
theorem dX8_readLevel_85 : decode cX8_readLevel 85 = .ok (.iconst 0, 1) := by decide +kernel
theorem dX8_readLevel_86 : decode cX8_readLevel 86 = .ok (.ireturn, 1) := by decide +kernel
theorem dX8_readLevel_87 : decode cX8_readLevel 87 = .ok (.aload_n 0, 1) := by decide +kernel
theorem dX8_readLevel_88 : decode cX8_readLevel 88 = .ok (.iload 5, 2) := by decide +kernel
theorem dX8_readLevel_90 : decode cX8_readLevel 90 = .ok (.ineg, 1) := by decide +kernel
theorem dX8_readLevel_91 : decode cX8_readLevel 91 = .ok (.invokevirtual 38, 3) := by decide +kernel
theorem dX8_readLevel_94 : decode cX8_readLevel 94 = .ok (.iinc 4 1, 3) := by decide +kernel
theorem dX8_readLevel_97 : decode cX8_readLevel 97 = .ok (.goto (-56), 3) := by decide +kernel
theorem dX8_readLevel_100 : decode cX8_readLevel 100 = .ok (.iconst 1, 1) := by decide +kernel
theorem dX8_readLevel_101 : decode cX8_readLevel 101 = .ok (.ireturn, 1) := by decide +kernel
def gX8_readLevel_b41 (R0 : Int32 → Int32 → mS → Option (Int32 × mS)) (R1 : Int32 → mS → Option (Int32 × mS)) : Nat → Int32 → Int32 → Int32 → Int32 → mS → Option (Int32 × mS)
  | 0, _, _, _, _, _ => none
  | k + 1, y1, y2, y3, y4, s =>
    if y3 ≤ y4 then
      some ((nI 1), s)
    else
      bO (fX8_next s) fun r5 =>
      bO (fX8_levelOf r5 s) fun r6 =>
      if r6 = y1 then
        bO (fX8_next s) fun r7 =>
        bnd r7 fun v8 =>
        bnd (pI s iP_at ((gI s iP_at) + (nI 1))) fun s9 =>
        bP (R0 (y1 + (nI 1)) y2 s9) fun r10 s11 =>
        if r10 = 0 then
          some ((nI 0), s11)
        else
          bO (fX8_addStep (-v8) s11) fun s12 =>
          bnd (y4 + (nI 1)) fun v13 =>
          gX8_readLevel_b41 R0 R1 k y1 y2 y3 v13 s12
      else
        some ((nI 1), s)

def gX8_readLevel_b37 (R0 : Int32 → Int32 → mS → Option (Int32 × mS)) (R1 : Int32 → mS → Option (Int32 × mS)) (y1 : Int32) (y2 : Int32) (z0 : Int32) (s : mS) : Option (Int32 × mS) :=
  bnd z0 fun v3 =>
  bnd (nI 0) fun v4 =>
  gX8_readLevel_b41 R0 R1 mFu y1 y2 v3 v4 s

def gX8_readLevel (R0 : Int32 → Int32 → mS → Option (Int32 × mS)) (R1 : Int32 → mS → Option (Int32 × mS)) (x1 : Int32) (x2 : Int32) (s : mS) : Option (Int32 × mS) :=
  if x1 < (nI 5) then
    bP (R0 (x1 + (nI 1)) x2 s) fun r1 s2 =>
    if r1 = 0 then
      some ((nI 0), s2)
    else
      if x1 = (nI 2) then
        gX8_readLevel_b37 R0 R1 x1 x2 (nI 1) s2
      else
        gX8_readLevel_b37 R0 R1 x1 x2 (gI s2 iP_size) s2
  else
    bP (R1 x2 s) fun r14 s15 =>
    rB r14 (some (r14, s15))

set_option maxRecDepth 20000 in
theorem wX8_readLevel_b41 {ρ : mRo} {n d : Nat} {P : mPo} {V : mS → List mE} (hV : mView LC V) {R0 : Int32 → Int32 → mS → Option (Int32 × mS)} (hR0 : ∀ {x1 x2 : Int32} {s : mS} {res : (Int32 × mS)} {Q : mPo}, R0 x1 x2 s = some res → Q (some (.int res.1)) (V res.2) → mC ρ (n + d + 2) 48 [.ref qP, .int x1, .int x2] (V s) Q) {R1 : Int32 → mS → Option (Int32 × mS)} (hR1 : ∀ {x1 : Int32} {s : mS} {res : (Int32 × mS)} {Q : mPo}, R1 x1 s = some res → Q (some (.int res.1)) (V res.2) → mC ρ (n + d + 2) 49 [.ref qP, .int x1] (V s) Q)  {res : (Int32 × mS)} (hP : P (some (.int res.1)) (V res.2)) : ∀ (k : Nat) (y1 : Int32) (y2 : Int32) (y3 : Int32) (y4 : Int32) (s : mS), gX8_readLevel_b41 R0 R1 k y1 y2 y3 y4 s = some res → mG ρ (mC ρ (n + d + 2)) 8 6 cX8_readLevel (some .boolean) P 41 [(0, .ref qP), (1, .int y1), (2, .int y2), (3, .int y3), (4, .int y4)] [] (V s) := by
  intro k
  induction k with
  | zero => intro y1 y2 y3 y4 s hf; rw [gX8_readLevel_b41] at hf; cases hf
  | succ k ih =>
    intro y1 y2 y3 y4 s hf
    rw [gX8_readLevel_b41] at hf
    refine e_iload 4 dX8_readLevel_41 rfl ?_
    refine e_iload_n 3 dX8_readLevel_43 rfl rfl ?_
    refine e_icmp_ge 100 dX8_readLevel_44 (by decide) hf (fun hf => ?_) (fun hf => ?_)
    · refine e_iconst (w := (nI 1)) dX8_readLevel_100 (by decide) ?_
      obtain rfl := Option.some.inj hf
      exact e_iret dX8_readLevel_101 (Or.inr rfl) hP
    · refine e_aload_n 0 dX8_readLevel_47 rfl rfl ?_
      obtain ⟨r5, hg, hf⟩ := bO_some hf
      refine e_callV (as := []) (v := (some (.int r5))) (s' := s) hV dX8_readLevel_48 (Or.inl rfl) rfl rfl rfl rfl (Nat.le_of_ble_eq_true rfl) lc_P rfl rfl (fun Q hQ => tX8_next (d := (n + d + 1)) hV  hg hQ) ?_
      obtain ⟨r6, hg, hf⟩ := bO_some hf
      refine e_callS (as := [.int r5]) (v := (some (.int r6))) (s' := s) dX8_readLevel_51 rfl rfl rfl rfl rfl (Nat.le_of_ble_eq_true rfl) (fun Q hQ => tX8_levelOf (d := (n + d + 1)) hV  hg hQ) ?_
      refine e_iload_n 1 dX8_readLevel_54 rfl rfl ?_
      refine e_icmp_ne 100 dX8_readLevel_55 (by decide) hf (fun hf => ?_) (fun hf => ?_)
      · refine e_iconst (w := (nI 1)) dX8_readLevel_100 (by decide) ?_
        obtain rfl := Option.some.inj hf
        exact e_iret dX8_readLevel_101 (Or.inr rfl) hP
      · refine e_aload_n 0 dX8_readLevel_58 rfl rfl ?_
        obtain ⟨r7, hg, hf⟩ := bO_some hf
        refine e_callV (as := []) (v := (some (.int r7))) (s' := s) hV dX8_readLevel_59 (Or.inl rfl) rfl rfl rfl rfl (Nat.le_of_ble_eq_true rfl) lc_P rfl rfl (fun Q hQ => tX8_next (d := (n + d + 1)) hV  hg hQ) ?_
        refine e_istore dX8_readLevel_62 (by decide) hf (fun v8 hf => ?_)
        refine e_aload_n 1 dX8_readLevel_64 rfl rfl ?_
        refine e_dup dX8_readLevel_65 rfl ?_
        refine e_geti hV dX8_readLevel_66 rfl lc_P rfl ?_
        refine e_iconst (w := (nI 1)) dX8_readLevel_69 (by decide) ?_
        refine e_iadd dX8_readLevel_70 ?_
        refine e_puti hV dX8_readLevel_71 rfl rfl rfl (Or.inl rfl) lc_P rfl hf (fun s9 hf => ?_)
        refine e_aload_n 1 dX8_readLevel_74 rfl rfl ?_
        refine e_iload_n 2 dX8_readLevel_75 rfl rfl ?_
        refine e_iconst (w := (nI 1)) dX8_readLevel_76 (by decide) ?_
        refine e_iadd dX8_readLevel_77 ?_
        refine e_iload_n 3 dX8_readLevel_78 rfl rfl ?_
        obtain ⟨r10, s11, hg, hf⟩ := bP_some hf
        refine e_callV (as := [.int (y1 + (nI 1)), .int y2]) (v := (some (.int r10))) (s' := s11) hV dX8_readLevel_79 (Or.inl rfl) rfl rfl rfl rfl (Nat.le_of_ble_eq_true rfl) lc_P rfl rfl (fun Q hQ => hR0 hg hQ) ?_
        refine e_if_ne 87 dX8_readLevel_82 (by decide) hf (fun hf => ?_) (fun hf => ?_)
        · refine e_aload_n 1 dX8_readLevel_87 rfl rfl ?_
          refine e_iload 0 dX8_readLevel_88 rfl ?_
          refine e_ineg dX8_readLevel_90 ?_
          obtain ⟨s12, hg, hf⟩ := bO_some hf
          refine e_callV (as := [.int (-v8)]) (v := none) (s' := s12) hV dX8_readLevel_91 (Or.inl rfl) rfl rfl rfl rfl (Nat.le_of_ble_eq_true rfl) lc_P rfl rfl (fun Q hQ => tX8_addStep (d := (n + d + 1)) hV  hg hQ) ?_
          refine e_iinc 5 dX8_readLevel_94 (by decide) rfl hf (fun v13 hf => ?_)
          refine e_goto 41 dX8_readLevel_97 (by decide) ?_
          refine e_pick [2, 3, 4, 5, 0] rfl ?_
          exact ih y1 y2 y3 v13 s12 hf
        · refine e_iconst (w := (nI 0)) dX8_readLevel_85 (by decide) ?_
          obtain rfl := Option.some.inj hf
          exact e_iret dX8_readLevel_86 (Or.inl rfl) hP
set_option maxRecDepth 20000 in
theorem wX8_readLevel_b37 {ρ : mRo} {n d : Nat} {P : mPo} {V : mS → List mE} (hV : mView LC V) {R0 : Int32 → Int32 → mS → Option (Int32 × mS)} (hR0 : ∀ {x1 x2 : Int32} {s : mS} {res : (Int32 × mS)} {Q : mPo}, R0 x1 x2 s = some res → Q (some (.int res.1)) (V res.2) → mC ρ (n + d + 2) 48 [.ref qP, .int x1, .int x2] (V s) Q) {R1 : Int32 → mS → Option (Int32 × mS)} (hR1 : ∀ {x1 : Int32} {s : mS} {res : (Int32 × mS)} {Q : mPo}, R1 x1 s = some res → Q (some (.int res.1)) (V res.2) → mC ρ (n + d + 2) 49 [.ref qP, .int x1] (V s) Q)  {res : (Int32 × mS)} (hP : P (some (.int res.1)) (V res.2)) (y1 : Int32) (y2 : Int32) (z0 : Int32) (s : mS) (hf : gX8_readLevel_b37 R0 R1 y1 y2 z0 s = some res) : mG ρ (mC ρ (n + d + 2)) 8 6 cX8_readLevel (some .boolean) P 37 [(0, .ref qP), (1, .int y1), (2, .int y2)] [.int z0] (V s) := by
  unfold gX8_readLevel_b37 at hf
  refine e_istore_n dX8_readLevel_37 rfl (by decide) hf (fun v3 hf => ?_)
  refine e_iconst (w := (nI 0)) dX8_readLevel_38 (by decide) ?_
  refine e_istore dX8_readLevel_39 (by decide) hf (fun v4 hf => ?_)
  refine e_pick [2, 3, 4, 1, 0] rfl ?_
  exact wX8_readLevel_b41 hV hR0 hR1 hP mFu y1 y2 v3 v4 s hf
set_option maxRecDepth 20000 in
theorem uX8_readLevel {ρ : mRo} {n d : Nat} {P : mPo} {V : mS → List mE} (hV : mView LC V) {R0 : Int32 → Int32 → mS → Option (Int32 × mS)} (hR0 : ∀ {x1 x2 : Int32} {s : mS} {res : (Int32 × mS)} {Q : mPo}, R0 x1 x2 s = some res → Q (some (.int res.1)) (V res.2) → mC ρ (n + d + 2) 48 [.ref qP, .int x1, .int x2] (V s) Q) {R1 : Int32 → mS → Option (Int32 × mS)} (hR1 : ∀ {x1 : Int32} {s : mS} {res : (Int32 × mS)} {Q : mPo}, R1 x1 s = some res → Q (some (.int res.1)) (V res.2) → mC ρ (n + d + 2) 49 [.ref qP, .int x1] (V s) Q)  {x1 : Int32} {x2 : Int32} {s : mS} {res : (Int32 × mS)} (hf : gX8_readLevel R0 R1 x1 x2 s = some res) (hP : P (some (.int res.1)) (V res.2)) : mC ρ (n + d + 2 + 1) 48 [.ref qP, .int x1, .int x2] (V s) P := by
  refine ⟨_, rfl, Nat.le_of_ble_eq_true rfl, by decide, ?_⟩
  show mG ρ (mC ρ (n + d + 2)) 8 6 cX8_readLevel (some .boolean) P 0 [(0, .ref qP), (1, .int x1), (2, .int x2)] [] (V s)
  unfold gX8_readLevel at hf
  refine e_iload_n 1 dX8_readLevel_0 rfl rfl ?_
  refine e_iconst (w := (nI 5)) dX8_readLevel_1 (by decide) ?_
  refine e_icmp_lt 11 dX8_readLevel_2 (by decide) hf (fun hf => ?_) (fun hf => ?_)
  · refine e_aload_n 0 dX8_readLevel_11 rfl rfl ?_
    refine e_iload_n 1 dX8_readLevel_12 rfl rfl ?_
    refine e_iconst (w := (nI 1)) dX8_readLevel_13 (by decide) ?_
    refine e_iadd dX8_readLevel_14 ?_
    refine e_iload_n 2 dX8_readLevel_15 rfl rfl ?_
    obtain ⟨r1, s2, hg, hf⟩ := bP_some hf
    refine e_callV (as := [.int (x1 + (nI 1)), .int x2]) (v := (some (.int r1))) (s' := s2) hV dX8_readLevel_16 (Or.inl rfl) rfl rfl rfl rfl (Nat.le_of_ble_eq_true rfl) lc_P rfl rfl (fun Q hQ => hR0 hg hQ) ?_
    refine e_if_ne 24 dX8_readLevel_19 (by decide) hf (fun hf => ?_) (fun hf => ?_)
    · refine e_iload_n 1 dX8_readLevel_24 rfl rfl ?_
      refine e_iconst (w := (nI 2)) dX8_readLevel_25 (by decide) ?_
      refine e_icmp_ne 33 dX8_readLevel_26 (by decide) hf (fun hf => ?_) (fun hf => ?_)
      · refine e_aload_n 0 dX8_readLevel_33 rfl rfl ?_
        refine e_geti hV dX8_readLevel_34 rfl lc_P rfl ?_
        refine e_pick [0, 1, 2] rfl ?_
        exact wX8_readLevel_b37 hV hR0 hR1 hP x1 x2 (gI s2 iP_size) s2 hf
      · refine e_iconst (w := (nI 1)) dX8_readLevel_29 (by decide) ?_
        refine e_goto 37 dX8_readLevel_30 (by decide) ?_
        refine e_pick [0, 1, 2] rfl ?_
        exact wX8_readLevel_b37 hV hR0 hR1 hP x1 x2 (nI 1) s2 hf
    · refine e_iconst (w := (nI 0)) dX8_readLevel_22 (by decide) ?_
      obtain rfl := Option.some.inj hf
      exact e_iret dX8_readLevel_23 (Or.inl rfl) hP
  · refine e_aload_n 0 dX8_readLevel_5 rfl rfl ?_
    refine e_iload_n 2 dX8_readLevel_6 rfl rfl ?_
    obtain ⟨r14, s15, hg, hf⟩ := bP_some hf
    refine e_callV (as := [.int x2]) (v := (some (.int r14))) (s' := s15) hV dX8_readLevel_7 (Or.inl rfl) rfl rfl rfl rfl (Nat.le_of_ble_eq_true rfl) lc_P rfl rfl (fun Q hQ => hR1 hg hQ) ?_
    obtain ⟨hb0, hf⟩ := rB_some hf
    obtain rfl := Option.some.inj hf
    exact e_iret dX8_readLevel_10 hb0 hP

def sccX8_readLevel : Nat → (Int32 → Int32 → mS → Option (Int32 × mS)) × (Int32 → mS → Option (Int32 × mS))
  | 0 => (fun _ _ _ => none, fun _ _ => none)
  | n + 1 => (gX8_readLevel ((sccX8_readLevel n).1) ((sccX8_readLevel n).2), gX8_readOperand ((sccX8_readLevel n).1) ((sccX8_readLevel n).2))
theorem tsccX8_readLevel {ρ : mRo} {d : Nat} {V : mS → List mE} (hV : mView LC V) : ∀ n : Nat, (∀ {x1 x2 : Int32} {s : mS} {res : (Int32 × mS)} {Q : mPo}, (sccX8_readLevel n).1 x1 x2 s = some res → Q (some (.int res.1)) (V res.2) → mC ρ (n + d + 2) 48 [.ref qP, .int x1, .int x2] (V s) Q) ∧ (∀ {x1 : Int32} {s : mS} {res : (Int32 × mS)} {Q : mPo}, (sccX8_readLevel n).2 x1 s = some res → Q (some (.int res.1)) (V res.2) → mC ρ (n + d + 2) 49 [.ref qP, .int x1] (V s) Q) := by
  intro n
  induction n with
  | zero => exact ⟨(fun hf _ => nomatch hf), (fun hf _ => nomatch hf)⟩
  | succ n ih =>
    rw [show n + 1 + d + 2 = n + d + 2 + 1 by omega]
    exact ⟨(fun hf hP => uX8_readLevel hV (ih).1 (ih).2 hf hP), (fun hf hP => uX8_readOperand hV (ih).1 (ih).2 hf hP)⟩
def fX8_readLevel (x1 : Int32) (x2 : Int32) (s : mS) : Option (Int32 × mS) := (sccX8_readLevel 60).1 x1 x2 s
theorem tX8_readLevel {ρ : mRo} {d : Nat} {P : mPo} {V : mS → List mE} (hV : mView LC V) {x1 : Int32} {x2 : Int32} {s : mS} {res : (Int32 × mS)} (hf : fX8_readLevel x1 x2 s = some res) (hP : P (some (.int res.1)) (V res.2)) : mC ρ (d + 62) 48 [.ref qP, .int x1, .int x2] (V s) P := by
  rw [show d + 62 = 60 + d + 2 by omega]
  exact (tsccX8_readLevel hV 60).1 hf hP
def fX8_readOperand (x1 : Int32) (s : mS) : Option (Int32 × mS) := (sccX8_readLevel 60).2 x1 s
theorem tX8_readOperand {ρ : mRo} {d : Nat} {P : mPo} {V : mS → List mE} (hV : mView LC V) {x1 : Int32} {s : mS} {res : (Int32 × mS)} (hf : fX8_readOperand x1 s = some res) (hP : P (some (.int res.1)) (V res.2)) : mC ρ (d + 62) 49 [.ref qP, .int x1] (V s) P := by
  rw [show d + 62 = 60 + d + 2 by omega]
  exact (tsccX8_readLevel hV 60).2 hf hP

theorem dX8_readLine_0 : decode cX8_readLine 0 = .ok (.aload_n 0, 1) := by decide +kernel
theorem dX8_readLine_1 : decode cX8_readLine 1 = .ok (.iconst 0, 1) := by decide +kernel
theorem dX8_readLine_2 : decode cX8_readLine 2 = .ok (.iconst 0, 1) := by decide +kernel
theorem dX8_readLine_3 : decode cX8_readLine 3 = .ok (.invokevirtual 34, 3) := by decide +kernel
theorem dX8_readLine_6 : decode cX8_readLine 6 = .ok (.ifCond .ne 5, 3) := by decide +kernel
theorem dX8_readLine_9 : decode cX8_readLine 9 = .ok (.iconst 0, 1) := by decide +kernel
theorem dX8_readLine_10 : decode cX8_readLine 10 = .ok (.ireturn, 1) := by decide +kernel
theorem dX8_readLine_11 : decode cX8_readLine 11 = .ok (.aload_n 0, 1) := by decide +kernel
theorem dX8_readLine_12 : decode cX8_readLine 12 = .ok (.bipush 63, 2) := by decide +kernel
theorem dX8_readLine_14 : decode cX8_readLine 14 = .ok (.invokevirtual 30, 3) := by decide +kernel
theorem dX8_readLine_17 : decode cX8_readLine 17 = .ok (.ifCond .ne 11, 3) := by decide +kernel
theorem dX8_readLine_20 : decode cX8_readLine 20 = .ok (.aload_n 0, 1) := by decide +kernel
theorem dX8_readLine_21 : decode cX8_readLine 21 = .ok (.bipush (-2), 2) := by decide +kernel
theorem dX8_readLine_23 : decode cX8_readLine 23 = .ok (.invokevirtual 38, 3) := by decide +kernel
theorem dX8_readLine_26 : decode cX8_readLine 26 = .ok (.iconst 1, 1) := by decide +kernel
theorem dX8_readLine_27 : decode cX8_readLine 27 = .ok (.ireturn, 1) := by decide +kernel
theorem dX8_readLine_28 : decode cX8_readLine 28 = .ok (.aload_n 0, 1) := by decide +kernel
theorem dX8_readLine_29 : decode cX8_readLine 29 = .ok (.iconst 0, 1) := by decide +kernel
theorem dX8_readLine_30 : decode cX8_readLine 30 = .ok (.iconst 0, 1) := by decide +kernel
theorem dX8_readLine_31 : decode cX8_readLine 31 = .ok (.invokevirtual 34, 3) := by decide +kernel
theorem dX8_readLine_34 : decode cX8_readLine 34 = .ok (.ifCond .ne 5, 3) := by decide +kernel
theorem dX8_readLine_37 : decode cX8_readLine 37 = .ok (.iconst 0, 1) := by decide +kernel
theorem dX8_readLine_38 : decode cX8_readLine 38 = .ok (.ireturn, 1) := by decide +kernel
theorem dX8_readLine_39 : decode cX8_readLine 39 = .ok (.aload_n 0, 1) := by decide +kernel
theorem dX8_readLine_40 : decode cX8_readLine 40 = .ok (.bipush (-3), 2) := by decide +kernel
theorem dX8_readLine_42 : decode cX8_readLine 42 = .ok (.invokevirtual 38, 3) := by decide +kernel
theorem dX8_readLine_45 : decode cX8_readLine 45 = .ok (.iconst 1, 1) := by decide +kernel
theorem dX8_readLine_46 : decode cX8_readLine 46 = .ok (.ireturn, 1) := by decide +kernel
def fX8_readLine (s : mS) : Option (Int32 × mS) :=
  bP (fX8_readLevel (nI 0) (nI 0) s) fun r1 s2 =>
  if r1 = 0 then
    some ((nI 0), s2)
  else
    bP (fX8_takes (nI 63) s2) fun r3 s4 =>
    if r3 = 0 then
      bO (fX8_addStep (-2) s4) fun s8 =>
      some ((nI 1), s8)
    else
      bP (fX8_readLevel (nI 0) (nI 0) s4) fun r5 s6 =>
      if r5 = 0 then
        some ((nI 0), s6)
      else
        bO (fX8_addStep (-3) s6) fun s7 =>
        some ((nI 1), s7)

set_option maxRecDepth 20000 in
theorem tX8_readLine {ρ : mRo} {d : Nat} {P : mPo} {V : mS → List mE} (hV : mView LC V)  {s : mS} {res : (Int32 × mS)} (hf : fX8_readLine s = some res) (hP : P (some (.int res.1)) (V res.2)) : mC ρ (d + 63) 47 [.ref qP] (V s) P := by
  refine ⟨_, rfl, Nat.le_of_ble_eq_true rfl, by decide, ?_⟩
  show mG ρ (mC ρ (d + 62)) 8 1 cX8_readLine (some .boolean) P 0 [(0, .ref qP)] [] (V s)
  unfold fX8_readLine at hf
  refine e_aload_n 0 dX8_readLine_0 rfl rfl ?_
  refine e_iconst (w := (nI 0)) dX8_readLine_1 (by decide) ?_
  refine e_iconst (w := (nI 0)) dX8_readLine_2 (by decide) ?_
  obtain ⟨r1, s2, hg, hf⟩ := bP_some hf
  refine e_callV (as := [.int (nI 0), .int (nI 0)]) (v := (some (.int r1))) (s' := s2) hV dX8_readLine_3 (Or.inl rfl) rfl rfl rfl rfl (Nat.le_of_ble_eq_true rfl) lc_P rfl rfl (fun Q hQ => tX8_readLevel (d := d) hV  hg hQ) ?_
  refine e_if_ne 11 dX8_readLine_6 (by decide) hf (fun hf => ?_) (fun hf => ?_)
  · refine e_aload_n 0 dX8_readLine_11 rfl rfl ?_
    refine e_bipush (w := (nI 63)) dX8_readLine_12 (by decide) ?_
    obtain ⟨r3, s4, hg, hf⟩ := bP_some hf
    refine e_callV (as := [.int (nI 63)]) (v := (some (.int r3))) (s' := s4) hV dX8_readLine_14 (Or.inl rfl) rfl rfl rfl rfl (Nat.le_of_ble_eq_true rfl) lc_P rfl rfl (fun Q hQ => tX8_takes (d := (d + 60)) hV  hg hQ) ?_
    refine e_if_ne 28 dX8_readLine_17 (by decide) hf (fun hf => ?_) (fun hf => ?_)
    · refine e_aload_n 0 dX8_readLine_28 rfl rfl ?_
      refine e_iconst (w := (nI 0)) dX8_readLine_29 (by decide) ?_
      refine e_iconst (w := (nI 0)) dX8_readLine_30 (by decide) ?_
      obtain ⟨r5, s6, hg, hf⟩ := bP_some hf
      refine e_callV (as := [.int (nI 0), .int (nI 0)]) (v := (some (.int r5))) (s' := s6) hV dX8_readLine_31 (Or.inl rfl) rfl rfl rfl rfl (Nat.le_of_ble_eq_true rfl) lc_P rfl rfl (fun Q hQ => tX8_readLevel (d := d) hV  hg hQ) ?_
      refine e_if_ne 39 dX8_readLine_34 (by decide) hf (fun hf => ?_) (fun hf => ?_)
      · refine e_aload_n 0 dX8_readLine_39 rfl rfl ?_
        refine e_bipush (w := (-3)) dX8_readLine_40 (by decide) ?_
        obtain ⟨s7, hg, hf⟩ := bO_some hf
        refine e_callV (as := [.int (-3)]) (v := none) (s' := s7) hV dX8_readLine_42 (Or.inl rfl) rfl rfl rfl rfl (Nat.le_of_ble_eq_true rfl) lc_P rfl rfl (fun Q hQ => tX8_addStep (d := (d + 61)) hV  hg hQ) ?_
        refine e_iconst (w := (nI 1)) dX8_readLine_45 (by decide) ?_
        obtain rfl := Option.some.inj hf
        exact e_iret dX8_readLine_46 (Or.inr rfl) hP
      · refine e_iconst (w := (nI 0)) dX8_readLine_37 (by decide) ?_
        obtain rfl := Option.some.inj hf
        exact e_iret dX8_readLine_38 (Or.inl rfl) hP
    · refine e_aload_n 0 dX8_readLine_20 rfl rfl ?_
      refine e_bipush (w := (-2)) dX8_readLine_21 (by decide) ?_
      obtain ⟨s8, hg, hf⟩ := bO_some hf
      refine e_callV (as := [.int (-2)]) (v := none) (s' := s8) hV dX8_readLine_23 (Or.inl rfl) rfl rfl rfl rfl (Nat.le_of_ble_eq_true rfl) lc_P rfl rfl (fun Q hQ => tX8_addStep (d := (d + 61)) hV  hg hQ) ?_
      refine e_iconst (w := (nI 1)) dX8_readLine_26 (by decide) ?_
      obtain rfl := Option.some.inj hf
      exact e_iret dX8_readLine_27 (Or.inr rfl) hP
  · refine e_iconst (w := (nI 0)) dX8_readLine_9 (by decide) ?_
    obtain rfl := Option.some.inj hf
    exact e_iret dX8_readLine_10 (Or.inl rfl) hP

theorem dX8_read_0 : decode cX8_read 0 = .ok (.aload_n 0, 1) := by decide +kernel
theorem dX8_read_1 : decode cX8_read 1 = .ok (.iconst 0, 1) := by decide +kernel
theorem dX8_read_2 : decode cX8_read 2 = .ok (.putfield 20, 3) := by decide +kernel
theorem dX8_read_5 : decode cX8_read 5 = .ok (.aload_n 0, 1) := by decide +kernel
theorem dX8_read_6 : decode cX8_read 6 = .ok (.iconst 0, 1) := by decide +kernel
theorem dX8_read_7 : decode cX8_read 7 = .ok (.putfield 23, 3) := by decide +kernel
theorem dX8_read_10 : decode cX8_read 10 = .ok (.iconst 0, 1) := by decide +kernel
theorem dX8_read_11 : decode cX8_read 11 = .ok (.istore_n 1, 1) := by decide +kernel
theorem dX8_read_12 : decode cX8_read 12 = .ok (.iload_n 1, 1) := by decide +kernel
theorem dX8_read_13 : decode cX8_read 13 = .ok (.aload_n 0, 1) := by decide +kernel
theorem dX8_read_14 : decode cX8_read 14 = .ok (.getfield 16, 3) := by decide +kernel
theorem dX8_read_17 : decode cX8_read 17 = .ok (.if_icmp .gt 44, 3) := by decide +kernel
theorem dX8_read_20 : decode cX8_read 20 = .ok (.aload_n 0, 1) := by decide +kernel
theorem dX8_read_21 : decode cX8_read 21 = .ok (.invokevirtual 26, 3) := by decide +kernel
theorem dX8_read_24 : decode cX8_read 24 = .ok (.ifCond .ne 5, 3) := by decide +kernel
theorem dX8_read_27 : decode cX8_read 27 = .ok (.iconst 0, 1) := by decide +kernel
theorem dX8_read_28 : decode cX8_read 28 = .ok (.ireturn, 1) := by decide +kernel
theorem dX8_read_29 : decode cX8_read 29 = .ok (.aload_n 0, 1) := by decide +kernel
theorem dX8_read_30 : decode cX8_read 30 = .ok (.bipush 59, 2) := by decide +kernel
theorem dX8_read_32 : decode cX8_read 32 = .ok (.invokevirtual 30, 3) := by decide +kernel
theorem dX8_read_35 : decode cX8_read 35 = .ok (.ifCond .ne 20, 3) := by decide +kernel
theorem dX8_read_38 : decode cX8_read 38 = .ok (.aload_n 0, 1) := by decide +kernel
theorem dX8_read_39 : decode cX8_read 39 = .ok (.getfield 20, 3) := by decide +kernel
theorem dX8_read_42 : decode cX8_read 42 = .ok (.aload_n 0, 1) := by decide +kernel
theorem dX8_read_43 : decode cX8_read 43 = .ok (.getfield 16, 3) := by decide +kernel
theorem dX8_read_46 : decode cX8_read 46 = .ok (.if_icmp .ne 7, 3) := by decide +kernel
theorem dX8_read_49 : decode cX8_read 49 = .ok (.iconst 1, 1) := by decide +kernel
theorem dX8_read_50 : decode cX8_read 50 = .ok (.goto 4, 3) := by decide +kernel
theorem dX8_read_53 : decode cX8_read 53 = .ok (.iconst 0, 1) := by decide +kernel
theorem dX8_read_54 : decode cX8_read 54 = .ok (.ireturn, 1) := by decide +kernel
theorem dX8_read_55 : decode cX8_read 55 = .ok (.iinc 1 1, 3) := by decide +kernel
theorem dX8_read_58 : decode cX8_read 58 = .ok (.goto (-46), 3) := by decide +kernel
theorem dX8_read_61 : decode cX8_read 61 = .ok (.iconst 0, 1) := by decide +kernel
theorem dX8_read_62 : decode cX8_read 62 = .ok (.ireturn, 1) := by decide +kernel
def fX8_read_b12 : Nat → Int32 → mS → Option (Int32 × mS)
  | 0, _, _ => none
  | k + 1, y1, s =>
    if (gI s iP_size) < y1 then
      some ((nI 0), s)
    else
      bP (fX8_readLine s) fun r4 s5 =>
      if r4 = 0 then
        some ((nI 0), s5)
      else
        bP (fX8_takes (nI 59) s5) fun r6 s7 =>
        if r6 = 0 then
          if (gI s7 iP_at) = (gI s7 iP_size) then
            some ((nI 1), s7)
          else
            some ((nI 0), s7)
        else
          bnd (y1 + (nI 1)) fun v8 =>
          fX8_read_b12 k v8 s7

def fX8_read (s : mS) : Option (Int32 × mS) :=
  bnd (pI s iP_at (nI 0)) fun s1 =>
  bnd (pI s1 iP_stepsSize (nI 0)) fun s2 =>
  bnd (nI 0) fun v3 =>
  fX8_read_b12 mFu v3 s2

set_option maxRecDepth 20000 in
theorem wX8_read_b12 {ρ : mRo} {d : Nat} {P : mPo} {V : mS → List mE} (hV : mView LC V)  {res : (Int32 × mS)} (hP : P (some (.int res.1)) (V res.2)) : ∀ (k : Nat) (y1 : Int32) (s : mS), fX8_read_b12 k y1 s = some res → mG ρ (mC ρ (d + 63)) 8 2 cX8_read (some .boolean) P 12 [(0, .ref qP), (1, .int y1)] [] (V s) := by
  intro k
  induction k with
  | zero => intro y1 s hf; rw [fX8_read_b12] at hf; cases hf
  | succ k ih =>
    intro y1 s hf
    rw [fX8_read_b12] at hf
    refine e_iload_n 1 dX8_read_12 rfl rfl ?_
    refine e_aload_n 0 dX8_read_13 rfl rfl ?_
    refine e_geti hV dX8_read_14 rfl lc_P rfl ?_
    refine e_icmp_gt 61 dX8_read_17 (by decide) hf (fun hf => ?_) (fun hf => ?_)
    · refine e_iconst (w := (nI 0)) dX8_read_61 (by decide) ?_
      obtain rfl := Option.some.inj hf
      exact e_iret dX8_read_62 (Or.inl rfl) hP
    · refine e_aload_n 0 dX8_read_20 rfl rfl ?_
      obtain ⟨r4, s5, hg, hf⟩ := bP_some hf
      refine e_callV (as := []) (v := (some (.int r4))) (s' := s5) hV dX8_read_21 (Or.inl rfl) rfl rfl rfl rfl (Nat.le_of_ble_eq_true rfl) lc_P rfl rfl (fun Q hQ => tX8_readLine (d := d) hV  hg hQ) ?_
      refine e_if_ne 29 dX8_read_24 (by decide) hf (fun hf => ?_) (fun hf => ?_)
      · refine e_aload_n 0 dX8_read_29 rfl rfl ?_
        refine e_bipush (w := (nI 59)) dX8_read_30 (by decide) ?_
        obtain ⟨r6, s7, hg, hf⟩ := bP_some hf
        refine e_callV (as := [.int (nI 59)]) (v := (some (.int r6))) (s' := s7) hV dX8_read_32 (Or.inl rfl) rfl rfl rfl rfl (Nat.le_of_ble_eq_true rfl) lc_P rfl rfl (fun Q hQ => tX8_takes (d := (d + 61)) hV  hg hQ) ?_
        refine e_if_ne 55 dX8_read_35 (by decide) hf (fun hf => ?_) (fun hf => ?_)
        · refine e_iinc 1 dX8_read_55 (by decide) rfl hf (fun v8 hf => ?_)
          refine e_goto 12 dX8_read_58 (by decide) ?_
          refine e_pick [1, 0] rfl ?_
          exact ih v8 s7 hf
        · refine e_aload_n 0 dX8_read_38 rfl rfl ?_
          refine e_geti hV dX8_read_39 rfl lc_P rfl ?_
          refine e_aload_n 0 dX8_read_42 rfl rfl ?_
          refine e_geti hV dX8_read_43 rfl lc_P rfl ?_
          refine e_icmp_ne 53 dX8_read_46 (by decide) hf (fun hf => ?_) (fun hf => ?_)
          · refine e_iconst (w := (nI 0)) dX8_read_53 (by decide) ?_
            obtain rfl := Option.some.inj hf
            exact e_iret dX8_read_54 (Or.inl rfl) hP
          · refine e_iconst (w := (nI 1)) dX8_read_49 (by decide) ?_
            refine e_goto 54 dX8_read_50 (by decide) ?_
            obtain rfl := Option.some.inj hf
            exact e_iret dX8_read_54 (Or.inr rfl) hP
      · refine e_iconst (w := (nI 0)) dX8_read_27 (by decide) ?_
        obtain rfl := Option.some.inj hf
        exact e_iret dX8_read_28 (Or.inl rfl) hP
set_option maxRecDepth 20000 in
theorem tX8_read {ρ : mRo} {d : Nat} {P : mPo} {V : mS → List mE} (hV : mView LC V)  {s : mS} {res : (Int32 × mS)} (hf : fX8_read s = some res) (hP : P (some (.int res.1)) (V res.2)) : mC ρ (d + 64) 46 [.ref qP] (V s) P := by
  refine ⟨_, rfl, Nat.le_of_ble_eq_true rfl, by decide, ?_⟩
  show mG ρ (mC ρ (d + 63)) 8 2 cX8_read (some .boolean) P 0 [(0, .ref qP)] [] (V s)
  unfold fX8_read at hf
  refine e_aload_n 0 dX8_read_0 rfl rfl ?_
  refine e_iconst (w := (nI 0)) dX8_read_1 (by decide) ?_
  refine e_puti hV dX8_read_2 rfl rfl rfl (Or.inl rfl) lc_P rfl hf (fun s1 hf => ?_)
  refine e_aload_n 0 dX8_read_5 rfl rfl ?_
  refine e_iconst (w := (nI 0)) dX8_read_6 (by decide) ?_
  refine e_puti hV dX8_read_7 rfl rfl rfl (Or.inl rfl) lc_P rfl hf (fun s2 hf => ?_)
  refine e_iconst (w := (nI 0)) dX8_read_10 (by decide) ?_
  refine e_istore_n dX8_read_11 rfl (by decide) hf (fun v3 hf => ?_)
  refine e_pick [1, 0] rfl ?_
  exact wX8_read_b12 hV hP mFu v3 s2 hf

theorem dX9_has_0 : decode cX9_has 0 = .ok (.iload_n 1, 1) := by decide +kernel
theorem dX9_has_1 : decode cX9_has 1 = .ok (.ifCond .lt 15, 3) := by decide +kernel
theorem dX9_has_4 : decode cX9_has 4 = .ok (.iload_n 1, 1) := by decide +kernel
theorem dX9_has_5 : decode cX9_has 5 = .ok (.aload_n 0, 1) := by decide +kernel
theorem dX9_has_6 : decode cX9_has 6 = .ok (.getfield 18, 3) := by decide +kernel
theorem dX9_has_9 : decode cX9_has 9 = .ok (.if_icmp .ge 7, 3) := by decide +kernel
theorem dX9_has_12 : decode cX9_has 12 = .ok (.iconst 1, 1) := by decide +kernel
theorem dX9_has_13 : decode cX9_has 13 = .ok (.goto 4, 3) := by decide +kernel
theorem dX9_has_16 : decode cX9_has 16 = .ok (.iconst 0, 1) := by decide +kernel
theorem dX9_has_17 : decode cX9_has 17 = .ok (.ireturn, 1) := by decide +kernel
def fX9_has (k0 : Nat) (x1 : Int32) (s : mS) : Option Int32 :=
  if x1 < 0 then
    some (nI 0)
  else
    if (gI s (iW_size k0)) ≤ x1 then
      some (nI 0)
    else
      some (nI 1)

set_option maxRecDepth 20000 in
theorem tX9_has {ρ : mRo} {d : Nat} {P : mPo} {V : mS → List mE} (hV : mView LC V)  {k0 : Nat} (hk0 : k0 < 2) {x1 : Int32} {s : mS} {res : Int32} (hf : fX9_has k0 x1 s = some res) (hP : P (some (.int res)) (V s)) : mC ρ (d + 1) 57 [.ref (qW k0), .int x1] (V s) P := by
  refine ⟨_, rfl, Nat.le_of_ble_eq_true rfl, by decide, ?_⟩
  show mG ρ (mC ρ d) 9 2 cX9_has (some .boolean) P 0 [(0, .ref (qW k0)), (1, .int x1)] [] (V s)
  unfold fX9_has at hf
  refine e_iload_n 1 dX9_has_0 rfl rfl ?_
  refine e_if_lt 16 dX9_has_1 (by decide) hf (fun hf => ?_) (fun hf => ?_)
  · refine e_iconst (w := (nI 0)) dX9_has_16 (by decide) ?_
    obtain rfl := Option.some.inj hf
    exact e_iret dX9_has_17 (Or.inl rfl) hP
  · refine e_iload_n 1 dX9_has_4 rfl rfl ?_
    refine e_aload_n 0 dX9_has_5 rfl rfl ?_
    refine e_geti hV dX9_has_6 rfl (lc_W hk0) rfl ?_
    refine e_icmp_ge 16 dX9_has_9 (by decide) hf (fun hf => ?_) (fun hf => ?_)
    · refine e_iconst (w := (nI 0)) dX9_has_16 (by decide) ?_
      obtain rfl := Option.some.inj hf
      exact e_iret dX9_has_17 (Or.inl rfl) hP
    · refine e_iconst (w := (nI 1)) dX9_has_12 (by decide) ?_
      refine e_goto 17 dX9_has_13 (by decide) ?_
      obtain rfl := Option.some.inj hf
      exact e_iret dX9_has_17 (Or.inr rfl) hP

theorem dX9_isFull_0 : decode cX9_isFull 0 = .ok (.aload_n 0, 1) := by decide +kernel
theorem dX9_isFull_1 : decode cX9_isFull 1 = .ok (.getfield 18, 3) := by decide +kernel
theorem dX9_isFull_4 : decode cX9_isFull 4 = .ok (.bipush 8, 2) := by decide +kernel
theorem dX9_isFull_6 : decode cX9_isFull 6 = .ok (.if_icmp .lt 7, 3) := by decide +kernel
theorem dX9_isFull_9 : decode cX9_isFull 9 = .ok (.iconst 1, 1) := by decide +kernel
theorem dX9_isFull_10 : decode cX9_isFull 10 = .ok (.goto 4, 3) := by decide +kernel
theorem dX9_isFull_13 : decode cX9_isFull 13 = .ok (.iconst 0, 1) := by decide +kernel
theorem dX9_isFull_14 : decode cX9_isFull 14 = .ok (.ireturn, 1) := by decide +kernel
def fX9_isFull (k0 : Nat) (s : mS) : Option Int32 :=
  if (gI s (iW_size k0)) < (nI 8) then
    some (nI 0)
  else
    some (nI 1)

set_option maxRecDepth 20000 in
theorem tX9_isFull {ρ : mRo} {d : Nat} {P : mPo} {V : mS → List mE} (hV : mView LC V)  {k0 : Nat} (hk0 : k0 < 2) {s : mS} {res : Int32} (hf : fX9_isFull k0 s = some res) (hP : P (some (.int res)) (V s)) : mC ρ (d + 1) 58 [.ref (qW k0)] (V s) P := by
  refine ⟨_, rfl, Nat.le_of_ble_eq_true rfl, by decide, ?_⟩
  show mG ρ (mC ρ d) 9 1 cX9_isFull (some .boolean) P 0 [(0, .ref (qW k0))] [] (V s)
  unfold fX9_isFull at hf
  refine e_aload_n 0 dX9_isFull_0 rfl rfl ?_
  refine e_geti hV dX9_isFull_1 rfl (lc_W hk0) rfl ?_
  refine e_bipush (w := (nI 8)) dX9_isFull_4 (by decide) ?_
  refine e_icmp_lt 13 dX9_isFull_6 (by decide) hf (fun hf => ?_) (fun hf => ?_)
  · refine e_iconst (w := (nI 0)) dX9_isFull_13 (by decide) ?_
    obtain rfl := Option.some.inj hf
    exact e_iret dX9_isFull_14 (Or.inl rfl) hP
  · refine e_iconst (w := (nI 1)) dX9_isFull_9 (by decide) ?_
    refine e_goto 14 dX9_isFull_10 (by decide) ?_
    obtain rfl := Option.some.inj hf
    exact e_iret dX9_isFull_14 (Or.inr rfl) hP

theorem dX9_join_0 : decode cX9_join 0 = .ok (.iconst 0, 1) := by decide +kernel
theorem dX9_join_1 : decode cX9_join 1 = .ok (.istore_n 2, 1) := by decide +kernel
theorem dX9_join_2 : decode cX9_join 2 = .ok (.iload_n 2, 1) := by decide +kernel
theorem dX9_join_3 : decode cX9_join 3 = .ok (.iconst 3, 1) := by decide +kernel
theorem dX9_join_4 : decode cX9_join 4 = .ok (.if_icmp .ge 27, 3) := by decide +kernel
theorem dX9_join_7 : decode cX9_join 7 = .ok (.aload_n 0, 1) := by decide +kernel
theorem dX9_join_8 : decode cX9_join 8 = .ok (.getfield 11, 3) := by decide +kernel
theorem dX9_join_11 : decode cX9_join 11 = .ok (.iconst 3, 1) := by decide +kernel
theorem dX9_join_12 : decode cX9_join 12 = .ok (.aload_n 0, 1) := by decide +kernel
theorem dX9_join_13 : decode cX9_join 13 = .ok (.getfield 18, 3) := by decide +kernel
theorem dX9_join_16 : decode cX9_join 16 = .ok (.imul, 1) := by decide +kernel
theorem dX9_join_17 : decode cX9_join 17 = .ok (.iload_n 2, 1) := by decide +kernel
theorem dX9_join_18 : decode cX9_join 18 = .ok (.iadd, 1) := by decide +kernel
theorem dX9_join_19 : decode cX9_join 19 = .ok (.iload_n 1, 1) := by decide +kernel
theorem dX9_join_20 : decode cX9_join 20 = .ok (.iload_n 2, 1) := by decide +kernel
theorem dX9_join_21 : decode cX9_join 21 = .ok (.invokestatic 22, 3) := by decide +kernel
theorem dX9_join_24 : decode cX9_join 24 = .ok (.iastore, 1) := by decide +kernel
theorem dX9_join_25 : decode cX9_join 25 = .ok (.iinc 2 1, 3) := by decide +kernel
theorem dX9_join_28 : decode cX9_join 28 = .ok (.goto (-26), 3) := by decide +kernel
theorem dX9_join_31 : decode cX9_join 31 = .ok (.aload_n 0, 1) := by decide +kernel
theorem dX9_join_32 : decode cX9_join 32 = .ok (.getfield 15, 3) := by decide +kernel
theorem dX9_join_35 : decode cX9_join 35 = .ok (.aload_n 0, 1) := by decide +kernel
theorem dX9_join_36 : decode cX9_join 36 = .ok (.getfield 18, 3) := by decide +kernel
theorem dX9_join_39 : decode cX9_join 39 = .ok (.bipush 6, 2) := by decide +kernel
theorem dX9_join_41 : decode cX9_join 41 = .ok (.iastore, 1) := by decide +kernel
theorem dX9_join_42 : decode cX9_join 42 = .ok (.aload_n 0, 1) := by decide +kernel
theorem dX9_join_43 : decode cX9_join 43 = .ok (.dup, 1) := by decide +kernel
theorem dX9_join_44 : decode cX9_join 44 = .ok (.getfield 18, 3) := by decide +kernel
theorem dX9_join_47 : decode cX9_join 47 = .ok (.iconst 1, 1) := by decide +kernel
theorem dX9_join_48 : decode cX9_join 48 = .ok (.iadd, 1) := by decide +kernel
theorem dX9_join_49 : decode cX9_join 49 = .ok (.putfield 18, 3) := by decide +kernel
theorem dX9_join_52 : decode cX9_join 52 = .ok (.aload_n 0, 1) := by decide +kernel
theorem dX9_join_53 : decode cX9_join 53 = .ok (.getfield 18, 3) := by decide +kernel
theorem dX9_join_56 : decode cX9_join 56 = .ok (.iconst 1, 1) := by decide +kernel
theorem dX9_join_57 : decode cX9_join 57 = .ok (.isub, 1) := by decide +kernel
theorem dX9_join_58 : decode cX9_join 58 = .ok (.ireturn, 1) := by decide +kernel
def fX9_join_b2 : Nat → Nat → Int32 → Int32 → mS → Option (Int32 × mS)
  | 0, _, _, _, _ => none
  | k + 1, k0, y1, y2, s =>
    if (nI 3) ≤ y2 then
      stA s (aW_touches k0) 8 (gI s (iW_size k0)) (nI 6) fun s2 =>
      bnd (pI s2 (iW_size k0) ((gI s2 (iW_size k0)) + (nI 1))) fun s3 =>
      some ((gI s3 (iW_size k0)) - (nI 1), s3)
    else
      bO (fX2_part y1 y2 s) fun r4 =>
      stA s (aW_hands k0) 24 (((nI 3) * (gI s (iW_size k0))) + y2) r4 fun s5 =>
      bnd (y2 + (nI 1)) fun v6 =>
      fX9_join_b2 k k0 y1 v6 s5

def fX9_join (k0 : Nat) (x1 : Int32) (s : mS) : Option (Int32 × mS) :=
  bnd (nI 0) fun v1 =>
  fX9_join_b2 mFu k0 x1 v1 s

set_option maxRecDepth 20000 in
theorem wX9_join_b2 {ρ : mRo} {d : Nat} {P : mPo} {V : mS → List mE} (hV : mView LC V)  {res : (Int32 × mS)} (hP : P (some (.int res.1)) (V res.2)) : ∀ (k : Nat) (k0 : Nat) (hk0 : k0 < 2) (y1 : Int32) (y2 : Int32) (s : mS), fX9_join_b2 k k0 y1 y2 s = some res → mG ρ (mC ρ (d + 1)) 9 3 cX9_join (some .int) P 2 [(0, .ref (qW k0)), (1, .int y1), (2, .int y2)] [] (V s) := by
  intro k
  induction k with
  | zero => intro k0 hk0 y1 y2 s hf; rw [fX9_join_b2] at hf; cases hf
  | succ k ih =>
    intro k0 hk0 y1 y2 s hf
    rw [fX9_join_b2] at hf
    refine e_iload_n 2 dX9_join_2 rfl rfl ?_
    refine e_iconst (w := (nI 3)) dX9_join_3 (by decide) ?_
    refine e_icmp_ge 31 dX9_join_4 (by decide) hf (fun hf => ?_) (fun hf => ?_)
    · refine e_aload_n 0 dX9_join_31 rfl rfl ?_
      refine e_getr hV dX9_join_32 rfl (lc_W hk0) rfl ?_
      refine e_aload_n 0 dX9_join_35 rfl rfl ?_
      refine e_geti hV dX9_join_36 rfl (lc_W hk0) rfl ?_
      refine e_bipush (w := (nI 6)) dX9_join_39 (by decide) ?_
      refine e_iast hV dX9_join_41 (lc_W_touches hk0) hf (fun s2 hf => ?_)
      refine e_aload_n 0 dX9_join_42 rfl rfl ?_
      refine e_dup dX9_join_43 rfl ?_
      refine e_geti hV dX9_join_44 rfl (lc_W hk0) rfl ?_
      refine e_iconst (w := (nI 1)) dX9_join_47 (by decide) ?_
      refine e_iadd dX9_join_48 ?_
      refine e_puti hV dX9_join_49 rfl rfl rfl (Or.inl rfl) (lc_W hk0) rfl hf (fun s3 hf => ?_)
      refine e_aload_n 0 dX9_join_52 rfl rfl ?_
      refine e_geti hV dX9_join_53 rfl (lc_W hk0) rfl ?_
      refine e_iconst (w := (nI 1)) dX9_join_56 (by decide) ?_
      refine e_isub dX9_join_57 ?_
      obtain rfl := Option.some.inj hf
      exact e_iret dX9_join_58 trivial hP
    · refine e_aload_n 0 dX9_join_7 rfl rfl ?_
      refine e_getr hV dX9_join_8 rfl (lc_W hk0) rfl ?_
      refine e_iconst (w := (nI 3)) dX9_join_11 (by decide) ?_
      refine e_aload_n 0 dX9_join_12 rfl rfl ?_
      refine e_geti hV dX9_join_13 rfl (lc_W hk0) rfl ?_
      refine e_imul dX9_join_16 ?_
      refine e_iload_n 2 dX9_join_17 rfl rfl ?_
      refine e_iadd dX9_join_18 ?_
      refine e_iload_n 1 dX9_join_19 rfl rfl ?_
      refine e_iload_n 2 dX9_join_20 rfl rfl ?_
      obtain ⟨r4, hg, hf⟩ := bO_some hf
      refine e_callS (as := [.int y1, .int y2]) (v := (some (.int r4))) (s' := s) dX9_join_21 rfl rfl rfl rfl rfl (Nat.le_of_ble_eq_true rfl) (fun Q hQ => tX2_part (d := d) hV  hg hQ) ?_
      refine e_iast hV dX9_join_24 (lc_W_hands hk0) hf (fun s5 hf => ?_)
      refine e_iinc 2 dX9_join_25 (by decide) rfl hf (fun v6 hf => ?_)
      refine e_goto 2 dX9_join_28 (by decide) ?_
      refine e_pick [1, 2, 0] rfl ?_
      exact ih k0 hk0 y1 v6 s5 hf
set_option maxRecDepth 20000 in
theorem tX9_join {ρ : mRo} {d : Nat} {P : mPo} {V : mS → List mE} (hV : mView LC V)  {k0 : Nat} (hk0 : k0 < 2) {x1 : Int32} {s : mS} {res : (Int32 × mS)} (hf : fX9_join k0 x1 s = some res) (hP : P (some (.int res.1)) (V res.2)) : mC ρ (d + 2) 59 [.ref (qW k0), .int x1] (V s) P := by
  refine ⟨_, rfl, Nat.le_of_ble_eq_true rfl, by decide, ?_⟩
  show mG ρ (mC ρ (d + 1)) 9 3 cX9_join (some .int) P 0 [(0, .ref (qW k0)), (1, .int x1)] [] (V s)
  unfold fX9_join at hf
  refine e_iconst (w := (nI 0)) dX9_join_0 (by decide) ?_
  refine e_istore_n dX9_join_1 rfl (by decide) hf (fun v1 hf => ?_)
  refine e_pick [1, 2, 0] rfl ?_
  exact wX9_join_b2 hV hP mFu k0 hk0 x1 v1 s hf

theorem dX9_handCode_0 : decode cX9_handCode 0 = .ok (.aload_n 0, 1) := by decide +kernel
theorem dX9_handCode_1 : decode cX9_handCode 1 = .ok (.iload_n 1, 1) := by decide +kernel
theorem dX9_handCode_2 : decode cX9_handCode 2 = .ok (.iconst 0, 1) := by decide +kernel
theorem dX9_handCode_3 : decode cX9_handCode 3 = .ok (.invokevirtual 26, 3) := by decide +kernel
theorem dX9_handCode_6 : decode cX9_handCode 6 = .ok (.aload_n 0, 1) := by decide +kernel
theorem dX9_handCode_7 : decode cX9_handCode 7 = .ok (.iload_n 1, 1) := by decide +kernel
theorem dX9_handCode_8 : decode cX9_handCode 8 = .ok (.iconst 1, 1) := by decide +kernel
theorem dX9_handCode_9 : decode cX9_handCode 9 = .ok (.invokevirtual 26, 3) := by decide +kernel
theorem dX9_handCode_12 : decode cX9_handCode 12 = .ok (.aload_n 0, 1) := by decide +kernel
theorem dX9_handCode_13 : decode cX9_handCode 13 = .ok (.iload_n 1, 1) := by decide +kernel
theorem dX9_handCode_14 : decode cX9_handCode 14 = .ok (.iconst 2, 1) := by decide +kernel
theorem dX9_handCode_15 : decode cX9_handCode 15 = .ok (.invokevirtual 26, 3) := by decide +kernel
theorem dX9_handCode_18 : decode cX9_handCode 18 = .ok (.invokestatic 29, 3) := by decide +kernel
theorem dX9_handCode_21 : decode cX9_handCode 21 = .ok (.ireturn, 1) := by decide +kernel
def fX9_handCode (k0 : Nat) (x1 : Int32) (s : mS) : Option Int32 :=
  bO (fX9_hand k0 x1 (nI 0) s) fun r1 =>
  bO (fX9_hand k0 x1 (nI 1) s) fun r2 =>
  bO (fX9_hand k0 x1 (nI 2) s) fun r3 =>
  bO (fX2_code r1 r2 r3 s) fun r4 =>
  some r4

set_option maxRecDepth 20000 in
theorem tX9_handCode {ρ : mRo} {d : Nat} {P : mPo} {V : mS → List mE} (hV : mView LC V)  {k0 : Nat} (hk0 : k0 < 2) {x1 : Int32} {s : mS} {res : Int32} (hf : fX9_handCode k0 x1 s = some res) (hP : P (some (.int res)) (V s)) : mC ρ (d + 2) 61 [.ref (qW k0), .int x1] (V s) P := by
  refine ⟨_, rfl, Nat.le_of_ble_eq_true rfl, by decide, ?_⟩
  show mG ρ (mC ρ (d + 1)) 9 2 cX9_handCode (some .int) P 0 [(0, .ref (qW k0)), (1, .int x1)] [] (V s)
  unfold fX9_handCode at hf
  refine e_aload_n 0 dX9_handCode_0 rfl rfl ?_
  refine e_iload_n 1 dX9_handCode_1 rfl rfl ?_
  refine e_iconst (w := (nI 0)) dX9_handCode_2 (by decide) ?_
  obtain ⟨r1, hg, hf⟩ := bO_some hf
  refine e_callV (as := [.int x1, .int (nI 0)]) (v := (some (.int r1))) (s' := s) hV dX9_handCode_3 (Or.inl rfl) rfl rfl rfl rfl (Nat.le_of_ble_eq_true rfl) (lc_W hk0) rfl rfl (fun Q hQ => tX9_hand (d := d) hV hk0 hg hQ) ?_
  refine e_aload_n 0 dX9_handCode_6 rfl rfl ?_
  refine e_iload_n 1 dX9_handCode_7 rfl rfl ?_
  refine e_iconst (w := (nI 1)) dX9_handCode_8 (by decide) ?_
  obtain ⟨r2, hg, hf⟩ := bO_some hf
  refine e_callV (as := [.int x1, .int (nI 1)]) (v := (some (.int r2))) (s' := s) hV dX9_handCode_9 (Or.inl rfl) rfl rfl rfl rfl (Nat.le_of_ble_eq_true rfl) (lc_W hk0) rfl rfl (fun Q hQ => tX9_hand (d := d) hV hk0 hg hQ) ?_
  refine e_aload_n 0 dX9_handCode_12 rfl rfl ?_
  refine e_iload_n 1 dX9_handCode_13 rfl rfl ?_
  refine e_iconst (w := (nI 2)) dX9_handCode_14 (by decide) ?_
  obtain ⟨r3, hg, hf⟩ := bO_some hf
  refine e_callV (as := [.int x1, .int (nI 2)]) (v := (some (.int r3))) (s' := s) hV dX9_handCode_15 (Or.inl rfl) rfl rfl rfl rfl (Nat.le_of_ble_eq_true rfl) (lc_W hk0) rfl rfl (fun Q hQ => tX9_hand (d := d) hV hk0 hg hQ) ?_
  obtain ⟨r4, hg, hf⟩ := bO_some hf
  refine e_callS (as := [.int r1, .int r2, .int r3]) (v := (some (.int r4))) (s' := s) dX9_handCode_18 rfl rfl rfl rfl rfl (Nat.le_of_ble_eq_true rfl) (fun Q hQ => tX2_code (d := d) hV  hg hQ) ?_
  obtain rfl := Option.some.inj hf
  exact e_iret dX9_handCode_21 trivial hP

theorem dX9_layBack_0 : decode cX9_layBack 0 = .ok (.aload_n 1, 1) := by decide +kernel
theorem dX9_layBack_1 : decode cX9_layBack 1 = .ok (.getfield 11, 3) := by decide +kernel
theorem dX9_layBack_4 : decode cX9_layBack 4 = .ok (.iconst 0, 1) := by decide +kernel
theorem dX9_layBack_5 : decode cX9_layBack 5 = .ok (.aload_n 0, 1) := by decide +kernel
theorem dX9_layBack_6 : decode cX9_layBack 6 = .ok (.getfield 11, 3) := by decide +kernel
theorem dX9_layBack_9 : decode cX9_layBack 9 = .ok (.iconst 0, 1) := by decide +kernel
theorem dX9_layBack_10 : decode cX9_layBack 10 = .ok (.iconst 3, 1) := by decide +kernel
theorem dX9_layBack_11 : decode cX9_layBack 11 = .ok (.aload_n 1, 1) := by decide +kernel
theorem dX9_layBack_12 : decode cX9_layBack 12 = .ok (.getfield 18, 3) := by decide +kernel
theorem dX9_layBack_15 : decode cX9_layBack 15 = .ok (.imul, 1) := by decide +kernel
theorem dX9_layBack_16 : decode cX9_layBack 16 = .ok (.invokestatic 37, 3) := by decide +kernel
theorem dX9_layBack_19 : decode cX9_layBack 19 = .ok (.return_, 1) := by decide +kernel
def fX9_layBack (k0 : Nat) (k1 : Nat) (s : mS) : Option mS :=
  cpA s (aW_hands k1) 24 (aW_hands k0) 24 (nI 0) (nI 0) ((nI 3) * (gI s (iW_size k1))) fun s1 =>
  some s1

set_option maxRecDepth 20000 in
theorem tX9_layBack {ρ : mRo} {d : Nat} {P : mPo} {V : mS → List mE} (hV : mView LC V)  {k0 : Nat} (hk0 : k0 < 2) {k1 : Nat} (hk1 : k1 < 2) {s : mS} {res : mS} (hf : fX9_layBack k0 k1 s = some res) (hP : P none (V res)) : mC ρ (d + 1) 63 [.ref (qW k0), .ref (qW k1)] (V s) P := by
  refine ⟨_, rfl, Nat.le_of_ble_eq_true rfl, by decide, ?_⟩
  show mG ρ (mC ρ d) 9 2 cX9_layBack none P 0 [(0, .ref (qW k0)), (1, .ref (qW k1))] [] (V s)
  unfold fX9_layBack at hf
  refine e_aload_n 1 dX9_layBack_0 rfl rfl ?_
  refine e_getr hV dX9_layBack_1 rfl (lc_W hk1) rfl ?_
  refine e_iconst (w := (nI 0)) dX9_layBack_4 (by decide) ?_
  refine e_aload_n 0 dX9_layBack_5 rfl rfl ?_
  refine e_getr hV dX9_layBack_6 rfl (lc_W hk0) rfl ?_
  refine e_iconst (w := (nI 0)) dX9_layBack_9 (by decide) ?_
  refine e_iconst (w := (nI 3)) dX9_layBack_10 (by decide) ?_
  refine e_aload_n 1 dX9_layBack_11 rfl rfl ?_
  refine e_geti hV dX9_layBack_12 rfl (lc_W hk1) rfl ?_
  refine e_imul dX9_layBack_15 ?_
  refine e_cpA hV dX9_layBack_16 (by decide) (Nat.le_of_ble_eq_true rfl) (lc_W_hands hk1) (lc_W_hands hk0) hf (fun s1 hf => ?_)
  obtain rfl := Option.some.inj hf
  exact e_ret dX9_layBack_19 rfl hP

theorem dX9_copy_0 : decode cX9_copy 0 = .ok (.aload_n 0, 1) := by decide +kernel
theorem dX9_copy_1 : decode cX9_copy 1 = .ok (.aload_n 1, 1) := by decide +kernel
theorem dX9_copy_2 : decode cX9_copy 2 = .ok (.invokevirtual 33, 3) := by decide +kernel
theorem dX9_copy_5 : decode cX9_copy 5 = .ok (.aload_n 0, 1) := by decide +kernel
theorem dX9_copy_6 : decode cX9_copy 6 = .ok (.aload_n 1, 1) := by decide +kernel
theorem dX9_copy_7 : decode cX9_copy 7 = .ok (.getfield 18, 3) := by decide +kernel
theorem dX9_copy_10 : decode cX9_copy 10 = .ok (.putfield 18, 3) := by decide +kernel
theorem dX9_copy_13 : decode cX9_copy 13 = .ok (.return_, 1) := by decide +kernel
def fX9_copy (k0 : Nat) (k1 : Nat) (s : mS) : Option mS :=
  bO (fX9_layBack k0 k1 s) fun s1 =>
  bnd (pI s1 (iW_size k0) (gI s1 (iW_size k1))) fun s2 =>
  some s2

set_option maxRecDepth 20000 in
theorem tX9_copy {ρ : mRo} {d : Nat} {P : mPo} {V : mS → List mE} (hV : mView LC V)  {k0 : Nat} (hk0 : k0 < 2) {k1 : Nat} (hk1 : k1 < 2) {s : mS} {res : mS} (hf : fX9_copy k0 k1 s = some res) (hP : P none (V res)) : mC ρ (d + 2) 62 [.ref (qW k0), .ref (qW k1)] (V s) P := by
  refine ⟨_, rfl, Nat.le_of_ble_eq_true rfl, by decide, ?_⟩
  show mG ρ (mC ρ (d + 1)) 9 2 cX9_copy none P 0 [(0, .ref (qW k0)), (1, .ref (qW k1))] [] (V s)
  unfold fX9_copy at hf
  refine e_aload_n 0 dX9_copy_0 rfl rfl ?_
  refine e_aload_n 1 dX9_copy_1 rfl rfl ?_
  obtain ⟨s1, hg, hf⟩ := bO_some hf
  refine e_callV (as := [.ref (qW k1)]) (v := none) (s' := s1) hV dX9_copy_2 (Or.inl rfl) rfl rfl rfl rfl (Nat.le_of_ble_eq_true rfl) (lc_W hk0) rfl rfl (fun Q hQ => tX9_layBack (d := d) hV hk0 hk1 hg hQ) ?_
  refine e_aload_n 0 dX9_copy_5 rfl rfl ?_
  refine e_aload_n 1 dX9_copy_6 rfl rfl ?_
  refine e_geti hV dX9_copy_7 rfl (lc_W hk1) rfl ?_
  refine e_puti hV dX9_copy_10 rfl rfl rfl (Or.inl rfl) (lc_W hk0) rfl hf (fun s2 hf => ?_)
  obtain rfl := Option.some.inj hf
  exact e_ret dX9_copy_13 rfl hP

theorem dX10_machine_0 : decode cX10_machine 0 = .ok (.aload_n 0, 1) := by decide +kernel
theorem dX10_machine_1 : decode cX10_machine 1 = .ok (.getfield 10, 3) := by decide +kernel
theorem dX10_machine_4 : decode cX10_machine 4 = .ok (.invokevirtual 91, 3) := by decide +kernel
theorem dX10_machine_7 : decode cX10_machine 7 = .ok (.ifCond .eq 8, 3) := by decide +kernel
theorem dX10_machine_10 : decode cX10_machine 10 = .ok (.bipush (-3), 2) := by decide +kernel
theorem dX10_machine_12 : decode cX10_machine 12 = .ok (.goto 16, 3) := by decide +kernel
theorem dX10_machine_15 : decode cX10_machine 15 = .ok (.aload_n 0, 1) := by decide +kernel
theorem dX10_machine_16 : decode cX10_machine 16 = .ok (.getfield 10, 3) := by decide +kernel
theorem dX10_machine_19 : decode cX10_machine 19 = .ok (.bipush 6, 2) := by decide +kernel
theorem dX10_machine_21 : decode cX10_machine 21 = .ok (.bipush 6, 2) := by decide +kernel
theorem dX10_machine_23 : decode cX10_machine 23 = .ok (.bipush 6, 2) := by decide +kernel
theorem dX10_machine_25 : decode cX10_machine 25 = .ok (.invokevirtual 95, 3) := by decide +kernel
theorem dX10_machine_28 : decode cX10_machine 28 = .ok (.ireturn, 1) := by decide +kernel
def fX10_machine (s : mS) : Option (Int32 × mS) :=
  bO (fX6_isFull 0 s) fun r1 =>
  if r1 = 0 then
    bP (fX6_join 0 (nI 6) (nI 6) (nI 6) s) fun r2 s3 =>
    some (r2, s3)
  else
    some ((-3), s)

set_option maxRecDepth 20000 in
theorem tX10_machine {ρ : mRo} {d : Nat} {P : mPo} {V : mS → List mE} (hV : mView LC V)  {s : mS} {res : (Int32 × mS)} (hf : fX10_machine s = some res) (hP : P (some (.int res.1)) (V res.2)) : mC ρ (d + 3) 64 [.ref qT] (V s) P := by
  refine ⟨_, rfl, Nat.le_of_ble_eq_true rfl, by decide, ?_⟩
  show mG ρ (mC ρ (d + 2)) 10 1 cX10_machine (some .int) P 0 [(0, .ref qT)] [] (V s)
  unfold fX10_machine at hf
  refine e_aload_n 0 dX10_machine_0 rfl rfl ?_
  refine e_getr hV dX10_machine_1 rfl lc_T rfl ?_
  obtain ⟨r1, hg, hf⟩ := bO_some hf
  refine e_callV (as := []) (v := (some (.int r1))) (s' := s) hV dX10_machine_4 (Or.inl rfl) rfl rfl rfl rfl (Nat.le_of_ble_eq_true rfl) (lc_M (by decide)) rfl rfl (fun Q hQ => tX6_isFull (d := (d + 1)) hV (by decide) hg hQ) ?_
  refine e_if_eq 15 dX10_machine_7 (by decide) hf (fun hf => ?_) (fun hf => ?_)
  · refine e_aload_n 0 dX10_machine_15 rfl rfl ?_
    refine e_getr hV dX10_machine_16 rfl lc_T rfl ?_
    refine e_bipush (w := (nI 6)) dX10_machine_19 (by decide) ?_
    refine e_bipush (w := (nI 6)) dX10_machine_21 (by decide) ?_
    refine e_bipush (w := (nI 6)) dX10_machine_23 (by decide) ?_
    obtain ⟨r2, s3, hg, hf⟩ := bP_some hf
    refine e_callV (as := [.int (nI 6), .int (nI 6), .int (nI 6)]) (v := (some (.int r2))) (s' := s3) hV dX10_machine_25 (Or.inl rfl) rfl rfl rfl rfl (Nat.le_of_ble_eq_true rfl) (lc_M (by decide)) rfl rfl (fun Q hQ => tX6_join (d := d) hV (by decide) hg hQ) ?_
    obtain rfl := Option.some.inj hf
    exact e_iret dX10_machine_28 trivial hP
  · refine e_bipush (w := (-3)) dX10_machine_10 (by decide) ?_
    refine e_goto 28 dX10_machine_12 (by decide) ?_
    obtain rfl := Option.some.inj hf
    exact e_iret dX10_machine_28 trivial hP

theorem dX10_isShelf_0 : decode cX10_isShelf 0 = .ok (.iload_n 0, 1) := by decide +kernel
theorem dX10_isShelf_1 : decode cX10_isShelf 1 = .ok (.ifCond .lt 13, 3) := by decide +kernel
theorem dX10_isShelf_4 : decode cX10_isShelf 4 = .ok (.iload_n 0, 1) := by decide +kernel
theorem dX10_isShelf_5 : decode cX10_isShelf 5 = .ok (.bipush 6, 2) := by decide +kernel
theorem dX10_isShelf_7 : decode cX10_isShelf 7 = .ok (.if_icmp .ge 7, 3) := by decide +kernel
theorem dX10_isShelf_10 : decode cX10_isShelf 10 = .ok (.iconst 1, 1) := by decide +kernel
theorem dX10_isShelf_11 : decode cX10_isShelf 11 = .ok (.goto 4, 3) := by decide +kernel
theorem dX10_isShelf_14 : decode cX10_isShelf 14 = .ok (.iconst 0, 1) := by decide +kernel
theorem dX10_isShelf_15 : decode cX10_isShelf 15 = .ok (.ireturn, 1) := by decide +kernel
def fX10_isShelf (x0 : Int32) (s : mS) : Option Int32 :=
  if x0 < 0 then
    some (nI 0)
  else
    if (nI 6) ≤ x0 then
      some (nI 0)
    else
      some (nI 1)

set_option maxRecDepth 20000 in
theorem tX10_isShelf {ρ : mRo} {d : Nat} {P : mPo} {V : mS → List mE} (hV : mView LC V)  {x0 : Int32} {s : mS} {res : Int32} (hf : fX10_isShelf x0 s = some res) (hP : P (some (.int res)) (V s)) : mC ρ (d + 1) 110 [.int x0] (V s) P := by
  refine ⟨_, rfl, Nat.le_of_ble_eq_true rfl, by decide, ?_⟩
  show mG ρ (mC ρ d) 10 1 cX10_isShelf (some .boolean) P 0 [(0, .int x0)] [] (V s)
  unfold fX10_isShelf at hf
  refine e_iload_n 0 dX10_isShelf_0 rfl rfl ?_
  refine e_if_lt 14 dX10_isShelf_1 (by decide) hf (fun hf => ?_) (fun hf => ?_)
  · refine e_iconst (w := (nI 0)) dX10_isShelf_14 (by decide) ?_
    obtain rfl := Option.some.inj hf
    exact e_iret dX10_isShelf_15 (Or.inl rfl) hP
  · refine e_iload_n 0 dX10_isShelf_4 rfl rfl ?_
    refine e_bipush (w := (nI 6)) dX10_isShelf_5 (by decide) ?_
    refine e_icmp_ge 14 dX10_isShelf_7 (by decide) hf (fun hf => ?_) (fun hf => ?_)
    · refine e_iconst (w := (nI 0)) dX10_isShelf_14 (by decide) ?_
      obtain rfl := Option.some.inj hf
      exact e_iret dX10_isShelf_15 (Or.inl rfl) hP
    · refine e_iconst (w := (nI 1)) dX10_isShelf_10 (by decide) ?_
      refine e_goto 15 dX10_isShelf_11 (by decide) ?_
      obtain rfl := Option.some.inj hf
      exact e_iret dX10_isShelf_15 (Or.inr rfl) hP

theorem dX10_pullsStandAt_0 : decode cX10_pullsStandAt 0 = .ok (.aload_n 0, 1) := by decide +kernel
theorem dX10_pullsStandAt_1 : decode cX10_pullsStandAt 1 = .ok (.iload_n 1, 1) := by decide +kernel
theorem dX10_pullsStandAt_2 : decode cX10_pullsStandAt 2 = .ok (.iconst 3, 1) := by decide +kernel
theorem dX10_pullsStandAt_3 : decode cX10_pullsStandAt 3 = .ok (.invokevirtual 383, 3) := by decide +kernel
theorem dX10_pullsStandAt_6 : decode cX10_pullsStandAt 6 = .ok (.ifCond .ne 5, 3) := by decide +kernel
theorem dX10_pullsStandAt_9 : decode cX10_pullsStandAt 9 = .ok (.iconst 0, 1) := by decide +kernel
theorem dX10_pullsStandAt_10 : decode cX10_pullsStandAt 10 = .ok (.ireturn, 1) := by decide +kernel
theorem dX10_pullsStandAt_11 : decode cX10_pullsStandAt 11 = .ok (.iload_n 1, 1) := by decide +kernel
theorem dX10_pullsStandAt_12 : decode cX10_pullsStandAt 12 = .ok (.istore_n 2, 1) := by decide +kernel
theorem dX10_pullsStandAt_13 : decode cX10_pullsStandAt 13 = .ok (.iload_n 2, 1) := by decide +kernel
theorem dX10_pullsStandAt_14 : decode cX10_pullsStandAt 14 = .ok (.iload_n 1, 1) := by decide +kernel
theorem dX10_pullsStandAt_15 : decode cX10_pullsStandAt 15 = .ok (.iconst 3, 1) := by decide +kernel
theorem dX10_pullsStandAt_16 : decode cX10_pullsStandAt 16 = .ok (.iadd, 1) := by decide +kernel
theorem dX10_pullsStandAt_17 : decode cX10_pullsStandAt 17 = .ok (.if_icmp .ge 35, 3) := by decide +kernel
theorem dX10_pullsStandAt_20 : decode cX10_pullsStandAt 20 = .ok (.aload_n 0, 1) := by decide +kernel
theorem dX10_pullsStandAt_21 : decode cX10_pullsStandAt 21 = .ok (.getfield 117, 3) := by decide +kernel
theorem dX10_pullsStandAt_24 : decode cX10_pullsStandAt 24 = .ok (.iload_n 2, 1) := by decide +kernel
theorem dX10_pullsStandAt_25 : decode cX10_pullsStandAt 25 = .ok (.laload, 1) := by decide +kernel
theorem dX10_pullsStandAt_26 : decode cX10_pullsStandAt 26 = .ok (.lconst 0, 1) := by decide +kernel
theorem dX10_pullsStandAt_27 : decode cX10_pullsStandAt 27 = .ok (.lcmp, 1) := by decide +kernel
theorem dX10_pullsStandAt_28 : decode cX10_pullsStandAt 28 = .ok (.ifCond .lt 16, 3) := by decide +kernel
theorem dX10_pullsStandAt_31 : decode cX10_pullsStandAt 31 = .ok (.aload_n 0, 1) := by decide +kernel
theorem dX10_pullsStandAt_32 : decode cX10_pullsStandAt 32 = .ok (.getfield 117, 3) := by decide +kernel
theorem dX10_pullsStandAt_35 : decode cX10_pullsStandAt 35 = .ok (.iload_n 2, 1) := by decide +kernel
theorem dX10_pullsStandAt_36 : decode cX10_pullsStandAt 36 = .ok (.laload, 1) := by decide +kernel
theorem dX10_pullsStandAt_37 : decode cX10_pullsStandAt 37 = .ok (.ldc2_w 399, 3) := by decide +kernel
theorem dX10_pullsStandAt_40 : decode cX10_pullsStandAt 40 = .ok (.lcmp, 1) := by decide +kernel
theorem dX10_pullsStandAt_41 : decode cX10_pullsStandAt 41 = .ok (.ifCond .le 5, 3) := by decide +kernel
theorem dX10_pullsStandAt_44 : decode cX10_pullsStandAt 44 = .ok (.iconst 0, 1) := by decide +kernel
theorem dX10_pullsStandAt_45 : decode cX10_pullsStandAt 45 = .ok (.ireturn, 1) := by decide +kernel
theorem dX10_pullsStandAt_46 : decode cX10_pullsStandAt 46 = .ok (.iinc 2 1, 3) := by decide +kernel
theorem dX10_pullsStandAt_49 : decode cX10_pullsStandAt 49 = .ok (.goto (-36), 3) := by decide +kernel
theorem dX10_pullsStandAt_52 : decode cX10_pullsStandAt 52 = .ok (.iconst 1, 1) := by decide +kernel
theorem dX10_pullsStandAt_53 : decode cX10_pullsStandAt 53 = .ok (.ireturn, 1) := by decide +kernel
def fX10_pullsStandAt_b13 : Nat → Nat → Int32 → Int32 → mS → Option Int32
  | 0, _, _, _, _ => none
  | k + 1, k0, y1, y2, s =>
    if (y1 + (nI 3)) ≤ y2 then
      some (nI 1)
    else
      ldL s (lS_cells k0) 60 y2 fun v3 =>
      if (lg_cmp v3 0) < 0 then
        some (nI 0)
      else
        ldL s (lS_cells k0) 60 y2 fun v4 =>
        if (lg_cmp v4 12) ≤ 0 then
          bnd (y2 + (nI 1)) fun v5 =>
          fX10_pullsStandAt_b13 k k0 y1 v5 s
        else
          some (nI 0)

def fX10_pullsStandAt (k0 : Nat) (x1 : Int32) (s : mS) : Option Int32 :=
  bO (fX7_hasSpan k0 x1 (nI 3) s) fun r1 =>
  if r1 = 0 then
    some (nI 0)
  else
    bnd x1 fun v2 =>
    fX10_pullsStandAt_b13 mFu k0 x1 v2 s

set_option maxRecDepth 20000 in
theorem wX10_pullsStandAt_b13 {ρ : mRo} {d : Nat} {P : mPo} {V : mS → List mE} (hV : mView LC V)  {res : Int32} {s : mS} (hP : P (some (.int res)) (V s)) : ∀ (k : Nat) (k0 : Nat) (hk0 : k0 < 6) (y1 : Int32) (y2 : Int32), fX10_pullsStandAt_b13 k k0 y1 y2 s = some res → mG ρ (mC ρ (d + 1)) 10 3 cX10_pullsStandAt (some .boolean) P 13 [(0, .ref (qS k0)), (1, .int y1), (2, .int y2)] [] (V s) := by
  intro k
  induction k with
  | zero => intro k0 hk0 y1 y2 hf; rw [fX10_pullsStandAt_b13] at hf; cases hf
  | succ k ih =>
    intro k0 hk0 y1 y2 hf
    rw [fX10_pullsStandAt_b13] at hf
    refine e_iload_n 2 dX10_pullsStandAt_13 rfl rfl ?_
    refine e_iload_n 1 dX10_pullsStandAt_14 rfl rfl ?_
    refine e_iconst (w := (nI 3)) dX10_pullsStandAt_15 (by decide) ?_
    refine e_iadd dX10_pullsStandAt_16 ?_
    refine e_icmp_ge 52 dX10_pullsStandAt_17 (by decide) hf (fun hf => ?_) (fun hf => ?_)
    · refine e_iconst (w := (nI 1)) dX10_pullsStandAt_52 (by decide) ?_
      obtain rfl := Option.some.inj hf
      exact e_iret dX10_pullsStandAt_53 (Or.inr rfl) hP
    · refine e_aload_n 0 dX10_pullsStandAt_20 rfl rfl ?_
      refine e_getr hV dX10_pullsStandAt_21 rfl (lc_S hk0) rfl ?_
      refine e_iload_n 2 dX10_pullsStandAt_24 rfl rfl ?_
      refine e_lald hV dX10_pullsStandAt_25 (lc_S_cells hk0) hf (fun v3 hf => ?_)
      refine e_lconst (w := 0) dX10_pullsStandAt_26 (by decide) ?_
      refine e_lcmp dX10_pullsStandAt_27 ?_
      refine e_if_lt 44 dX10_pullsStandAt_28 (by decide) hf (fun hf => ?_) (fun hf => ?_)
      · refine e_iconst (w := (nI 0)) dX10_pullsStandAt_44 (by decide) ?_
        obtain rfl := Option.some.inj hf
        exact e_iret dX10_pullsStandAt_45 (Or.inl rfl) hP
      · refine e_aload_n 0 dX10_pullsStandAt_31 rfl rfl ?_
        refine e_getr hV dX10_pullsStandAt_32 rfl (lc_S hk0) rfl ?_
        refine e_iload_n 2 dX10_pullsStandAt_35 rfl rfl ?_
        refine e_lald hV dX10_pullsStandAt_36 (lc_S_cells hk0) hf (fun v4 hf => ?_)
        refine e_ldc2_w (w := 12) dX10_pullsStandAt_37 rfl ?_
        refine e_lcmp dX10_pullsStandAt_40 ?_
        refine e_if_le 46 dX10_pullsStandAt_41 (by decide) hf (fun hf => ?_) (fun hf => ?_)
        · refine e_iinc 2 dX10_pullsStandAt_46 (by decide) rfl hf (fun v5 hf => ?_)
          refine e_goto 13 dX10_pullsStandAt_49 (by decide) ?_
          refine e_pick [1, 2, 0] rfl ?_
          exact ih k0 hk0 y1 v5 hf
        · refine e_iconst (w := (nI 0)) dX10_pullsStandAt_44 (by decide) ?_
          obtain rfl := Option.some.inj hf
          exact e_iret dX10_pullsStandAt_45 (Or.inl rfl) hP
set_option maxRecDepth 20000 in
theorem tX10_pullsStandAt {ρ : mRo} {d : Nat} {P : mPo} {V : mS → List mE} (hV : mView LC V)  {k0 : Nat} (hk0 : k0 < 6) {x1 : Int32} {s : mS} {res : Int32} (hf : fX10_pullsStandAt k0 x1 s = some res) (hP : P (some (.int res)) (V s)) : mC ρ (d + 2) 114 [.ref (qS k0), .int x1] (V s) P := by
  refine ⟨_, rfl, Nat.le_of_ble_eq_true rfl, by decide, ?_⟩
  show mG ρ (mC ρ (d + 1)) 10 3 cX10_pullsStandAt (some .boolean) P 0 [(0, .ref (qS k0)), (1, .int x1)] [] (V s)
  unfold fX10_pullsStandAt at hf
  refine e_aload_n 0 dX10_pullsStandAt_0 rfl rfl ?_
  refine e_iload_n 1 dX10_pullsStandAt_1 rfl rfl ?_
  refine e_iconst (w := (nI 3)) dX10_pullsStandAt_2 (by decide) ?_
  obtain ⟨r1, hg, hf⟩ := bO_some hf
  refine e_callV (as := [.int x1, .int (nI 3)]) (v := (some (.int r1))) (s' := s) hV dX10_pullsStandAt_3 (Or.inl rfl) rfl rfl rfl rfl (Nat.le_of_ble_eq_true rfl) (lc_S hk0) rfl rfl (fun Q hQ => tX7_hasSpan (d := d) hV hk0 hg hQ) ?_
  refine e_if_ne 11 dX10_pullsStandAt_6 (by decide) hf (fun hf => ?_) (fun hf => ?_)
  · refine e_iload_n 1 dX10_pullsStandAt_11 rfl rfl ?_
    refine e_istore_n dX10_pullsStandAt_12 rfl (by decide) hf (fun v2 hf => ?_)
    refine e_pick [1, 2, 0] rfl ?_
    exact wX10_pullsStandAt_b13 hV hP mFu k0 hk0 x1 v2 hf
  · refine e_iconst (w := (nI 0)) dX10_pullsStandAt_9 (by decide) ?_
    obtain rfl := Option.some.inj hf
    exact e_iret dX10_pullsStandAt_10 (Or.inl rfl) hP

theorem dX10_machines_0 : decode cX10_machines 0 = .ok (.iload_n 1, 1) := by decide +kernel
theorem dX10_machines_1 : decode cX10_machines 1 = .ok (.invokestatic 99, 3) := by decide +kernel
theorem dX10_machines_4 : decode cX10_machines 4 = .ok (.ifCond .eq 14, 3) := by decide +kernel
theorem dX10_machines_7 : decode cX10_machines 7 = .ok (.iload_n 3, 1) := by decide +kernel
theorem dX10_machines_8 : decode cX10_machines 8 = .ok (.iconst 1, 1) := by decide +kernel
theorem dX10_machines_9 : decode cX10_machines 9 = .ok (.if_icmp .lt 9, 3) := by decide +kernel
theorem dX10_machines_12 : decode cX10_machines 12 = .ok (.iload_n 3, 1) := by decide +kernel
theorem dX10_machines_13 : decode cX10_machines 13 = .ok (.bipush 8, 2) := by decide +kernel
theorem dX10_machines_15 : decode cX10_machines 15 = .ok (.if_icmp .le 5, 3) := by decide +kernel
theorem dX10_machines_18 : decode cX10_machines 18 = .ok (.iconst (-1), 1) := by decide +kernel
theorem dX10_machines_19 : decode cX10_machines 19 = .ok (.ireturn, 1) := by decide +kernel
theorem dX10_machines_20 : decode cX10_machines 20 = .ok (.aload_n 0, 1) := by decide +kernel
theorem dX10_machines_21 : decode cX10_machines 21 = .ok (.getfield 42, 3) := by decide +kernel
theorem dX10_machines_24 : decode cX10_machines 24 = .ok (.iload_n 1, 1) := by decide +kernel
theorem dX10_machines_25 : decode cX10_machines 25 = .ok (.aaload, 1) := by decide +kernel
theorem dX10_machines_26 : decode cX10_machines 26 = .ok (.astore 4, 2) := by decide +kernel
theorem dX10_machines_28 : decode cX10_machines 28 = .ok (.aload 4, 2) := by decide +kernel
theorem dX10_machines_30 : decode cX10_machines 30 = .ok (.invokevirtual 103, 3) := by decide +kernel
theorem dX10_machines_33 : decode cX10_machines 33 = .ok (.ifCond .eq 5, 3) := by decide +kernel
theorem dX10_machines_36 : decode cX10_machines 36 = .ok (.iconst 0, 1) := by decide +kernel
theorem dX10_machines_37 : decode cX10_machines 37 = .ok (.ireturn, 1) := by decide +kernel
theorem dX10_machines_38 : decode cX10_machines 38 = .ok (.aload 4, 2) := by decide +kernel
theorem dX10_machines_40 : decode cX10_machines 40 = .ok (.iconst 0, 1) := by decide +kernel
theorem dX10_machines_41 : decode cX10_machines 41 = .ok (.invokevirtual 106, 3) := by decide +kernel
theorem dX10_machines_44 : decode cX10_machines 44 = .ok (.ifCond .ne 6, 3) := by decide +kernel
theorem dX10_machines_47 : decode cX10_machines 47 = .ok (.bipush (-12), 2) := by decide +kernel
theorem dX10_machines_49 : decode cX10_machines 49 = .ok (.ireturn, 1) := by decide +kernel
theorem dX10_machines_50 : decode cX10_machines 50 = .ok (.iconst 0, 1) := by decide +kernel
theorem dX10_machines_51 : decode cX10_machines 51 = .ok (.istore 5, 2) := by decide +kernel
theorem dX10_machines_53 : decode cX10_machines 53 = .ok (.iload 5, 2) := by decide +kernel
theorem dX10_machines_55 : decode cX10_machines 55 = .ok (.iload_n 3, 1) := by decide +kernel
theorem dX10_machines_56 : decode cX10_machines 56 = .ok (.if_icmp .ge 89, 3) := by decide +kernel
theorem dX10_machines_59 : decode cX10_machines 59 = .ok (.iload_n 2, 1) := by decide +kernel
theorem dX10_machines_60 : decode cX10_machines 60 = .ok (.aload 4, 2) := by decide +kernel
theorem dX10_machines_62 : decode cX10_machines 62 = .ok (.getfield 109, 3) := by decide +kernel
theorem dX10_machines_65 : decode cX10_machines 65 = .ok (.if_icmp .ge 80, 3) := by decide +kernel
theorem dX10_machines_68 : decode cX10_machines 68 = .ok (.aload_n 0, 1) := by decide +kernel
theorem dX10_machines_69 : decode cX10_machines 69 = .ok (.getfield 10, 3) := by decide +kernel
theorem dX10_machines_72 : decode cX10_machines 72 = .ok (.invokevirtual 91, 3) := by decide +kernel
theorem dX10_machines_75 : decode cX10_machines 75 = .ok (.ifCond .ne 70, 3) := by decide +kernel
theorem dX10_machines_78 : decode cX10_machines 78 = .ok (.aload 4, 2) := by decide +kernel
theorem dX10_machines_80 : decode cX10_machines 80 = .ok (.iload_n 2, 1) := by decide +kernel
theorem dX10_machines_81 : decode cX10_machines 81 = .ok (.iconst 3, 1) := by decide +kernel
theorem dX10_machines_82 : decode cX10_machines 82 = .ok (.iload 5, 2) := by decide +kernel
theorem dX10_machines_84 : decode cX10_machines 84 = .ok (.imul, 1) := by decide +kernel
theorem dX10_machines_85 : decode cX10_machines 85 = .ok (.iadd, 1) := by decide +kernel
theorem dX10_machines_86 : decode cX10_machines 86 = .ok (.invokestatic 113, 3) := by decide +kernel
theorem dX10_machines_89 : decode cX10_machines 89 = .ok (.ifCond .eq 56, 3) := by decide +kernel
theorem dX10_machines_92 : decode cX10_machines 92 = .ok (.iload_n 2, 1) := by decide +kernel
theorem dX10_machines_93 : decode cX10_machines 93 = .ok (.iconst 3, 1) := by decide +kernel
theorem dX10_machines_94 : decode cX10_machines 94 = .ok (.iload 5, 2) := by decide +kernel
theorem dX10_machines_96 : decode cX10_machines 96 = .ok (.imul, 1) := by decide +kernel
theorem dX10_machines_97 : decode cX10_machines 97 = .ok (.iadd, 1) := by decide +kernel
theorem dX10_machines_98 : decode cX10_machines 98 = .ok (.istore 6, 2) := by decide +kernel
theorem dX10_machines_100 : decode cX10_machines 100 = .ok (.aload_n 0, 1) := by decide +kernel
theorem dX10_machines_101 : decode cX10_machines 101 = .ok (.getfield 10, 3) := by decide +kernel
theorem dX10_machines_104 : decode cX10_machines 104 = .ok (.aload 4, 2) := by decide +kernel
theorem dX10_machines_106 : decode cX10_machines 106 = .ok (.getfield 117, 3) := by decide +kernel
theorem dX10_machines_109 : decode cX10_machines 109 = .ok (.iload 6, 2) := by decide +kernel
theorem dX10_machines_111 : decode cX10_machines 111 = .ok (.laload, 1) := by decide +kernel
theorem dX10_machines_112 : decode cX10_machines 112 = .ok (.l2i, 1) := by decide +kernel
theorem dX10_machines_113 : decode cX10_machines 113 = .ok (.aload 4, 2) := by decide +kernel
theorem dX10_machines_115 : decode cX10_machines 115 = .ok (.getfield 117, 3) := by decide +kernel
theorem dX10_machines_118 : decode cX10_machines 118 = .ok (.iload 6, 2) := by decide +kernel
theorem dX10_machines_120 : decode cX10_machines 120 = .ok (.iconst 1, 1) := by decide +kernel
theorem dX10_machines_121 : decode cX10_machines 121 = .ok (.iadd, 1) := by decide +kernel
theorem dX10_machines_122 : decode cX10_machines 122 = .ok (.laload, 1) := by decide +kernel
theorem dX10_machines_123 : decode cX10_machines 123 = .ok (.l2i, 1) := by decide +kernel
theorem dX10_machines_124 : decode cX10_machines 124 = .ok (.aload 4, 2) := by decide +kernel
theorem dX10_machines_126 : decode cX10_machines 126 = .ok (.getfield 117, 3) := by decide +kernel
theorem dX10_machines_129 : decode cX10_machines 129 = .ok (.iload 6, 2) := by decide +kernel
theorem dX10_machines_131 : decode cX10_machines 131 = .ok (.iconst 2, 1) := by decide +kernel
theorem dX10_machines_132 : decode cX10_machines 132 = .ok (.iadd, 1) := by decide +kernel
theorem dX10_machines_133 : decode cX10_machines 133 = .ok (.laload, 1) := by decide +kernel
theorem dX10_machines_134 : decode cX10_machines 134 = .ok (.l2i, 1) := by decide +kernel
theorem dX10_machines_135 : decode cX10_machines 135 = .ok (.invokevirtual 95, 3) := by decide +kernel
theorem dX10_machines_138 : decode cX10_machines 138 = .ok (.pop, 1) := by decide +kernel
theorem dX10_machines_139 : decode cX10_machines 139 = .ok (.iinc 5 1, 3) := by decide +kernel
theorem dX10_machines_142 : decode cX10_machines 142 = .ok (.goto (-89), 3) := by decide +kernel
theorem dX10_machines_145 : decode cX10_machines 145 = .ok (.iload 5, 2) := by decide +kernel
theorem dX10_machines_147 : decode cX10_machines 147 = .ok (.ireturn, 1) := by decide +kernel
def fX10_machines_b53 : Nat → Nat → Int32 → Int32 → Int32 → mS → Option (Int32 × mS)
  | 0, _, _, _, _, _ => none
  | k + 1, j2, y2, y3, y5, s =>
    if y3 ≤ y5 then
      some (y5, s)
    else
      if (gI s (iS_size j2)) ≤ y2 then
        some (y5, s)
      else
        bO (fX6_isFull 0 s) fun r6 =>
        if r6 = 0 then
          bO (fX10_pullsStandAt j2 (y2 + ((nI 3) * y5)) s) fun r7 =>
          if r7 = 0 then
            some (y5, s)
          else
            bnd (y2 + ((nI 3) * y5)) fun v8 =>
            ldL s (lS_cells j2) 60 v8 fun v9 =>
            ldL s (lS_cells j2) 60 (v8 + (nI 1)) fun v10 =>
            ldL s (lS_cells j2) 60 (v8 + (nI 2)) fun v11 =>
            bP (fX6_join 0 (Int64.toInt32 v9) (Int64.toInt32 v10) (Int64.toInt32 v11) s) fun r12 s13 =>
            bnd (y5 + (nI 1)) fun v14 =>
            fX10_machines_b53 k j2 y2 y3 v14 s13
        else
          some (y5, s)

def fX10_machines (x1 : Int32) (x2 : Int32) (x3 : Int32) (s : mS) : Option (Int32 × mS) :=
  bO (fX10_isShelf x1 s) fun r1 =>
  if r1 = 0 then
    some ((-1), s)
  else
    if x3 < (nI 1) then
      some ((-1), s)
    else
      if x3 ≤ (nI 8) then
        ldS 6 x1 fun j2 =>
        bO (fX7_isEmpty j2 s) fun r3 =>
        if r3 = 0 then
          bO (fX7_isRowOf j2 (nI 0) s) fun r4 =>
          if r4 = 0 then
            some ((-12), s)
          else
            bnd (nI 0) fun v5 =>
            fX10_machines_b53 mFu j2 x2 x3 v5 s
        else
          some ((nI 0), s)
      else
        some ((-1), s)

set_option maxRecDepth 20000 in
theorem wX10_machines_b53 {ρ : mRo} {d : Nat} {P : mPo} {V : mS → List mE} (hV : mView LC V)  {res : (Int32 × mS)} (hP : P (some (.int res.1)) (V res.2)) : ∀ (k : Nat) (j2 : Nat) (hj2 : j2 < 6) (y2 : Int32) (y3 : Int32) (y5 : Int32) (s : mS), fX10_machines_b53 k j2 y2 y3 y5 s = some res → mG ρ (mC ρ (d + 2)) 10 7 cX10_machines (some .int) P 53 [(0, .ref qT), (2, .int y2), (3, .int y3), (4, .ref (qS j2)), (5, .int y5)] [] (V s) := by
  intro k
  induction k with
  | zero => intro j2 hj2 y2 y3 y5 s hf; rw [fX10_machines_b53] at hf; cases hf
  | succ k ih =>
    intro j2 hj2 y2 y3 y5 s hf
    rw [fX10_machines_b53] at hf
    refine e_iload 4 dX10_machines_53 rfl ?_
    refine e_iload_n 2 dX10_machines_55 rfl rfl ?_
    refine e_icmp_ge 145 dX10_machines_56 (by decide) hf (fun hf => ?_) (fun hf => ?_)
    · refine e_iload 4 dX10_machines_145 rfl ?_
      obtain rfl := Option.some.inj hf
      exact e_iret dX10_machines_147 trivial hP
    · refine e_iload_n 1 dX10_machines_59 rfl rfl ?_
      refine e_aload 3 dX10_machines_60 rfl ?_
      refine e_geti hV dX10_machines_62 rfl (lc_S hj2) rfl ?_
      refine e_icmp_ge 145 dX10_machines_65 (by decide) hf (fun hf => ?_) (fun hf => ?_)
      · refine e_iload 4 dX10_machines_145 rfl ?_
        obtain rfl := Option.some.inj hf
        exact e_iret dX10_machines_147 trivial hP
      · refine e_aload_n 0 dX10_machines_68 rfl rfl ?_
        refine e_getr hV dX10_machines_69 rfl lc_T rfl ?_
        obtain ⟨r6, hg, hf⟩ := bO_some hf
        refine e_callV (as := []) (v := (some (.int r6))) (s' := s) hV dX10_machines_72 (Or.inl rfl) rfl rfl rfl rfl (Nat.le_of_ble_eq_true rfl) (lc_M (by decide)) rfl rfl (fun Q hQ => tX6_isFull (d := (d + 1)) hV (by decide) hg hQ) ?_
        refine e_if_ne 145 dX10_machines_75 (by decide) hf (fun hf => ?_) (fun hf => ?_)
        · refine e_iload 4 dX10_machines_145 rfl ?_
          obtain rfl := Option.some.inj hf
          exact e_iret dX10_machines_147 trivial hP
        · refine e_aload 3 dX10_machines_78 rfl ?_
          refine e_iload_n 1 dX10_machines_80 rfl rfl ?_
          refine e_iconst (w := (nI 3)) dX10_machines_81 (by decide) ?_
          refine e_iload 4 dX10_machines_82 rfl ?_
          refine e_imul dX10_machines_84 ?_
          refine e_iadd dX10_machines_85 ?_
          obtain ⟨r7, hg, hf⟩ := bO_some hf
          refine e_callS (as := [.ref (qS j2), .int (y2 + ((nI 3) * y5))]) (v := (some (.int r7))) (s' := s) dX10_machines_86 rfl rfl rfl rfl rfl (Nat.le_of_ble_eq_true rfl) (fun Q hQ => tX10_pullsStandAt (d := d) hV hj2 hg hQ) ?_
          refine e_if_eq 145 dX10_machines_89 (by decide) hf (fun hf => ?_) (fun hf => ?_)
          · refine e_iload 4 dX10_machines_145 rfl ?_
            obtain rfl := Option.some.inj hf
            exact e_iret dX10_machines_147 trivial hP
          · refine e_iload_n 1 dX10_machines_92 rfl rfl ?_
            refine e_iconst (w := (nI 3)) dX10_machines_93 (by decide) ?_
            refine e_iload 4 dX10_machines_94 rfl ?_
            refine e_imul dX10_machines_96 ?_
            refine e_iadd dX10_machines_97 ?_
            refine e_istore dX10_machines_98 (by decide) hf (fun v8 hf => ?_)
            refine e_aload_n 1 dX10_machines_100 rfl rfl ?_
            refine e_getr hV dX10_machines_101 rfl lc_T rfl ?_
            refine e_aload 4 dX10_machines_104 rfl ?_
            refine e_getr hV dX10_machines_106 rfl (lc_S hj2) rfl ?_
            refine e_iload 0 dX10_machines_109 rfl ?_
            refine e_lald hV dX10_machines_111 (lc_S_cells hj2) hf (fun v9 hf => ?_)
            refine e_l2i dX10_machines_112 ?_
            refine e_aload 4 dX10_machines_113 rfl ?_
            refine e_getr hV dX10_machines_115 rfl (lc_S hj2) rfl ?_
            refine e_iload 0 dX10_machines_118 rfl ?_
            refine e_iconst (w := (nI 1)) dX10_machines_120 (by decide) ?_
            refine e_iadd dX10_machines_121 ?_
            refine e_lald hV dX10_machines_122 (lc_S_cells hj2) hf (fun v10 hf => ?_)
            refine e_l2i dX10_machines_123 ?_
            refine e_aload 4 dX10_machines_124 rfl ?_
            refine e_getr hV dX10_machines_126 rfl (lc_S hj2) rfl ?_
            refine e_iload 0 dX10_machines_129 rfl ?_
            refine e_iconst (w := (nI 2)) dX10_machines_131 (by decide) ?_
            refine e_iadd dX10_machines_132 ?_
            refine e_lald hV dX10_machines_133 (lc_S_cells hj2) hf (fun v11 hf => ?_)
            refine e_l2i dX10_machines_134 ?_
            obtain ⟨r12, s13, hg, hf⟩ := bP_some hf
            refine e_callV (as := [.int (Int64.toInt32 v9), .int (Int64.toInt32 v10), .int (Int64.toInt32 v11)]) (v := (some (.int r12))) (s' := s13) hV dX10_machines_135 (Or.inl rfl) rfl rfl rfl rfl (Nat.le_of_ble_eq_true rfl) (lc_M (by decide)) rfl rfl (fun Q hQ => tX6_join (d := d) hV (by decide) hg hQ) ?_
            refine e_pop dX10_machines_138 rfl ?_
            refine e_iinc 5 dX10_machines_139 (by decide) rfl hf (fun v14 hf => ?_)
            refine e_goto 53 dX10_machines_142 (by decide) ?_
            refine e_pick [2, 3, 4, 5, 0] rfl ?_
            exact ih j2 hj2 y2 y3 v14 s13 hf
set_option maxRecDepth 20000 in
theorem tX10_machines {ρ : mRo} {d : Nat} {P : mPo} {V : mS → List mE} (hV : mView LC V)  {x1 : Int32} {x2 : Int32} {x3 : Int32} {s : mS} {res : (Int32 × mS)} (hf : fX10_machines x1 x2 x3 s = some res) (hP : P (some (.int res.1)) (V res.2)) : mC ρ (d + 3) 65 [.ref qT, .int x1, .int x2, .int x3] (V s) P := by
  refine ⟨_, rfl, Nat.le_of_ble_eq_true rfl, by decide, ?_⟩
  show mG ρ (mC ρ (d + 2)) 10 7 cX10_machines (some .int) P 0 [(0, .ref qT), (1, .int x1), (2, .int x2), (3, .int x3)] [] (V s)
  unfold fX10_machines at hf
  refine e_iload_n 1 dX10_machines_0 rfl rfl ?_
  obtain ⟨r1, hg, hf⟩ := bO_some hf
  refine e_callS (as := [.int x1]) (v := (some (.int r1))) (s' := s) dX10_machines_1 rfl rfl rfl rfl rfl (Nat.le_of_ble_eq_true rfl) (fun Q hQ => tX10_isShelf (d := (d + 1)) hV  hg hQ) ?_
  refine e_if_eq 18 dX10_machines_4 (by decide) hf (fun hf => ?_) (fun hf => ?_)
  · refine e_iconst (w := (-1)) dX10_machines_18 (by decide) ?_
    obtain rfl := Option.some.inj hf
    exact e_iret dX10_machines_19 trivial hP
  · refine e_iload_n 3 dX10_machines_7 rfl rfl ?_
    refine e_iconst (w := (nI 1)) dX10_machines_8 (by decide) ?_
    refine e_icmp_lt 18 dX10_machines_9 (by decide) hf (fun hf => ?_) (fun hf => ?_)
    · refine e_iconst (w := (-1)) dX10_machines_18 (by decide) ?_
      obtain rfl := Option.some.inj hf
      exact e_iret dX10_machines_19 trivial hP
    · refine e_iload_n 3 dX10_machines_12 rfl rfl ?_
      refine e_bipush (w := (nI 8)) dX10_machines_13 (by decide) ?_
      refine e_icmp_le 20 dX10_machines_15 (by decide) hf (fun hf => ?_) (fun hf => ?_)
      · refine e_aload_n 0 dX10_machines_20 rfl rfl ?_
        refine e_getr hV dX10_machines_21 rfl lc_T rfl ?_
        refine e_iload_n 1 dX10_machines_24 rfl rfl ?_
        refine e_aald hV dX10_machines_25 lc_T_shelves rfl lc_T_shelves_at hf (fun j2 hj2 hf => ?_)
        refine e_astore dX10_machines_26 (by decide) ?_
        refine e_aload 0 dX10_machines_28 rfl ?_
        obtain ⟨r3, hg, hf⟩ := bO_some hf
        refine e_callV (as := []) (v := (some (.int r3))) (s' := s) hV dX10_machines_30 (Or.inl rfl) rfl rfl rfl rfl (Nat.le_of_ble_eq_true rfl) (lc_S hj2) rfl rfl (fun Q hQ => tX7_isEmpty (d := (d + 1)) hV hj2 hg hQ) ?_
        refine e_if_eq 38 dX10_machines_33 (by decide) hf (fun hf => ?_) (fun hf => ?_)
        · refine e_aload 0 dX10_machines_38 rfl ?_
          refine e_iconst (w := (nI 0)) dX10_machines_40 (by decide) ?_
          obtain ⟨r4, hg, hf⟩ := bO_some hf
          refine e_callV (as := [.int (nI 0)]) (v := (some (.int r4))) (s' := s) hV dX10_machines_41 (Or.inl rfl) rfl rfl rfl rfl (Nat.le_of_ble_eq_true rfl) (lc_S hj2) rfl rfl (fun Q hQ => tX7_isRowOf (d := (d + 1)) hV hj2 hg hQ) ?_
          refine e_if_ne 50 dX10_machines_44 (by decide) hf (fun hf => ?_) (fun hf => ?_)
          · refine e_iconst (w := (nI 0)) dX10_machines_50 (by decide) ?_
            refine e_istore dX10_machines_51 (by decide) hf (fun v5 hf => ?_)
            refine e_pick [2, 4, 5, 1, 0] rfl ?_
            exact wX10_machines_b53 hV hP mFu j2 hj2 x2 x3 v5 s hf
          · refine e_bipush (w := (-12)) dX10_machines_47 (by decide) ?_
            obtain rfl := Option.some.inj hf
            exact e_iret dX10_machines_49 trivial hP
        · refine e_iconst (w := (nI 0)) dX10_machines_36 (by decide) ?_
          obtain rfl := Option.some.inj hf
          exact e_iret dX10_machines_37 trivial hP
      · refine e_iconst (w := (-1)) dX10_machines_18 (by decide) ?_
        obtain rfl := Option.some.inj hf
        exact e_iret dX10_machines_19 trivial hP

theorem dX10_writer_0 : decode cX10_writer 0 = .ok (.iload_n 1, 1) := by decide +kernel
theorem dX10_writer_1 : decode cX10_writer 1 = .ok (.invokestatic 121, 3) := by decide +kernel
theorem dX10_writer_4 : decode cX10_writer 4 = .ok (.ifCond .ne 5, 3) := by decide +kernel
theorem dX10_writer_7 : decode cX10_writer 7 = .ok (.iconst (-1), 1) := by decide +kernel
theorem dX10_writer_8 : decode cX10_writer 8 = .ok (.ireturn, 1) := by decide +kernel
theorem dX10_writer_9 : decode cX10_writer 9 = .ok (.aload_n 0, 1) := by decide +kernel
theorem dX10_writer_10 : decode cX10_writer 10 = .ok (.getfield 22, 3) := by decide +kernel
theorem dX10_writer_13 : decode cX10_writer 13 = .ok (.invokevirtual 126, 3) := by decide +kernel
theorem dX10_writer_16 : decode cX10_writer 16 = .ok (.ifCond .eq 8, 3) := by decide +kernel
theorem dX10_writer_19 : decode cX10_writer 19 = .ok (.bipush (-3), 2) := by decide +kernel
theorem dX10_writer_21 : decode cX10_writer 21 = .ok (.goto 11, 3) := by decide +kernel
theorem dX10_writer_24 : decode cX10_writer 24 = .ok (.aload_n 0, 1) := by decide +kernel
theorem dX10_writer_25 : decode cX10_writer 25 = .ok (.getfield 22, 3) := by decide +kernel
theorem dX10_writer_28 : decode cX10_writer 28 = .ok (.iload_n 1, 1) := by decide +kernel
theorem dX10_writer_29 : decode cX10_writer 29 = .ok (.invokevirtual 127, 3) := by decide +kernel
theorem dX10_writer_32 : decode cX10_writer 32 = .ok (.ireturn, 1) := by decide +kernel
def fX10_writer (x1 : Int32) (s : mS) : Option (Int32 × mS) :=
  bO (fX2_isCode x1 s) fun r1 =>
  if r1 = 0 then
    some ((-1), s)
  else
    bO (fX9_isFull 0 s) fun r2 =>
    if r2 = 0 then
      bP (fX9_join 0 x1 s) fun r3 s4 =>
      some (r3, s4)
    else
      some ((-3), s)

set_option maxRecDepth 20000 in
theorem tX10_writer {ρ : mRo} {d : Nat} {P : mPo} {V : mS → List mE} (hV : mView LC V)  {x1 : Int32} {s : mS} {res : (Int32 × mS)} (hf : fX10_writer x1 s = some res) (hP : P (some (.int res.1)) (V res.2)) : mC ρ (d + 3) 66 [.ref qT, .int x1] (V s) P := by
  refine ⟨_, rfl, Nat.le_of_ble_eq_true rfl, by decide, ?_⟩
  show mG ρ (mC ρ (d + 2)) 10 2 cX10_writer (some .int) P 0 [(0, .ref qT), (1, .int x1)] [] (V s)
  unfold fX10_writer at hf
  refine e_iload_n 1 dX10_writer_0 rfl rfl ?_
  obtain ⟨r1, hg, hf⟩ := bO_some hf
  refine e_callS (as := [.int x1]) (v := (some (.int r1))) (s' := s) dX10_writer_1 rfl rfl rfl rfl rfl (Nat.le_of_ble_eq_true rfl) (fun Q hQ => tX2_isCode (d := (d + 1)) hV  hg hQ) ?_
  refine e_if_ne 9 dX10_writer_4 (by decide) hf (fun hf => ?_) (fun hf => ?_)
  · refine e_aload_n 0 dX10_writer_9 rfl rfl ?_
    refine e_getr hV dX10_writer_10 rfl lc_T rfl ?_
    obtain ⟨r2, hg, hf⟩ := bO_some hf
    refine e_callV (as := []) (v := (some (.int r2))) (s' := s) hV dX10_writer_13 (Or.inl rfl) rfl rfl rfl rfl (Nat.le_of_ble_eq_true rfl) (lc_W (by decide)) rfl rfl (fun Q hQ => tX9_isFull (d := (d + 1)) hV (by decide) hg hQ) ?_
    refine e_if_eq 24 dX10_writer_16 (by decide) hf (fun hf => ?_) (fun hf => ?_)
    · refine e_aload_n 0 dX10_writer_24 rfl rfl ?_
      refine e_getr hV dX10_writer_25 rfl lc_T rfl ?_
      refine e_iload_n 1 dX10_writer_28 rfl rfl ?_
      obtain ⟨r3, s4, hg, hf⟩ := bP_some hf
      refine e_callV (as := [.int x1]) (v := (some (.int r3))) (s' := s4) hV dX10_writer_29 (Or.inl rfl) rfl rfl rfl rfl (Nat.le_of_ble_eq_true rfl) (lc_W (by decide)) rfl rfl (fun Q hQ => tX9_join (d := d) hV (by decide) hg hQ) ?_
      obtain rfl := Option.some.inj hf
      exact e_iret dX10_writer_32 trivial hP
    · refine e_bipush (w := (-3)) dX10_writer_19 (by decide) ?_
      refine e_goto 32 dX10_writer_21 (by decide) ?_
      obtain rfl := Option.some.inj hf
      exact e_iret dX10_writer_32 trivial hP
  · refine e_iconst (w := (-1)) dX10_writer_7 (by decide) ?_
    obtain rfl := Option.some.inj hf
    exact e_iret dX10_writer_8 trivial hP

theorem dX10_isNumberOf_0 : decode cX10_isNumberOf 0 = .ok (.iload_n 2, 1) := by decide +kernel
theorem dX10_isNumberOf_1 : decode cX10_isNumberOf 1 = .ok (.ifCond .lt 17, 3) := by decide +kernel
theorem dX10_isNumberOf_4 : decode cX10_isNumberOf 4 = .ok (.iload_n 2, 1) := by decide +kernel
theorem dX10_isNumberOf_5 : decode cX10_isNumberOf 5 = .ok (.iconst 3, 1) := by decide +kernel
theorem dX10_isNumberOf_6 : decode cX10_isNumberOf 6 = .ok (.if_icmp .gt 12, 3) := by decide +kernel
theorem dX10_isNumberOf_9 : decode cX10_isNumberOf 9 = .ok (.aload_n 0, 1) := by decide +kernel
theorem dX10_isNumberOf_10 : decode cX10_isNumberOf 10 = .ok (.getfield 10, 3) := by decide +kernel
theorem dX10_isNumberOf_13 : decode cX10_isNumberOf 13 = .ok (.iload_n 1, 1) := by decide +kernel
theorem dX10_isNumberOf_14 : decode cX10_isNumberOf 14 = .ok (.invokevirtual 174, 3) := by decide +kernel
theorem dX10_isNumberOf_17 : decode cX10_isNumberOf 17 = .ok (.ireturn, 1) := by decide +kernel
theorem dX10_isNumberOf_18 : decode cX10_isNumberOf 18 = .ok (.iload_n 2, 1) := by decide +kernel
theorem dX10_isNumberOf_19 : decode cX10_isNumberOf 19 = .ok (.iconst 4, 1) := by decide +kernel
theorem dX10_isNumberOf_20 : decode cX10_isNumberOf 20 = .ok (.if_icmp .lt 18, 3) := by decide +kernel
theorem dX10_isNumberOf_23 : decode cX10_isNumberOf 23 = .ok (.iload_n 2, 1) := by decide +kernel
theorem dX10_isNumberOf_24 : decode cX10_isNumberOf 24 = .ok (.bipush 7, 2) := by decide +kernel
theorem dX10_isNumberOf_26 : decode cX10_isNumberOf 26 = .ok (.if_icmp .gt 12, 3) := by decide +kernel
theorem dX10_isNumberOf_29 : decode cX10_isNumberOf 29 = .ok (.aload_n 0, 1) := by decide +kernel
theorem dX10_isNumberOf_30 : decode cX10_isNumberOf 30 = .ok (.getfield 22, 3) := by decide +kernel
theorem dX10_isNumberOf_33 : decode cX10_isNumberOf 33 = .ok (.iload_n 1, 1) := by decide +kernel
theorem dX10_isNumberOf_34 : decode cX10_isNumberOf 34 = .ok (.invokevirtual 208, 3) := by decide +kernel
theorem dX10_isNumberOf_37 : decode cX10_isNumberOf 37 = .ok (.ireturn, 1) := by decide +kernel
theorem dX10_isNumberOf_38 : decode cX10_isNumberOf 38 = .ok (.iload_n 2, 1) := by decide +kernel
theorem dX10_isNumberOf_39 : decode cX10_isNumberOf 39 = .ok (.bipush 8, 2) := by decide +kernel
theorem dX10_isNumberOf_41 : decode cX10_isNumberOf 41 = .ok (.if_icmp .ne 11, 3) := by decide +kernel
theorem dX10_isNumberOf_44 : decode cX10_isNumberOf 44 = .ok (.iload_n 1, 1) := by decide +kernel
theorem dX10_isNumberOf_45 : decode cX10_isNumberOf 45 = .ok (.ifCond .ne 7, 3) := by decide +kernel
theorem dX10_isNumberOf_48 : decode cX10_isNumberOf 48 = .ok (.iconst 1, 1) := by decide +kernel
theorem dX10_isNumberOf_49 : decode cX10_isNumberOf 49 = .ok (.goto 4, 3) := by decide +kernel
theorem dX10_isNumberOf_52 : decode cX10_isNumberOf 52 = .ok (.iconst 0, 1) := by decide +kernel
theorem dX10_isNumberOf_53 : decode cX10_isNumberOf 53 = .ok (.ireturn, 1) := by decide +kernel
def fX10_isNumberOf_b38 (y1 : Int32) (y2 : Int32) (s : mS) : Option Int32 :=
  if y2 = (nI 8) then
    if y1 = 0 then
      some (nI 1)
    else
      some (nI 0)
  else
    some (nI 0)

def fX10_isNumberOf_b18 (y1 : Int32) (y2 : Int32) (s : mS) : Option Int32 :=
  if y2 < (nI 4) then
    fX10_isNumberOf_b38 y1 y2 s
  else
    if (nI 7) < y2 then
      fX10_isNumberOf_b38 y1 y2 s
    else
      bO (fX9_has 0 y1 s) fun r1 =>
      rB r1 (some r1)

def fX10_isNumberOf (x1 : Int32) (x2 : Int32) (s : mS) : Option Int32 :=
  if x2 < 0 then
    fX10_isNumberOf_b18 x1 x2 s
  else
    if (nI 3) < x2 then
      fX10_isNumberOf_b18 x1 x2 s
    else
      bO (fX6_has 0 x1 s) fun r2 =>
      rB r2 (some r2)

set_option maxRecDepth 20000 in
theorem wX10_isNumberOf_b38 {ρ : mRo} {d : Nat} {P : mPo} {V : mS → List mE} (hV : mView LC V)  {res : Int32} {s : mS} (hP : P (some (.int res)) (V s)) (y1 : Int32) (y2 : Int32) (hf : fX10_isNumberOf_b38 y1 y2 s = some res) : mG ρ (mC ρ (d + 1)) 10 3 cX10_isNumberOf (some .boolean) P 38 [(1, .int y1), (2, .int y2)] [] (V s) := by
  unfold fX10_isNumberOf_b38 at hf
  refine e_iload_n 1 dX10_isNumberOf_38 rfl rfl ?_
  refine e_bipush (w := (nI 8)) dX10_isNumberOf_39 (by decide) ?_
  refine e_icmp_ne 52 dX10_isNumberOf_41 (by decide) hf (fun hf => ?_) (fun hf => ?_)
  · refine e_iconst (w := (nI 0)) dX10_isNumberOf_52 (by decide) ?_
    obtain rfl := Option.some.inj hf
    exact e_iret dX10_isNumberOf_53 (Or.inl rfl) hP
  · refine e_iload_n 0 dX10_isNumberOf_44 rfl rfl ?_
    refine e_if_ne 52 dX10_isNumberOf_45 (by decide) hf (fun hf => ?_) (fun hf => ?_)
    · refine e_iconst (w := (nI 0)) dX10_isNumberOf_52 (by decide) ?_
      obtain rfl := Option.some.inj hf
      exact e_iret dX10_isNumberOf_53 (Or.inl rfl) hP
    · refine e_iconst (w := (nI 1)) dX10_isNumberOf_48 (by decide) ?_
      refine e_goto 53 dX10_isNumberOf_49 (by decide) ?_
      obtain rfl := Option.some.inj hf
      exact e_iret dX10_isNumberOf_53 (Or.inr rfl) hP
set_option maxRecDepth 20000 in
theorem wX10_isNumberOf_b18 {ρ : mRo} {d : Nat} {P : mPo} {V : mS → List mE} (hV : mView LC V)  {res : Int32} {s : mS} (hP : P (some (.int res)) (V s)) (y1 : Int32) (y2 : Int32) (hf : fX10_isNumberOf_b18 y1 y2 s = some res) : mG ρ (mC ρ (d + 1)) 10 3 cX10_isNumberOf (some .boolean) P 18 [(0, .ref qT), (1, .int y1), (2, .int y2)] [] (V s) := by
  unfold fX10_isNumberOf_b18 at hf
  refine e_iload_n 2 dX10_isNumberOf_18 rfl rfl ?_
  refine e_iconst (w := (nI 4)) dX10_isNumberOf_19 (by decide) ?_
  refine e_icmp_lt 38 dX10_isNumberOf_20 (by decide) hf (fun hf => ?_) (fun hf => ?_)
  · refine e_pick [1, 2] rfl ?_
    exact wX10_isNumberOf_b38 hV hP y1 y2 hf
  · refine e_iload_n 2 dX10_isNumberOf_23 rfl rfl ?_
    refine e_bipush (w := (nI 7)) dX10_isNumberOf_24 (by decide) ?_
    refine e_icmp_gt 38 dX10_isNumberOf_26 (by decide) hf (fun hf => ?_) (fun hf => ?_)
    · refine e_pick [1, 2] rfl ?_
      exact wX10_isNumberOf_b38 hV hP y1 y2 hf
    · refine e_aload_n 0 dX10_isNumberOf_29 rfl rfl ?_
      refine e_getr hV dX10_isNumberOf_30 rfl lc_T rfl ?_
      refine e_iload_n 1 dX10_isNumberOf_33 rfl rfl ?_
      obtain ⟨r1, hg, hf⟩ := bO_some hf
      refine e_callV (as := [.int y1]) (v := (some (.int r1))) (s' := s) hV dX10_isNumberOf_34 (Or.inl rfl) rfl rfl rfl rfl (Nat.le_of_ble_eq_true rfl) (lc_W (by decide)) rfl rfl (fun Q hQ => tX9_has (d := d) hV (by decide) hg hQ) ?_
      obtain ⟨hb0, hf⟩ := rB_some hf
      obtain rfl := Option.some.inj hf
      exact e_iret dX10_isNumberOf_37 hb0 hP
set_option maxRecDepth 20000 in
theorem tX10_isNumberOf {ρ : mRo} {d : Nat} {P : mPo} {V : mS → List mE} (hV : mView LC V)  {x1 : Int32} {x2 : Int32} {s : mS} {res : Int32} (hf : fX10_isNumberOf x1 x2 s = some res) (hP : P (some (.int res)) (V s)) : mC ρ (d + 2) 115 [.ref qT, .int x1, .int x2] (V s) P := by
  refine ⟨_, rfl, Nat.le_of_ble_eq_true rfl, by decide, ?_⟩
  show mG ρ (mC ρ (d + 1)) 10 3 cX10_isNumberOf (some .boolean) P 0 [(0, .ref qT), (1, .int x1), (2, .int x2)] [] (V s)
  unfold fX10_isNumberOf at hf
  refine e_iload_n 2 dX10_isNumberOf_0 rfl rfl ?_
  refine e_if_lt 18 dX10_isNumberOf_1 (by decide) hf (fun hf => ?_) (fun hf => ?_)
  · refine e_pick [0, 1, 2] rfl ?_
    exact wX10_isNumberOf_b18 hV hP x1 x2 hf
  · refine e_iload_n 2 dX10_isNumberOf_4 rfl rfl ?_
    refine e_iconst (w := (nI 3)) dX10_isNumberOf_5 (by decide) ?_
    refine e_icmp_gt 18 dX10_isNumberOf_6 (by decide) hf (fun hf => ?_) (fun hf => ?_)
    · refine e_pick [0, 1, 2] rfl ?_
      exact wX10_isNumberOf_b18 hV hP x1 x2 hf
    · refine e_aload_n 0 dX10_isNumberOf_9 rfl rfl ?_
      refine e_getr hV dX10_isNumberOf_10 rfl lc_T rfl ?_
      refine e_iload_n 1 dX10_isNumberOf_13 rfl rfl ?_
      obtain ⟨r2, hg, hf⟩ := bO_some hf
      refine e_callV (as := [.int x1]) (v := (some (.int r2))) (s' := s) hV dX10_isNumberOf_14 (Or.inl rfl) rfl rfl rfl rfl (Nat.le_of_ble_eq_true rfl) (lc_M (by decide)) rfl rfl (fun Q hQ => tX6_has (d := d) hV (by decide) hg hQ) ?_
      obtain ⟨hb0, hf⟩ := rB_some hf
      obtain rfl := Option.some.inj hf
      exact e_iret dX10_isNumberOf_17 hb0 hP

theorem dX10_topOf_0 : decode cX10_topOf 0 = .ok (.iload_n 0, 1) := by decide +kernel
theorem dX10_topOf_1 : decode cX10_topOf 1 = .ok (.iconst 3, 1) := by decide +kernel
theorem dX10_topOf_2 : decode cX10_topOf 2 = .ok (.if_icmp .ne 6, 3) := by decide +kernel
theorem dX10_topOf_5 : decode cX10_topOf 5 = .ok (.bipush 99, 2) := by decide +kernel
theorem dX10_topOf_7 : decode cX10_topOf 7 = .ok (.ireturn, 1) := by decide +kernel
theorem dX10_topOf_8 : decode cX10_topOf 8 = .ok (.iload_n 0, 1) := by decide +kernel
theorem dX10_topOf_9 : decode cX10_topOf 9 = .ok (.bipush 8, 2) := by decide +kernel
theorem dX10_topOf_11 : decode cX10_topOf 11 = .ok (.if_icmp .ne 8, 3) := by decide +kernel
theorem dX10_topOf_14 : decode cX10_topOf 14 = .ok (.bipush 9, 2) := by decide +kernel
theorem dX10_topOf_16 : decode cX10_topOf 16 = .ok (.goto 5, 3) := by decide +kernel
theorem dX10_topOf_19 : decode cX10_topOf 19 = .ok (.bipush 12, 2) := by decide +kernel
theorem dX10_topOf_21 : decode cX10_topOf 21 = .ok (.ireturn, 1) := by decide +kernel
def fX10_topOf (x0 : Int32) (s : mS) : Option Int32 :=
  if x0 = (nI 3) then
    some (nI 99)
  else
    if x0 = (nI 8) then
      some (nI 9)
    else
      some (nI 12)

set_option maxRecDepth 20000 in
theorem tX10_topOf {ρ : mRo} {d : Nat} {P : mPo} {V : mS → List mE} (hV : mView LC V)  {x0 : Int32} {s : mS} {res : Int32} (hf : fX10_topOf x0 s = some res) (hP : P (some (.int res)) (V s)) : mC ρ (d + 1) 116 [.int x0] (V s) P := by
  refine ⟨_, rfl, Nat.le_of_ble_eq_true rfl, by decide, ?_⟩
  show mG ρ (mC ρ d) 10 1 cX10_topOf (some .int) P 0 [(0, .int x0)] [] (V s)
  unfold fX10_topOf at hf
  refine e_iload_n 0 dX10_topOf_0 rfl rfl ?_
  refine e_iconst (w := (nI 3)) dX10_topOf_1 (by decide) ?_
  refine e_icmp_ne 8 dX10_topOf_2 (by decide) hf (fun hf => ?_) (fun hf => ?_)
  · refine e_iload_n 0 dX10_topOf_8 rfl rfl ?_
    refine e_bipush (w := (nI 8)) dX10_topOf_9 (by decide) ?_
    refine e_icmp_ne 19 dX10_topOf_11 (by decide) hf (fun hf => ?_) (fun hf => ?_)
    · refine e_bipush (w := (nI 12)) dX10_topOf_19 (by decide) ?_
      obtain rfl := Option.some.inj hf
      exact e_iret dX10_topOf_21 trivial hP
    · refine e_bipush (w := (nI 9)) dX10_topOf_14 (by decide) ?_
      refine e_goto 21 dX10_topOf_16 (by decide) ?_
      obtain rfl := Option.some.inj hf
      exact e_iret dX10_topOf_21 trivial hP
  · refine e_bipush (w := (nI 99)) dX10_topOf_5 (by decide) ?_
    obtain rfl := Option.some.inj hf
    exact e_iret dX10_topOf_7 trivial hP

theorem dX10_valueOf_0 : decode cX10_valueOf 0 = .ok (.iload_n 2, 1) := by decide +kernel
theorem dX10_valueOf_1 : decode cX10_valueOf 1 = .ok (.lookupswitch 63 #[(3, 35), (7, 45), (8, 55)], 35) := by decide +kernel
theorem dX10_valueOf_36 : decode cX10_valueOf 36 = .ok (.aload_n 0, 1) := by decide +kernel
theorem dX10_valueOf_37 : decode cX10_valueOf 37 = .ok (.getfield 10, 3) := by decide +kernel
theorem dX10_valueOf_40 : decode cX10_valueOf 40 = .ok (.getfield 184, 3) := by decide +kernel
theorem dX10_valueOf_43 : decode cX10_valueOf 43 = .ok (.iload_n 1, 1) := by decide +kernel
theorem dX10_valueOf_44 : decode cX10_valueOf 44 = .ok (.iaload, 1) := by decide +kernel
theorem dX10_valueOf_45 : decode cX10_valueOf 45 = .ok (.ireturn, 1) := by decide +kernel
theorem dX10_valueOf_46 : decode cX10_valueOf 46 = .ok (.aload_n 0, 1) := by decide +kernel
theorem dX10_valueOf_47 : decode cX10_valueOf 47 = .ok (.getfield 22, 3) := by decide +kernel
theorem dX10_valueOf_50 : decode cX10_valueOf 50 = .ok (.getfield 401, 3) := by decide +kernel
theorem dX10_valueOf_53 : decode cX10_valueOf 53 = .ok (.iload_n 1, 1) := by decide +kernel
theorem dX10_valueOf_54 : decode cX10_valueOf 54 = .ok (.iaload, 1) := by decide +kernel
theorem dX10_valueOf_55 : decode cX10_valueOf 55 = .ok (.ireturn, 1) := by decide +kernel
theorem dX10_valueOf_56 : decode cX10_valueOf 56 = .ok (.aload_n 0, 1) := by decide +kernel
theorem dX10_valueOf_57 : decode cX10_valueOf 57 = .ok (.getfield 10, 3) := by decide +kernel
theorem dX10_valueOf_60 : decode cX10_valueOf 60 = .ok (.getfield 258, 3) := by decide +kernel
theorem dX10_valueOf_63 : decode cX10_valueOf 63 = .ok (.ireturn, 1) := by decide +kernel
theorem dX10_valueOf_64 : decode cX10_valueOf 64 = .ok (.iload_n 2, 1) := by decide +kernel
theorem dX10_valueOf_65 : decode cX10_valueOf 65 = .ok (.iconst 3, 1) := by decide +kernel
theorem dX10_valueOf_66 : decode cX10_valueOf 66 = .ok (.if_icmp .ge 15, 3) := by decide +kernel
theorem dX10_valueOf_69 : decode cX10_valueOf 69 = .ok (.aload_n 0, 1) := by decide +kernel
theorem dX10_valueOf_70 : decode cX10_valueOf 70 = .ok (.getfield 10, 3) := by decide +kernel
theorem dX10_valueOf_73 : decode cX10_valueOf 73 = .ok (.iload_n 1, 1) := by decide +kernel
theorem dX10_valueOf_74 : decode cX10_valueOf 74 = .ok (.iload_n 2, 1) := by decide +kernel
theorem dX10_valueOf_75 : decode cX10_valueOf 75 = .ok (.invokevirtual 187, 3) := by decide +kernel
theorem dX10_valueOf_78 : decode cX10_valueOf 78 = .ok (.goto 14, 3) := by decide +kernel
theorem dX10_valueOf_81 : decode cX10_valueOf 81 = .ok (.aload_n 0, 1) := by decide +kernel
theorem dX10_valueOf_82 : decode cX10_valueOf 82 = .ok (.getfield 22, 3) := by decide +kernel
theorem dX10_valueOf_85 : decode cX10_valueOf 85 = .ok (.iload_n 1, 1) := by decide +kernel
theorem dX10_valueOf_86 : decode cX10_valueOf 86 = .ok (.iload_n 2, 1) := by decide +kernel
theorem dX10_valueOf_87 : decode cX10_valueOf 87 = .ok (.iconst 4, 1) := by decide +kernel
theorem dX10_valueOf_88 : decode cX10_valueOf 88 = .ok (.isub, 1) := by decide +kernel
theorem dX10_valueOf_89 : decode cX10_valueOf 89 = .ok (.invokevirtual 223, 3) := by decide +kernel
theorem dX10_valueOf_92 : decode cX10_valueOf 92 = .ok (.ireturn, 1) := by decide +kernel
def fX10_valueOf (x1 : Int32) (x2 : Int32) (s : mS) : Option Int32 :=
  if x2 = (nI 3) then
    ldA s (aM_ages 0) 8 x1 fun v1 =>
    some v1
  else if x2 = (nI 7) then
    ldA s (aW_touches 0) 8 x1 fun v2 =>
    some v2
  else if x2 = (nI 8) then
    some (gI s (iM_ribbon 0))
  else
    if (nI 3) ≤ x2 then
      bO (fX9_hand 0 x1 (x2 - (nI 4)) s) fun r3 =>
      some r3
    else
      bO (fX6_pull 0 x1 x2 s) fun r4 =>
      some r4

set_option maxRecDepth 20000 in
theorem tX10_valueOf {ρ : mRo} {d : Nat} {P : mPo} {V : mS → List mE} (hV : mView LC V)  {x1 : Int32} {x2 : Int32} {s : mS} {res : Int32} (hf : fX10_valueOf x1 x2 s = some res) (hP : P (some (.int res)) (V s)) : mC ρ (d + 2) 117 [.ref qT, .int x1, .int x2] (V s) P := by
  refine ⟨_, rfl, Nat.le_of_ble_eq_true rfl, by decide, ?_⟩
  show mG ρ (mC ρ (d + 1)) 10 3 cX10_valueOf (some .int) P 0 [(0, .ref qT), (1, .int x1), (2, .int x2)] [] (V s)
  unfold fX10_valueOf at hf
  refine e_iload_n 2 dX10_valueOf_0 rfl rfl ?_
  by_cases hc3 : x2 = (nI 3)
  · rw [if_pos hc3] at hf
    refine e_look (tgt := 36) (w := (nI 3)) dX10_valueOf_1 hc3 (by decide) (by decide) ?_
    refine e_aload_n 0 dX10_valueOf_36 rfl rfl ?_
    refine e_getr hV dX10_valueOf_37 rfl lc_T rfl ?_
    refine e_getr hV dX10_valueOf_40 rfl (lc_M (by decide)) rfl ?_
    refine e_iload_n 1 dX10_valueOf_43 rfl rfl ?_
    refine e_iald hV dX10_valueOf_44 (lc_M_ages (by decide)) hf (fun v1 hf => ?_)
    obtain rfl := Option.some.inj hf
    exact e_iret dX10_valueOf_45 trivial hP
  rw [if_neg hc3] at hf
  by_cases hc7 : x2 = (nI 7)
  · rw [if_pos hc7] at hf
    refine e_look (tgt := 46) (w := (nI 7)) dX10_valueOf_1 hc7 (by decide) (by decide) ?_
    refine e_aload_n 0 dX10_valueOf_46 rfl rfl ?_
    refine e_getr hV dX10_valueOf_47 rfl lc_T rfl ?_
    refine e_getr hV dX10_valueOf_50 rfl (lc_W (by decide)) rfl ?_
    refine e_iload_n 1 dX10_valueOf_53 rfl rfl ?_
    refine e_iald hV dX10_valueOf_54 (lc_W_touches (by decide)) hf (fun v2 hf => ?_)
    obtain rfl := Option.some.inj hf
    exact e_iret dX10_valueOf_55 trivial hP
  rw [if_neg hc7] at hf
  by_cases hc8 : x2 = (nI 8)
  · rw [if_pos hc8] at hf
    refine e_look (tgt := 56) (w := (nI 8)) dX10_valueOf_1 hc8 (by decide) (by decide) ?_
    refine e_aload_n 0 dX10_valueOf_56 rfl rfl ?_
    refine e_getr hV dX10_valueOf_57 rfl lc_T rfl ?_
    refine e_geti hV dX10_valueOf_60 rfl (lc_M (by decide)) rfl ?_
    obtain rfl := Option.some.inj hf
    exact e_iret dX10_valueOf_63 trivial hP
  rw [if_neg hc8] at hf
  refine e_lookD (tgt := 64) (ks := [(nI 3), (nI 7), (nI 8)]) dX10_valueOf_1 (by decide) (by decide) (fun z hz => ?_) ?_
  · simp only [List.mem_cons, List.not_mem_nil, or_false] at hz
    rcases hz with rfl | rfl | rfl
    · exact hc3
    · exact hc7
    · exact hc8
  refine e_iload_n 2 dX10_valueOf_64 rfl rfl ?_
  refine e_iconst (w := (nI 3)) dX10_valueOf_65 (by decide) ?_
  refine e_icmp_ge 81 dX10_valueOf_66 (by decide) hf (fun hf => ?_) (fun hf => ?_)
  · refine e_aload_n 0 dX10_valueOf_81 rfl rfl ?_
    refine e_getr hV dX10_valueOf_82 rfl lc_T rfl ?_
    refine e_iload_n 1 dX10_valueOf_85 rfl rfl ?_
    refine e_iload_n 2 dX10_valueOf_86 rfl rfl ?_
    refine e_iconst (w := (nI 4)) dX10_valueOf_87 (by decide) ?_
    refine e_isub dX10_valueOf_88 ?_
    obtain ⟨r3, hg, hf⟩ := bO_some hf
    refine e_callV (as := [.int x1, .int (x2 - (nI 4))]) (v := (some (.int r3))) (s' := s) hV dX10_valueOf_89 (Or.inl rfl) rfl rfl rfl rfl (Nat.le_of_ble_eq_true rfl) (lc_W (by decide)) rfl rfl (fun Q hQ => tX9_hand (d := d) hV (by decide) hg hQ) ?_
    obtain rfl := Option.some.inj hf
    exact e_iret dX10_valueOf_92 trivial hP
  · refine e_aload_n 0 dX10_valueOf_69 rfl rfl ?_
    refine e_getr hV dX10_valueOf_70 rfl lc_T rfl ?_
    refine e_iload_n 1 dX10_valueOf_73 rfl rfl ?_
    refine e_iload_n 2 dX10_valueOf_74 rfl rfl ?_
    obtain ⟨r4, hg, hf⟩ := bO_some hf
    refine e_callV (as := [.int x1, .int x2]) (v := (some (.int r4))) (s' := s) hV dX10_valueOf_75 (Or.inl rfl) rfl rfl rfl rfl (Nat.le_of_ble_eq_true rfl) (lc_M (by decide)) rfl rfl (fun Q hQ => tX6_pull (d := d) hV (by decide) hg hQ) ?_
    refine e_goto 92 dX10_valueOf_78 (by decide) ?_
    obtain rfl := Option.some.inj hf
    exact e_iret dX10_valueOf_92 trivial hP

theorem dX10_setValue_0 : decode cX10_setValue 0 = .ok (.iload_n 2, 1) := by decide +kernel
theorem dX10_setValue_1 : decode cX10_setValue 1 = .ok (.iconst 3, 1) := by decide +kernel
theorem dX10_setValue_2 : decode cX10_setValue 2 = .ok (.if_icmp .ge 20, 3) := by decide +kernel
theorem dX10_setValue_5 : decode cX10_setValue 5 = .ok (.aload_n 0, 1) := by decide +kernel
theorem dX10_setValue_6 : decode cX10_setValue 6 = .ok (.getfield 10, 3) := by decide +kernel
theorem dX10_setValue_9 : decode cX10_setValue 9 = .ok (.getfield 404, 3) := by decide +kernel
theorem dX10_setValue_12 : decode cX10_setValue 12 = .ok (.iconst 3, 1) := by decide +kernel
theorem dX10_setValue_13 : decode cX10_setValue 13 = .ok (.iload_n 1, 1) := by decide +kernel
theorem dX10_setValue_14 : decode cX10_setValue 14 = .ok (.imul, 1) := by decide +kernel
theorem dX10_setValue_15 : decode cX10_setValue 15 = .ok (.iload_n 2, 1) := by decide +kernel
theorem dX10_setValue_16 : decode cX10_setValue 16 = .ok (.iadd, 1) := by decide +kernel
theorem dX10_setValue_17 : decode cX10_setValue 17 = .ok (.iload_n 3, 1) := by decide +kernel
theorem dX10_setValue_18 : decode cX10_setValue 18 = .ok (.iastore, 1) := by decide +kernel
theorem dX10_setValue_19 : decode cX10_setValue 19 = .ok (.goto 73, 3) := by decide +kernel
theorem dX10_setValue_22 : decode cX10_setValue 22 = .ok (.iload_n 2, 1) := by decide +kernel
theorem dX10_setValue_23 : decode cX10_setValue 23 = .ok (.iconst 3, 1) := by decide +kernel
theorem dX10_setValue_24 : decode cX10_setValue 24 = .ok (.if_icmp .ne 16, 3) := by decide +kernel
theorem dX10_setValue_27 : decode cX10_setValue 27 = .ok (.aload_n 0, 1) := by decide +kernel
theorem dX10_setValue_28 : decode cX10_setValue 28 = .ok (.getfield 10, 3) := by decide +kernel
theorem dX10_setValue_31 : decode cX10_setValue 31 = .ok (.getfield 184, 3) := by decide +kernel
theorem dX10_setValue_34 : decode cX10_setValue 34 = .ok (.iload_n 1, 1) := by decide +kernel
theorem dX10_setValue_35 : decode cX10_setValue 35 = .ok (.iload_n 3, 1) := by decide +kernel
theorem dX10_setValue_36 : decode cX10_setValue 36 = .ok (.iastore, 1) := by decide +kernel
theorem dX10_setValue_37 : decode cX10_setValue 37 = .ok (.goto 55, 3) := by decide +kernel
theorem dX10_setValue_40 : decode cX10_setValue 40 = .ok (.iload_n 2, 1) := by decide +kernel
theorem dX10_setValue_41 : decode cX10_setValue 41 = .ok (.bipush 7, 2) := by decide +kernel
theorem dX10_setValue_43 : decode cX10_setValue 43 = .ok (.if_icmp .ge 22, 3) := by decide +kernel
theorem dX10_setValue_46 : decode cX10_setValue 46 = .ok (.aload_n 0, 1) := by decide +kernel
theorem dX10_setValue_47 : decode cX10_setValue 47 = .ok (.getfield 22, 3) := by decide +kernel
theorem dX10_setValue_50 : decode cX10_setValue 50 = .ok (.getfield 300, 3) := by decide +kernel
theorem dX10_setValue_53 : decode cX10_setValue 53 = .ok (.iconst 3, 1) := by decide +kernel
theorem dX10_setValue_54 : decode cX10_setValue 54 = .ok (.iload_n 1, 1) := by decide +kernel
theorem dX10_setValue_55 : decode cX10_setValue 55 = .ok (.imul, 1) := by decide +kernel
theorem dX10_setValue_56 : decode cX10_setValue 56 = .ok (.iload_n 2, 1) := by decide +kernel
theorem dX10_setValue_57 : decode cX10_setValue 57 = .ok (.iadd, 1) := by decide +kernel
theorem dX10_setValue_58 : decode cX10_setValue 58 = .ok (.iconst 4, 1) := by decide +kernel
theorem dX10_setValue_59 : decode cX10_setValue 59 = .ok (.isub, 1) := by decide +kernel
theorem dX10_setValue_60 : decode cX10_setValue 60 = .ok (.iload_n 3, 1) := by decide +kernel
theorem dX10_setValue_61 : decode cX10_setValue 61 = .ok (.iastore, 1) := by decide +kernel
theorem dX10_setValue_62 : decode cX10_setValue 62 = .ok (.goto 30, 3) := by decide +kernel
theorem dX10_setValue_65 : decode cX10_setValue 65 = .ok (.iload_n 2, 1) := by decide +kernel
theorem dX10_setValue_66 : decode cX10_setValue 66 = .ok (.bipush 7, 2) := by decide +kernel
theorem dX10_setValue_68 : decode cX10_setValue 68 = .ok (.if_icmp .ne 16, 3) := by decide +kernel
theorem dX10_setValue_71 : decode cX10_setValue 71 = .ok (.aload_n 0, 1) := by decide +kernel
theorem dX10_setValue_72 : decode cX10_setValue 72 = .ok (.getfield 22, 3) := by decide +kernel
theorem dX10_setValue_75 : decode cX10_setValue 75 = .ok (.getfield 401, 3) := by decide +kernel
theorem dX10_setValue_78 : decode cX10_setValue 78 = .ok (.iload_n 1, 1) := by decide +kernel
theorem dX10_setValue_79 : decode cX10_setValue 79 = .ok (.iload_n 3, 1) := by decide +kernel
theorem dX10_setValue_80 : decode cX10_setValue 80 = .ok (.iastore, 1) := by decide +kernel
theorem dX10_setValue_81 : decode cX10_setValue 81 = .ok (.goto 11, 3) := by decide +kernel
theorem dX10_setValue_84 : decode cX10_setValue 84 = .ok (.aload_n 0, 1) := by decide +kernel
theorem dX10_setValue_85 : decode cX10_setValue 85 = .ok (.getfield 10, 3) := by decide +kernel
theorem dX10_setValue_88 : decode cX10_setValue 88 = .ok (.iload_n 3, 1) := by decide +kernel
theorem dX10_setValue_89 : decode cX10_setValue 89 = .ok (.putfield 258, 3) := by decide +kernel
theorem dX10_setValue_92 : decode cX10_setValue 92 = .ok (.return_, 1) := by decide +kernel
def fX10_setValue (x1 : Int32) (x2 : Int32) (x3 : Int32) (s : mS) : Option mS :=
  if (nI 3) ≤ x2 then
    if x2 = (nI 3) then
      stA s (aM_ages 0) 8 x1 x3 fun s4 =>
      some s4
    else
      if (nI 7) ≤ x2 then
        if x2 = (nI 7) then
          stA s (aW_touches 0) 8 x1 x3 fun s2 =>
          some s2
        else
          bnd (pI s (iM_ribbon 0) x3) fun s1 =>
          some s1
      else
        stA s (aW_hands 0) 24 ((((nI 3) * x1) + x2) - (nI 4)) x3 fun s3 =>
        some s3
  else
    stA s (aM_pulls 0) 24 (((nI 3) * x1) + x2) x3 fun s5 =>
    some s5

set_option maxRecDepth 20000 in
theorem tX10_setValue {ρ : mRo} {d : Nat} {P : mPo} {V : mS → List mE} (hV : mView LC V)  {x1 : Int32} {x2 : Int32} {x3 : Int32} {s : mS} {res : mS} (hf : fX10_setValue x1 x2 x3 s = some res) (hP : P none (V res)) : mC ρ (d + 1) 118 [.ref qT, .int x1, .int x2, .int x3] (V s) P := by
  refine ⟨_, rfl, Nat.le_of_ble_eq_true rfl, by decide, ?_⟩
  show mG ρ (mC ρ d) 10 4 cX10_setValue none P 0 [(0, .ref qT), (1, .int x1), (2, .int x2), (3, .int x3)] [] (V s)
  unfold fX10_setValue at hf
  refine e_iload_n 2 dX10_setValue_0 rfl rfl ?_
  refine e_iconst (w := (nI 3)) dX10_setValue_1 (by decide) ?_
  refine e_icmp_ge 22 dX10_setValue_2 (by decide) hf (fun hf => ?_) (fun hf => ?_)
  · refine e_iload_n 2 dX10_setValue_22 rfl rfl ?_
    refine e_iconst (w := (nI 3)) dX10_setValue_23 (by decide) ?_
    refine e_icmp_ne 40 dX10_setValue_24 (by decide) hf (fun hf => ?_) (fun hf => ?_)
    · refine e_iload_n 2 dX10_setValue_40 rfl rfl ?_
      refine e_bipush (w := (nI 7)) dX10_setValue_41 (by decide) ?_
      refine e_icmp_ge 65 dX10_setValue_43 (by decide) hf (fun hf => ?_) (fun hf => ?_)
      · refine e_iload_n 2 dX10_setValue_65 rfl rfl ?_
        refine e_bipush (w := (nI 7)) dX10_setValue_66 (by decide) ?_
        refine e_icmp_ne 84 dX10_setValue_68 (by decide) hf (fun hf => ?_) (fun hf => ?_)
        · refine e_aload_n 0 dX10_setValue_84 rfl rfl ?_
          refine e_getr hV dX10_setValue_85 rfl lc_T rfl ?_
          refine e_iload_n 3 dX10_setValue_88 rfl rfl ?_
          refine e_puti hV dX10_setValue_89 rfl rfl rfl (Or.inl rfl) (lc_M (by decide)) rfl hf (fun s1 hf => ?_)
          obtain rfl := Option.some.inj hf
          exact e_ret dX10_setValue_92 rfl hP
        · refine e_aload_n 0 dX10_setValue_71 rfl rfl ?_
          refine e_getr hV dX10_setValue_72 rfl lc_T rfl ?_
          refine e_getr hV dX10_setValue_75 rfl (lc_W (by decide)) rfl ?_
          refine e_iload_n 1 dX10_setValue_78 rfl rfl ?_
          refine e_iload_n 3 dX10_setValue_79 rfl rfl ?_
          refine e_iast hV dX10_setValue_80 (lc_W_touches (by decide)) hf (fun s2 hf => ?_)
          refine e_goto 92 dX10_setValue_81 (by decide) ?_
          obtain rfl := Option.some.inj hf
          exact e_ret dX10_setValue_92 rfl hP
      · refine e_aload_n 0 dX10_setValue_46 rfl rfl ?_
        refine e_getr hV dX10_setValue_47 rfl lc_T rfl ?_
        refine e_getr hV dX10_setValue_50 rfl (lc_W (by decide)) rfl ?_
        refine e_iconst (w := (nI 3)) dX10_setValue_53 (by decide) ?_
        refine e_iload_n 1 dX10_setValue_54 rfl rfl ?_
        refine e_imul dX10_setValue_55 ?_
        refine e_iload_n 2 dX10_setValue_56 rfl rfl ?_
        refine e_iadd dX10_setValue_57 ?_
        refine e_iconst (w := (nI 4)) dX10_setValue_58 (by decide) ?_
        refine e_isub dX10_setValue_59 ?_
        refine e_iload_n 3 dX10_setValue_60 rfl rfl ?_
        refine e_iast hV dX10_setValue_61 (lc_W_hands (by decide)) hf (fun s3 hf => ?_)
        refine e_goto 92 dX10_setValue_62 (by decide) ?_
        obtain rfl := Option.some.inj hf
        exact e_ret dX10_setValue_92 rfl hP
    · refine e_aload_n 0 dX10_setValue_27 rfl rfl ?_
      refine e_getr hV dX10_setValue_28 rfl lc_T rfl ?_
      refine e_getr hV dX10_setValue_31 rfl (lc_M (by decide)) rfl ?_
      refine e_iload_n 1 dX10_setValue_34 rfl rfl ?_
      refine e_iload_n 3 dX10_setValue_35 rfl rfl ?_
      refine e_iast hV dX10_setValue_36 (lc_M_ages (by decide)) hf (fun s4 hf => ?_)
      refine e_goto 92 dX10_setValue_37 (by decide) ?_
      obtain rfl := Option.some.inj hf
      exact e_ret dX10_setValue_92 rfl hP
  · refine e_aload_n 0 dX10_setValue_5 rfl rfl ?_
    refine e_getr hV dX10_setValue_6 rfl lc_T rfl ?_
    refine e_getr hV dX10_setValue_9 rfl (lc_M (by decide)) rfl ?_
    refine e_iconst (w := (nI 3)) dX10_setValue_12 (by decide) ?_
    refine e_iload_n 1 dX10_setValue_13 rfl rfl ?_
    refine e_imul dX10_setValue_14 ?_
    refine e_iload_n 2 dX10_setValue_15 rfl rfl ?_
    refine e_iadd dX10_setValue_16 ?_
    refine e_iload_n 3 dX10_setValue_17 rfl rfl ?_
    refine e_iast hV dX10_setValue_18 (lc_M_pulls (by decide)) hf (fun s5 hf => ?_)
    refine e_goto 92 dX10_setValue_19 (by decide) ?_
    obtain rfl := Option.some.inj hf
    exact e_ret dX10_setValue_92 rfl hP

theorem dX10_mend_0 : decode cX10_mend 0 = .ok (.aload_n 0, 1) := by decide +kernel
theorem dX10_mend_1 : decode cX10_mend 1 = .ok (.iload_n 1, 1) := by decide +kernel
theorem dX10_mend_2 : decode cX10_mend 2 = .ok (.iload_n 2, 1) := by decide +kernel
theorem dX10_mend_3 : decode cX10_mend 3 = .ok (.invokevirtual 130, 3) := by decide +kernel
theorem dX10_mend_6 : decode cX10_mend 6 = .ok (.ifCond .eq 15, 3) := by decide +kernel
theorem dX10_mend_9 : decode cX10_mend 9 = .ok (.iload_n 3, 1) := by decide +kernel
theorem dX10_mend_10 : decode cX10_mend 10 = .ok (.ifCond .lt 11, 3) := by decide +kernel
theorem dX10_mend_13 : decode cX10_mend 13 = .ok (.iload_n 3, 1) := by decide +kernel
theorem dX10_mend_14 : decode cX10_mend 14 = .ok (.iload_n 2, 1) := by decide +kernel
theorem dX10_mend_15 : decode cX10_mend 15 = .ok (.invokestatic 134, 3) := by decide +kernel
theorem dX10_mend_18 : decode cX10_mend 18 = .ok (.if_icmp .le 5, 3) := by decide +kernel
theorem dX10_mend_21 : decode cX10_mend 21 = .ok (.iconst (-1), 1) := by decide +kernel
theorem dX10_mend_22 : decode cX10_mend 22 = .ok (.ireturn, 1) := by decide +kernel
theorem dX10_mend_23 : decode cX10_mend 23 = .ok (.aload_n 0, 1) := by decide +kernel
theorem dX10_mend_24 : decode cX10_mend 24 = .ok (.iload_n 1, 1) := by decide +kernel
theorem dX10_mend_25 : decode cX10_mend 25 = .ok (.iload_n 2, 1) := by decide +kernel
theorem dX10_mend_26 : decode cX10_mend 26 = .ok (.invokevirtual 137, 3) := by decide +kernel
theorem dX10_mend_29 : decode cX10_mend 29 = .ok (.istore 4, 2) := by decide +kernel
theorem dX10_mend_31 : decode cX10_mend 31 = .ok (.iload 4, 2) := by decide +kernel
theorem dX10_mend_33 : decode cX10_mend 33 = .ok (.iload_n 3, 1) := by decide +kernel
theorem dX10_mend_34 : decode cX10_mend 34 = .ok (.if_icmp .eq 22, 3) := by decide +kernel
theorem dX10_mend_37 : decode cX10_mend 37 = .ok (.aload_n 0, 1) := by decide +kernel
theorem dX10_mend_38 : decode cX10_mend 38 = .ok (.getfield 49, 3) := by decide +kernel
theorem dX10_mend_41 : decode cX10_mend 41 = .ok (.iload_n 1, 1) := by decide +kernel
theorem dX10_mend_42 : decode cX10_mend 42 = .ok (.iload_n 2, 1) := by decide +kernel
theorem dX10_mend_43 : decode cX10_mend 43 = .ok (.iload 4, 2) := by decide +kernel
theorem dX10_mend_45 : decode cX10_mend 45 = .ok (.iload_n 3, 1) := by decide +kernel
theorem dX10_mend_46 : decode cX10_mend 46 = .ok (.invokevirtual 141, 3) := by decide +kernel
theorem dX10_mend_49 : decode cX10_mend 49 = .ok (.aload_n 0, 1) := by decide +kernel
theorem dX10_mend_50 : decode cX10_mend 50 = .ok (.iload_n 1, 1) := by decide +kernel
theorem dX10_mend_51 : decode cX10_mend 51 = .ok (.iload_n 2, 1) := by decide +kernel
theorem dX10_mend_52 : decode cX10_mend 52 = .ok (.iload_n 3, 1) := by decide +kernel
theorem dX10_mend_53 : decode cX10_mend 53 = .ok (.invokevirtual 145, 3) := by decide +kernel
theorem dX10_mend_56 : decode cX10_mend 56 = .ok (.iload 4, 2) := by decide +kernel
theorem dX10_mend_58 : decode cX10_mend 58 = .ok (.ireturn, 1) := by decide +kernel
def fX10_mend (x1 : Int32) (x2 : Int32) (x3 : Int32) (s : mS) : Option (Int32 × mS) :=
  bO (fX10_isNumberOf x1 x2 s) fun r1 =>
  if r1 = 0 then
    some ((-1), s)
  else
    if x3 < 0 then
      some ((-1), s)
    else
      bO (fX10_topOf x2 s) fun r2 =>
      if x3 ≤ r2 then
        bO (fX10_valueOf x1 x2 s) fun r3 =>
        bnd r3 fun v4 =>
        if v4 = x3 then
          some (v4, s)
        else
          bO (fX1_add x1 x2 v4 x3 s) fun s5 =>
          bO (fX10_setValue x1 x2 x3 s5) fun s6 =>
          some (v4, s6)
      else
        some ((-1), s)

set_option maxRecDepth 20000 in
theorem tX10_mend {ρ : mRo} {d : Nat} {P : mPo} {V : mS → List mE} (hV : mView LC V)  {x1 : Int32} {x2 : Int32} {x3 : Int32} {s : mS} {res : (Int32 × mS)} (hf : fX10_mend x1 x2 x3 s = some res) (hP : P (some (.int res.1)) (V res.2)) : mC ρ (d + 3) 67 [.ref qT, .int x1, .int x2, .int x3] (V s) P := by
  refine ⟨_, rfl, Nat.le_of_ble_eq_true rfl, by decide, ?_⟩
  show mG ρ (mC ρ (d + 2)) 10 5 cX10_mend (some .int) P 0 [(0, .ref qT), (1, .int x1), (2, .int x2), (3, .int x3)] [] (V s)
  unfold fX10_mend at hf
  refine e_aload_n 0 dX10_mend_0 rfl rfl ?_
  refine e_iload_n 1 dX10_mend_1 rfl rfl ?_
  refine e_iload_n 2 dX10_mend_2 rfl rfl ?_
  obtain ⟨r1, hg, hf⟩ := bO_some hf
  refine e_callV (as := [.int x1, .int x2]) (v := (some (.int r1))) (s' := s) hV dX10_mend_3 (Or.inl rfl) rfl rfl rfl rfl (Nat.le_of_ble_eq_true rfl) lc_T rfl rfl (fun Q hQ => tX10_isNumberOf (d := d) hV  hg hQ) ?_
  refine e_if_eq 21 dX10_mend_6 (by decide) hf (fun hf => ?_) (fun hf => ?_)
  · refine e_iconst (w := (-1)) dX10_mend_21 (by decide) ?_
    obtain rfl := Option.some.inj hf
    exact e_iret dX10_mend_22 trivial hP
  · refine e_iload_n 3 dX10_mend_9 rfl rfl ?_
    refine e_if_lt 21 dX10_mend_10 (by decide) hf (fun hf => ?_) (fun hf => ?_)
    · refine e_iconst (w := (-1)) dX10_mend_21 (by decide) ?_
      obtain rfl := Option.some.inj hf
      exact e_iret dX10_mend_22 trivial hP
    · refine e_iload_n 3 dX10_mend_13 rfl rfl ?_
      refine e_iload_n 2 dX10_mend_14 rfl rfl ?_
      obtain ⟨r2, hg, hf⟩ := bO_some hf
      refine e_callS (as := [.int x2]) (v := (some (.int r2))) (s' := s) dX10_mend_15 rfl rfl rfl rfl rfl (Nat.le_of_ble_eq_true rfl) (fun Q hQ => tX10_topOf (d := (d + 1)) hV  hg hQ) ?_
      refine e_icmp_le 23 dX10_mend_18 (by decide) hf (fun hf => ?_) (fun hf => ?_)
      · refine e_aload_n 0 dX10_mend_23 rfl rfl ?_
        refine e_iload_n 1 dX10_mend_24 rfl rfl ?_
        refine e_iload_n 2 dX10_mend_25 rfl rfl ?_
        obtain ⟨r3, hg, hf⟩ := bO_some hf
        refine e_callV (as := [.int x1, .int x2]) (v := (some (.int r3))) (s' := s) hV dX10_mend_26 (Or.inl rfl) rfl rfl rfl rfl (Nat.le_of_ble_eq_true rfl) lc_T rfl rfl (fun Q hQ => tX10_valueOf (d := d) hV  hg hQ) ?_
        refine e_istore dX10_mend_29 (by decide) hf (fun v4 hf => ?_)
        refine e_iload 0 dX10_mend_31 rfl ?_
        refine e_iload_n 4 dX10_mend_33 rfl rfl ?_
        refine e_icmp_eq 56 dX10_mend_34 (by decide) hf (fun hf => ?_) (fun hf => ?_)
        · refine e_iload 0 dX10_mend_56 rfl ?_
          obtain rfl := Option.some.inj hf
          exact e_iret dX10_mend_58 trivial hP
        · refine e_aload_n 1 dX10_mend_37 rfl rfl ?_
          refine e_getr hV dX10_mend_38 rfl lc_T rfl ?_
          refine e_iload_n 2 dX10_mend_41 rfl rfl ?_
          refine e_iload_n 3 dX10_mend_42 rfl rfl ?_
          refine e_iload 0 dX10_mend_43 rfl ?_
          refine e_iload_n 4 dX10_mend_45 rfl rfl ?_
          obtain ⟨s5, hg, hf⟩ := bO_some hf
          refine e_callV (as := [.int x1, .int x2, .int v4, .int x3]) (v := none) (s' := s5) hV dX10_mend_46 (Or.inl rfl) rfl rfl rfl rfl (Nat.le_of_ble_eq_true rfl) lc_H rfl rfl (fun Q hQ => tX1_add (d := d) hV  hg hQ) ?_
          refine e_aload_n 1 dX10_mend_49 rfl rfl ?_
          refine e_iload_n 2 dX10_mend_50 rfl rfl ?_
          refine e_iload_n 3 dX10_mend_51 rfl rfl ?_
          refine e_iload_n 4 dX10_mend_52 rfl rfl ?_
          obtain ⟨s6, hg, hf⟩ := bO_some hf
          refine e_callV (as := [.int x1, .int x2, .int x3]) (v := none) (s' := s6) hV dX10_mend_53 (Or.inl rfl) rfl rfl rfl rfl (Nat.le_of_ble_eq_true rfl) lc_T rfl rfl (fun Q hQ => tX10_setValue (d := (d + 1)) hV  hg hQ) ?_
          refine e_iload 0 dX10_mend_56 rfl ?_
          obtain rfl := Option.some.inj hf
          exact e_iret dX10_mend_58 trivial hP
      · refine e_iconst (w := (-1)) dX10_mend_21 (by decide) ?_
        obtain rfl := Option.some.inj hf
        exact e_iret dX10_mend_22 trivial hP

theorem dX10_of_0 : decode cX10_of 0 = .ok (.aload_n 0, 1) := by decide +kernel
theorem dX10_of_1 : decode cX10_of 1 = .ok (.iload_n 1, 1) := by decide +kernel
theorem dX10_of_2 : decode cX10_of 2 = .ok (.iload_n 2, 1) := by decide +kernel
theorem dX10_of_3 : decode cX10_of 3 = .ok (.invokevirtual 130, 3) := by decide +kernel
theorem dX10_of_6 : decode cX10_of 6 = .ok (.ifCond .eq 12, 3) := by decide +kernel
theorem dX10_of_9 : decode cX10_of 9 = .ok (.aload_n 0, 1) := by decide +kernel
theorem dX10_of_10 : decode cX10_of 10 = .ok (.iload_n 1, 1) := by decide +kernel
theorem dX10_of_11 : decode cX10_of 11 = .ok (.iload_n 2, 1) := by decide +kernel
theorem dX10_of_12 : decode cX10_of 12 = .ok (.invokevirtual 137, 3) := by decide +kernel
theorem dX10_of_15 : decode cX10_of 15 = .ok (.goto 4, 3) := by decide +kernel
theorem dX10_of_18 : decode cX10_of 18 = .ok (.iconst (-1), 1) := by decide +kernel
theorem dX10_of_19 : decode cX10_of 19 = .ok (.ireturn, 1) := by decide +kernel
def fX10_of (x1 : Int32) (x2 : Int32) (s : mS) : Option Int32 :=
  bO (fX10_isNumberOf x1 x2 s) fun r1 =>
  if r1 = 0 then
    some (-1)
  else
    bO (fX10_valueOf x1 x2 s) fun r2 =>
    some r2

set_option maxRecDepth 20000 in
theorem tX10_of {ρ : mRo} {d : Nat} {P : mPo} {V : mS → List mE} (hV : mView LC V)  {x1 : Int32} {x2 : Int32} {s : mS} {res : Int32} (hf : fX10_of x1 x2 s = some res) (hP : P (some (.int res)) (V s)) : mC ρ (d + 3) 68 [.ref qT, .int x1, .int x2] (V s) P := by
  refine ⟨_, rfl, Nat.le_of_ble_eq_true rfl, by decide, ?_⟩
  show mG ρ (mC ρ (d + 2)) 10 3 cX10_of (some .int) P 0 [(0, .ref qT), (1, .int x1), (2, .int x2)] [] (V s)
  unfold fX10_of at hf
  refine e_aload_n 0 dX10_of_0 rfl rfl ?_
  refine e_iload_n 1 dX10_of_1 rfl rfl ?_
  refine e_iload_n 2 dX10_of_2 rfl rfl ?_
  obtain ⟨r1, hg, hf⟩ := bO_some hf
  refine e_callV (as := [.int x1, .int x2]) (v := (some (.int r1))) (s' := s) hV dX10_of_3 (Or.inl rfl) rfl rfl rfl rfl (Nat.le_of_ble_eq_true rfl) lc_T rfl rfl (fun Q hQ => tX10_isNumberOf (d := d) hV  hg hQ) ?_
  refine e_if_eq 18 dX10_of_6 (by decide) hf (fun hf => ?_) (fun hf => ?_)
  · refine e_iconst (w := (-1)) dX10_of_18 (by decide) ?_
    obtain rfl := Option.some.inj hf
    exact e_iret dX10_of_19 trivial hP
  · refine e_aload_n 0 dX10_of_9 rfl rfl ?_
    refine e_iload_n 1 dX10_of_10 rfl rfl ?_
    refine e_iload_n 2 dX10_of_11 rfl rfl ?_
    obtain ⟨r2, hg, hf⟩ := bO_some hf
    refine e_callV (as := [.int x1, .int x2]) (v := (some (.int r2))) (s' := s) hV dX10_of_12 (Or.inl rfl) rfl rfl rfl rfl (Nat.le_of_ble_eq_true rfl) lc_T rfl rfl (fun Q hQ => tX10_valueOf (d := d) hV  hg hQ) ?_
    refine e_goto 19 dX10_of_15 (by decide) ?_
    obtain rfl := Option.some.inj hf
    exact e_iret dX10_of_19 trivial hP

theorem dX10_feed_0 : decode cX10_feed 0 = .ok (.iload_n 1, 1) := by decide +kernel
theorem dX10_feed_1 : decode cX10_feed 1 = .ok (.ifCond .lt 10, 3) := by decide +kernel
theorem dX10_feed_4 : decode cX10_feed 4 = .ok (.iload_n 1, 1) := by decide +kernel
theorem dX10_feed_5 : decode cX10_feed 5 = .ok (.sipush 255, 3) := by decide +kernel
theorem dX10_feed_8 : decode cX10_feed 8 = .ok (.if_icmp .le 5, 3) := by decide +kernel
theorem dX10_feed_11 : decode cX10_feed 11 = .ok (.iconst (-1), 1) := by decide +kernel
theorem dX10_feed_12 : decode cX10_feed 12 = .ok (.ireturn, 1) := by decide +kernel
theorem dX10_feed_13 : decode cX10_feed 13 = .ok (.aload_n 0, 1) := by decide +kernel
theorem dX10_feed_14 : decode cX10_feed 14 = .ok (.getfield 29, 3) := by decide +kernel
theorem dX10_feed_17 : decode cX10_feed 17 = .ok (.invokevirtual 149, 3) := by decide +kernel
theorem dX10_feed_20 : decode cX10_feed 20 = .ok (.ifCond .eq 8, 3) := by decide +kernel
theorem dX10_feed_23 : decode cX10_feed 23 = .ok (.bipush (-3), 2) := by decide +kernel
theorem dX10_feed_25 : decode cX10_feed 25 = .ok (.goto 11, 3) := by decide +kernel
theorem dX10_feed_28 : decode cX10_feed 28 = .ok (.aload_n 0, 1) := by decide +kernel
theorem dX10_feed_29 : decode cX10_feed 29 = .ok (.getfield 29, 3) := by decide +kernel
theorem dX10_feed_32 : decode cX10_feed 32 = .ok (.iload_n 1, 1) := by decide +kernel
theorem dX10_feed_33 : decode cX10_feed 33 = .ok (.invokevirtual 150, 3) := by decide +kernel
theorem dX10_feed_36 : decode cX10_feed 36 = .ok (.ireturn, 1) := by decide +kernel
def fX10_feed (x1 : Int32) (s : mS) : Option (Int32 × mS) :=
  if x1 < 0 then
    some ((-1), s)
  else
    if x1 ≤ (nI 255) then
      bO (fX8_isFull s) fun r1 =>
      if r1 = 0 then
        bP (fX8_addByte x1 s) fun r2 s3 =>
        some (r2, s3)
      else
        some ((-3), s)
    else
      some ((-1), s)

set_option maxRecDepth 20000 in
theorem tX10_feed {ρ : mRo} {d : Nat} {P : mPo} {V : mS → List mE} (hV : mView LC V)  {x1 : Int32} {s : mS} {res : (Int32 × mS)} (hf : fX10_feed x1 s = some res) (hP : P (some (.int res.1)) (V res.2)) : mC ρ (d + 2) 69 [.ref qT, .int x1] (V s) P := by
  refine ⟨_, rfl, Nat.le_of_ble_eq_true rfl, by decide, ?_⟩
  show mG ρ (mC ρ (d + 1)) 10 2 cX10_feed (some .int) P 0 [(0, .ref qT), (1, .int x1)] [] (V s)
  unfold fX10_feed at hf
  refine e_iload_n 1 dX10_feed_0 rfl rfl ?_
  refine e_if_lt 11 dX10_feed_1 (by decide) hf (fun hf => ?_) (fun hf => ?_)
  · refine e_iconst (w := (-1)) dX10_feed_11 (by decide) ?_
    obtain rfl := Option.some.inj hf
    exact e_iret dX10_feed_12 trivial hP
  · refine e_iload_n 1 dX10_feed_4 rfl rfl ?_
    refine e_sipush (w := (nI 255)) dX10_feed_5 (by decide) ?_
    refine e_icmp_le 13 dX10_feed_8 (by decide) hf (fun hf => ?_) (fun hf => ?_)
    · refine e_aload_n 0 dX10_feed_13 rfl rfl ?_
      refine e_getr hV dX10_feed_14 rfl lc_T rfl ?_
      obtain ⟨r1, hg, hf⟩ := bO_some hf
      refine e_callV (as := []) (v := (some (.int r1))) (s' := s) hV dX10_feed_17 (Or.inl rfl) rfl rfl rfl rfl (Nat.le_of_ble_eq_true rfl) lc_P rfl rfl (fun Q hQ => tX8_isFull (d := d) hV  hg hQ) ?_
      refine e_if_eq 28 dX10_feed_20 (by decide) hf (fun hf => ?_) (fun hf => ?_)
      · refine e_aload_n 0 dX10_feed_28 rfl rfl ?_
        refine e_getr hV dX10_feed_29 rfl lc_T rfl ?_
        refine e_iload_n 1 dX10_feed_32 rfl rfl ?_
        obtain ⟨r2, s3, hg, hf⟩ := bP_some hf
        refine e_callV (as := [.int x1]) (v := (some (.int r2))) (s' := s3) hV dX10_feed_33 (Or.inl rfl) rfl rfl rfl rfl (Nat.le_of_ble_eq_true rfl) lc_P rfl rfl (fun Q hQ => tX8_addByte (d := d) hV  hg hQ) ?_
        obtain rfl := Option.some.inj hf
        exact e_iret dX10_feed_36 trivial hP
      · refine e_bipush (w := (-3)) dX10_feed_23 (by decide) ?_
        refine e_goto 36 dX10_feed_25 (by decide) ?_
        obtain rfl := Option.some.inj hf
        exact e_iret dX10_feed_36 trivial hP
    · refine e_iconst (w := (-1)) dX10_feed_11 (by decide) ?_
      obtain rfl := Option.some.inj hf
      exact e_iret dX10_feed_12 trivial hP

theorem dX10_law_0 : decode cX10_law 0 = .ok (.aload_n 0, 1) := by decide +kernel
theorem dX10_law_1 : decode cX10_law 1 = .ok (.getfield 29, 3) := by decide +kernel
theorem dX10_law_4 : decode cX10_law 4 = .ok (.invokevirtual 153, 3) := by decide +kernel
theorem dX10_law_7 : decode cX10_law 7 = .ok (.istore_n 1, 1) := by decide +kernel
theorem dX10_law_8 : decode cX10_law 8 = .ok (.aload_n 0, 1) := by decide +kernel
theorem dX10_law_9 : decode cX10_law 9 = .ok (.getfield 29, 3) := by decide +kernel
theorem dX10_law_12 : decode cX10_law 12 = .ok (.iconst 0, 1) := by decide +kernel
theorem dX10_law_13 : decode cX10_law 13 = .ok (.putfield 156, 3) := by decide +kernel
theorem dX10_law_16 : decode cX10_law 16 = .ok (.iload_n 1, 1) := by decide +kernel
theorem dX10_law_17 : decode cX10_law 17 = .ok (.ifCond .ne 14, 3) := by decide +kernel
theorem dX10_law_20 : decode cX10_law 20 = .ok (.bipush (-100), 2) := by decide +kernel
theorem dX10_law_22 : decode cX10_law 22 = .ok (.aload_n 0, 1) := by decide +kernel
theorem dX10_law_23 : decode cX10_law 23 = .ok (.getfield 29, 3) := by decide +kernel
theorem dX10_law_26 : decode cX10_law 26 = .ok (.getfield 157, 3) := by decide +kernel
theorem dX10_law_29 : decode cX10_law 29 = .ok (.isub, 1) := by decide +kernel
theorem dX10_law_30 : decode cX10_law 30 = .ok (.ireturn, 1) := by decide +kernel
theorem dX10_law_31 : decode cX10_law 31 = .ok (.aload_n 0, 1) := by decide +kernel
theorem dX10_law_32 : decode cX10_law 32 = .ok (.getfield 36, 3) := by decide +kernel
theorem dX10_law_35 : decode cX10_law 35 = .ok (.aload_n 0, 1) := by decide +kernel
theorem dX10_law_36 : decode cX10_law 36 = .ok (.getfield 29, 3) := by decide +kernel
theorem dX10_law_39 : decode cX10_law 39 = .ok (.invokevirtual 160, 3) := by decide +kernel
theorem dX10_law_42 : decode cX10_law 42 = .ok (.iconst 1, 1) := by decide +kernel
theorem dX10_law_43 : decode cX10_law 43 = .ok (.ireturn, 1) := by decide +kernel
def fX10_law (s : mS) : Option (Int32 × mS) :=
  bP (fX8_read s) fun r1 s2 =>
  bnd r1 fun v3 =>
  bnd (pI s2 iP_size (nI 0)) fun s4 =>
  if v3 = 0 then
    some ((-100) - (gI s4 iP_at), s4)
  else
    bO (fX4_become s4) fun s5 =>
    some ((nI 1), s5)

set_option maxRecDepth 20000 in
theorem tX10_law {ρ : mRo} {d : Nat} {P : mPo} {V : mS → List mE} (hV : mView LC V)  {s : mS} {res : (Int32 × mS)} (hf : fX10_law s = some res) (hP : P (some (.int res.1)) (V res.2)) : mC ρ (d + 65) 70 [.ref qT] (V s) P := by
  refine ⟨_, rfl, Nat.le_of_ble_eq_true rfl, by decide, ?_⟩
  show mG ρ (mC ρ (d + 64)) 10 2 cX10_law (some .int) P 0 [(0, .ref qT)] [] (V s)
  unfold fX10_law at hf
  refine e_aload_n 0 dX10_law_0 rfl rfl ?_
  refine e_getr hV dX10_law_1 rfl lc_T rfl ?_
  obtain ⟨r1, s2, hg, hf⟩ := bP_some hf
  refine e_callV (as := []) (v := (some (.int r1))) (s' := s2) hV dX10_law_4 (Or.inl rfl) rfl rfl rfl rfl (Nat.le_of_ble_eq_true rfl) lc_P rfl rfl (fun Q hQ => tX8_read (d := d) hV  hg hQ) ?_
  refine e_istore_n dX10_law_7 rfl (by decide) hf (fun v3 hf => ?_)
  refine e_aload_n 1 dX10_law_8 rfl rfl ?_
  refine e_getr hV dX10_law_9 rfl lc_T rfl ?_
  refine e_iconst (w := (nI 0)) dX10_law_12 (by decide) ?_
  refine e_puti hV dX10_law_13 rfl rfl rfl (Or.inl rfl) lc_P rfl hf (fun s4 hf => ?_)
  refine e_iload_n 0 dX10_law_16 rfl rfl ?_
  refine e_if_ne 31 dX10_law_17 (by decide) hf (fun hf => ?_) (fun hf => ?_)
  · refine e_aload_n 1 dX10_law_31 rfl rfl ?_
    refine e_getr hV dX10_law_32 rfl lc_T rfl ?_
    refine e_aload_n 1 dX10_law_35 rfl rfl ?_
    refine e_getr hV dX10_law_36 rfl lc_T rfl ?_
    obtain ⟨s5, hg, hf⟩ := bO_some hf
    refine e_callV (as := [.ref qP]) (v := none) (s' := s5) hV dX10_law_39 (Or.inl rfl) rfl rfl rfl rfl (Nat.le_of_ble_eq_true rfl) lc_L rfl rfl (fun Q hQ => tX4_become (d := (d + 63)) hV  hg hQ) ?_
    refine e_iconst (w := (nI 1)) dX10_law_42 (by decide) ?_
    obtain rfl := Option.some.inj hf
    exact e_iret dX10_law_43 trivial hP
  · refine e_bipush (w := (-100)) dX10_law_20 (by decide) ?_
    refine e_aload_n 1 dX10_law_22 rfl rfl ?_
    refine e_getr hV dX10_law_23 rfl lc_T rfl ?_
    refine e_geti hV dX10_law_26 rfl lc_P rfl ?_
    refine e_isub dX10_law_29 ?_
    obtain rfl := Option.some.inj hf
    exact e_iret dX10_law_30 trivial hP

theorem dX10_isPair_0 : decode cX10_isPair 0 = .ok (.iload_n 1, 1) := by decide +kernel
theorem dX10_isPair_1 : decode cX10_isPair 1 = .ok (.ifCond .lt 35, 3) := by decide +kernel
theorem dX10_isPair_4 : decode cX10_isPair 4 = .ok (.aload_n 0, 1) := by decide +kernel
theorem dX10_isPair_5 : decode cX10_isPair 5 = .ok (.getfield 22, 3) := by decide +kernel
theorem dX10_isPair_8 : decode cX10_isPair 8 = .ok (.iload_n 1, 1) := by decide +kernel
theorem dX10_isPair_9 : decode cX10_isPair 9 = .ok (.bipush 10, 2) := by decide +kernel
theorem dX10_isPair_11 : decode cX10_isPair 11 = .ok (.idiv, 1) := by decide +kernel
theorem dX10_isPair_12 : decode cX10_isPair 12 = .ok (.invokevirtual 208, 3) := by decide +kernel
theorem dX10_isPair_15 : decode cX10_isPair 15 = .ok (.ifCond .eq 21, 3) := by decide +kernel
theorem dX10_isPair_18 : decode cX10_isPair 18 = .ok (.aload_n 0, 1) := by decide +kernel
theorem dX10_isPair_19 : decode cX10_isPair 19 = .ok (.getfield 10, 3) := by decide +kernel
theorem dX10_isPair_22 : decode cX10_isPair 22 = .ok (.iload_n 1, 1) := by decide +kernel
theorem dX10_isPair_23 : decode cX10_isPair 23 = .ok (.bipush 10, 2) := by decide +kernel
theorem dX10_isPair_25 : decode cX10_isPair 25 = .ok (.irem, 1) := by decide +kernel
theorem dX10_isPair_26 : decode cX10_isPair 26 = .ok (.invokevirtual 174, 3) := by decide +kernel
theorem dX10_isPair_29 : decode cX10_isPair 29 = .ok (.ifCond .eq 7, 3) := by decide +kernel
theorem dX10_isPair_32 : decode cX10_isPair 32 = .ok (.iconst 1, 1) := by decide +kernel
theorem dX10_isPair_33 : decode cX10_isPair 33 = .ok (.goto 4, 3) := by decide +kernel
theorem dX10_isPair_36 : decode cX10_isPair 36 = .ok (.iconst 0, 1) := by decide +kernel
theorem dX10_isPair_37 : decode cX10_isPair 37 = .ok (.ireturn, 1) := by decide +kernel
def fX10_isPair (x1 : Int32) (s : mS) : Option Int32 :=
  if x1 < 0 then
    some (nI 0)
  else
    bO (fX9_has 0 (x1 / (nI 10)) s) fun r1 =>
    if r1 = 0 then
      some (nI 0)
    else
      bO (fX6_has 0 (x1 - x1 / (nI 10) * (nI 10)) s) fun r2 =>
      if r2 = 0 then
        some (nI 0)
      else
        some (nI 1)

set_option maxRecDepth 20000 in
theorem tX10_isPair {ρ : mRo} {d : Nat} {P : mPo} {V : mS → List mE} (hV : mView LC V)  {x1 : Int32} {s : mS} {res : Int32} (hf : fX10_isPair x1 s = some res) (hP : P (some (.int res)) (V s)) : mC ρ (d + 2) 111 [.ref qT, .int x1] (V s) P := by
  refine ⟨_, rfl, Nat.le_of_ble_eq_true rfl, by decide, ?_⟩
  show mG ρ (mC ρ (d + 1)) 10 2 cX10_isPair (some .boolean) P 0 [(0, .ref qT), (1, .int x1)] [] (V s)
  unfold fX10_isPair at hf
  refine e_iload_n 1 dX10_isPair_0 rfl rfl ?_
  refine e_if_lt 36 dX10_isPair_1 (by decide) hf (fun hf => ?_) (fun hf => ?_)
  · refine e_iconst (w := (nI 0)) dX10_isPair_36 (by decide) ?_
    obtain rfl := Option.some.inj hf
    exact e_iret dX10_isPair_37 (Or.inl rfl) hP
  · refine e_aload_n 0 dX10_isPair_4 rfl rfl ?_
    refine e_getr hV dX10_isPair_5 rfl lc_T rfl ?_
    refine e_iload_n 1 dX10_isPair_8 rfl rfl ?_
    refine e_bipush (w := (nI 10)) dX10_isPair_9 (by decide) ?_
    refine e_idiv dX10_isPair_11 (by decide) ?_
    obtain ⟨r1, hg, hf⟩ := bO_some hf
    refine e_callV (as := [.int (x1 / (nI 10))]) (v := (some (.int r1))) (s' := s) hV dX10_isPair_12 (Or.inl rfl) rfl rfl rfl rfl (Nat.le_of_ble_eq_true rfl) (lc_W (by decide)) rfl rfl (fun Q hQ => tX9_has (d := d) hV (by decide) hg hQ) ?_
    refine e_if_eq 36 dX10_isPair_15 (by decide) hf (fun hf => ?_) (fun hf => ?_)
    · refine e_iconst (w := (nI 0)) dX10_isPair_36 (by decide) ?_
      obtain rfl := Option.some.inj hf
      exact e_iret dX10_isPair_37 (Or.inl rfl) hP
    · refine e_aload_n 0 dX10_isPair_18 rfl rfl ?_
      refine e_getr hV dX10_isPair_19 rfl lc_T rfl ?_
      refine e_iload_n 1 dX10_isPair_22 rfl rfl ?_
      refine e_bipush (w := (nI 10)) dX10_isPair_23 (by decide) ?_
      refine e_irem dX10_isPair_25 (by decide) ?_
      obtain ⟨r2, hg, hf⟩ := bO_some hf
      refine e_callV (as := [.int (x1 - x1 / (nI 10) * (nI 10))]) (v := (some (.int r2))) (s' := s) hV dX10_isPair_26 (Or.inl rfl) rfl rfl rfl rfl (Nat.le_of_ble_eq_true rfl) (lc_M (by decide)) rfl rfl (fun Q hQ => tX6_has (d := d) hV (by decide) hg hQ) ?_
      refine e_if_eq 36 dX10_isPair_29 (by decide) hf (fun hf => ?_) (fun hf => ?_)
      · refine e_iconst (w := (nI 0)) dX10_isPair_36 (by decide) ?_
        obtain rfl := Option.some.inj hf
        exact e_iret dX10_isPair_37 (Or.inl rfl) hP
      · refine e_iconst (w := (nI 1)) dX10_isPair_32 (by decide) ?_
        refine e_goto 37 dX10_isPair_33 (by decide) ?_
        obtain rfl := Option.some.inj hf
        exact e_iret dX10_isPair_37 (Or.inr rfl) hP
