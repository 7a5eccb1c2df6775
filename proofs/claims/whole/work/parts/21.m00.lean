-- bytecode to functions, by program (wip/gen/decomp.py)
theorem dX3_own_0 : decode cX3_own 0 = .ok (.aload_n 0, 1) := by decide +kernel
theorem dX3_own_1 : decode cX3_own 1 = .ok (.iload_n 1, 1) := by decide +kernel
theorem dX3_own_2 : decode cX3_own 2 = .ok (.aload_n 0, 1) := by decide +kernel
theorem dX3_own_3 : decode cX3_own 3 = .ok (.getfield 9, 3) := by decide +kernel
theorem dX3_own_6 : decode cX3_own 6 = .ok (.iload_n 1, 1) := by decide +kernel
theorem dX3_own_7 : decode cX3_own 7 = .ok (.iaload, 1) := by decide +kernel
theorem dX3_own_8 : decode cX3_own 8 = .ok (.iload_n 2, 1) := by decide +kernel
theorem dX3_own_9 : decode cX3_own 9 = .ok (.iload_n 3, 1) := by decide +kernel
theorem dX3_own_10 : decode cX3_own 10 = .ok (.iload 4, 2) := by decide +kernel
theorem dX3_own_12 : decode cX3_own 12 = .ok (.iconst 1, 1) := by decide +kernel
theorem dX3_own_13 : decode cX3_own 13 = .ok (.iadd, 1) := by decide +kernel
theorem dX3_own_14 : decode cX3_own 14 = .ok (.invokevirtual 41, 3) := by decide +kernel
theorem dX3_own_17 : decode cX3_own 17 = .ok (.ireturn, 1) := by decide +kernel
def gX3_own (R0 : Int32 → Int32 → Int32 → Int32 → Int32 → mS → Option (Int32 × mS)) (R1 : Int32 → Int32 → Int32 → Int32 → mS → Option (Int32 × mS)) (R2 : Int32 → Int32 → Int32 → Int32 → mS → Option (Int32 × mS)) (R3 : Int32 → Int32 → Int32 → Int32 → Int32 → mS → Option (Int32 × mS)) (x1 : Int32) (x2 : Int32) (x3 : Int32) (x4 : Int32) (s : mS) : Option (Int32 × mS) :=
  ldA s aU_kinds 50 x1 fun v1 =>
  bP (R0 x1 v1 x2 x3 (x4 + 1) s) fun r2 s3 =>
  some (r2, s3)

set_option maxRecDepth 20000 in
theorem uX3_own {ρ : mRo} {n d : Nat} {P : mPo} {V : mS → List mE} (hV : mView LC V) (hr : mRoC ρ) {R0 : Int32 → Int32 → Int32 → Int32 → Int32 → mS → Option (Int32 × mS)} (hR0 : ∀ {x1 x2 x3 x4 x5 : Int32} {s : mS} {res : (Int32 × mS)} {Q : mPo}, R0 x1 x2 x3 x4 x5 s = some res → Q (some (.int res.1)) (V res.2) → mC ρ (n + d + 1) 16 [.ref qU, .int x1, .int x2, .int x3, .int x4, .int x5] (V s) Q) {R1 : Int32 → Int32 → Int32 → Int32 → mS → Option (Int32 × mS)} (hR1 : ∀ {x1 x2 x3 x4 : Int32} {s : mS} {res : (Int32 × mS)} {Q : mPo}, R1 x1 x2 x3 x4 s = some res → Q (some (.int res.1)) (V res.2) → mC ρ (n + d + 1) 17 [.ref qU, .int x1, .int x2, .int x3, .int x4] (V s) Q) {R2 : Int32 → Int32 → Int32 → Int32 → mS → Option (Int32 × mS)} (hR2 : ∀ {x1 x2 x3 x4 : Int32} {s : mS} {res : (Int32 × mS)} {Q : mPo}, R2 x1 x2 x3 x4 s = some res → Q (some (.int res.1)) (V res.2) → mC ρ (n + d + 1) 18 [.ref qU, .int x1, .int x2, .int x3, .int x4] (V s) Q) {R3 : Int32 → Int32 → Int32 → Int32 → Int32 → mS → Option (Int32 × mS)} (hR3 : ∀ {x1 x2 x3 x4 x5 : Int32} {s : mS} {res : (Int32 × mS)} {Q : mPo}, R3 x1 x2 x3 x4 x5 s = some res → Q (some (.int res.1)) (V res.2) → mC ρ (n + d + 1) 19 [.ref qU, .int x1, .int x2, .int x3, .int x4, .int x5] (V s) Q)  {x1 : Int32} {x2 : Int32} {x3 : Int32} {x4 : Int32} {s : mS} {res : (Int32 × mS)} (hf : gX3_own R0 R1 R2 R3 x1 x2 x3 x4 s = some res) (hP : P (some (.int res.1)) (V res.2)) : mC ρ (n + d + 1 + 1) 17 [.ref qU, .int x1, .int x2, .int x3, .int x4] (V s) P := by
  refine ⟨_, rfl, Nat.le_of_ble_eq_true rfl, by decide, ?_⟩
  show mG ρ (mC ρ (n + d + 1)) 3 5 cX3_own (some .int) P 0 [(0, .ref qU), (1, .int x1), (2, .int x2), (3, .int x3), (4, .int x4)] [] (V s)
  unfold gX3_own at hf
  refine e_aload_n 0 dX3_own_0 rfl rfl ?_
  refine e_iload_n 1 dX3_own_1 rfl rfl ?_
  refine e_aload_n 0 dX3_own_2 rfl rfl ?_
  refine e_getr hV dX3_own_3 rfl lc_U rfl ?_
  refine e_iload_n 1 dX3_own_6 rfl rfl ?_
  refine e_iald hV dX3_own_7 lc_U_kinds hf (fun v1 hf => ?_)
  refine e_iload_n 2 dX3_own_8 rfl rfl ?_
  refine e_iload_n 3 dX3_own_9 rfl rfl ?_
  refine e_iload 4 dX3_own_10 rfl ?_
  refine e_iconst (w := 1) dX3_own_12 (by decide) ?_
  refine e_iadd dX3_own_13 ?_
  obtain ⟨r2, s3, hg, hf⟩ := bP_some hf
  refine e_callV (as := [.int x1, .int v1, .int x2, .int x3, .int (x4 + 1)]) (v := (some (.int r2))) (s' := s3) hV dX3_own_14 (Or.inl rfl) rfl rfl rfl rfl (Nat.le_of_ble_eq_true rfl) lc_U rfl rfl (fun Q hQ => hR0 hg hQ) ?_
  obtain rfl := Option.some.inj hf
  exact e_iret dX3_own_17 trivial hP

theorem dX3_runGhost_0 : decode cX3_runGhost 0 = .ok (.iload_n 1, 1) := by decide +kernel
theorem dX3_runGhost_1 : decode cX3_runGhost 1 = .ok (.lookupswitch 71 #[(1, 35), (2, 39), (10, 59)], 35) := by decide +kernel
theorem dX3_runGhost_36 : decode cX3_runGhost 36 = .ok (.iload_n 3, 1) := by decide +kernel
theorem dX3_runGhost_37 : decode cX3_runGhost 37 = .ok (.iload_n 2, 1) := by decide +kernel
theorem dX3_runGhost_38 : decode cX3_runGhost 38 = .ok (.iadd, 1) := by decide +kernel
theorem dX3_runGhost_39 : decode cX3_runGhost 39 = .ok (.ireturn, 1) := by decide +kernel
theorem dX3_runGhost_40 : decode cX3_runGhost 40 = .ok (.aload_n 0, 1) := by decide +kernel
theorem dX3_runGhost_41 : decode cX3_runGhost 41 = .ok (.iload_n 2, 1) := by decide +kernel
theorem dX3_runGhost_42 : decode cX3_runGhost 42 = .ok (.iconst 1, 1) := by decide +kernel
theorem dX3_runGhost_43 : decode cX3_runGhost 43 = .ok (.iload_n 3, 1) := by decide +kernel
theorem dX3_runGhost_44 : decode cX3_runGhost 44 = .ok (.iload 4, 2) := by decide +kernel
theorem dX3_runGhost_46 : decode cX3_runGhost 46 = .ok (.invokevirtual 44, 3) := by decide +kernel
theorem dX3_runGhost_49 : decode cX3_runGhost 49 = .ok (.aload_n 0, 1) := by decide +kernel
theorem dX3_runGhost_50 : decode cX3_runGhost 50 = .ok (.iload_n 2, 1) := by decide +kernel
theorem dX3_runGhost_51 : decode cX3_runGhost 51 = .ok (.iconst 2, 1) := by decide +kernel
theorem dX3_runGhost_52 : decode cX3_runGhost 52 = .ok (.iconst 1, 1) := by decide +kernel
theorem dX3_runGhost_53 : decode cX3_runGhost 53 = .ok (.iload 4, 2) := by decide +kernel
theorem dX3_runGhost_55 : decode cX3_runGhost 55 = .ok (.invokevirtual 44, 3) := by decide +kernel
theorem dX3_runGhost_58 : decode cX3_runGhost 58 = .ok (.isub, 1) := by decide +kernel
theorem dX3_runGhost_59 : decode cX3_runGhost 59 = .ok (.ireturn, 1) := by decide +kernel
theorem dX3_runGhost_60 : decode cX3_runGhost 60 = .ok (.aload_n 0, 1) := by decide +kernel
theorem dX3_runGhost_61 : decode cX3_runGhost 61 = .ok (.iload_n 2, 1) := by decide +kernel
theorem dX3_runGhost_62 : decode cX3_runGhost 62 = .ok (.iconst 0, 1) := by decide +kernel
theorem dX3_runGhost_63 : decode cX3_runGhost 63 = .ok (.iload_n 3, 1) := by decide +kernel
theorem dX3_runGhost_64 : decode cX3_runGhost 64 = .ok (.iload 4, 2) := by decide +kernel
theorem dX3_runGhost_66 : decode cX3_runGhost 66 = .ok (.invokevirtual 44, 3) := by decide +kernel
theorem dX3_runGhost_69 : decode cX3_runGhost 69 = .ok (.iconst 2, 1) := by decide +kernel
theorem dX3_runGhost_70 : decode cX3_runGhost 70 = .ok (.imul, 1) := by decide +kernel
theorem dX3_runGhost_71 : decode cX3_runGhost 71 = .ok (.ireturn, 1) := by decide +kernel
theorem dX3_runGhost_72 : decode cX3_runGhost 72 = .ok (.iload_n 3, 1) := by decide +kernel
theorem dX3_runGhost_73 : decode cX3_runGhost 73 = .ok (.iload_n 2, 1) := by decide +kernel
theorem dX3_runGhost_74 : decode cX3_runGhost 74 = .ok (.ixor, 1) := by decide +kernel
theorem dX3_runGhost_75 : decode cX3_runGhost 75 = .ok (.ireturn, 1) := by decide +kernel
def gX3_runGhost (R0 : Int32 → Int32 → Int32 → Int32 → Int32 → mS → Option (Int32 × mS)) (R1 : Int32 → Int32 → Int32 → Int32 → mS → Option (Int32 × mS)) (R2 : Int32 → Int32 → Int32 → Int32 → mS → Option (Int32 × mS)) (R3 : Int32 → Int32 → Int32 → Int32 → Int32 → mS → Option (Int32 × mS)) (x1 : Int32) (x2 : Int32) (x3 : Int32) (x4 : Int32) (s : mS) : Option (Int32 × mS) :=
  if x1 = 1 then
    some (x3 + x2, s)
  else if x1 = 2 then
    bP (R1 x2 1 x3 x4 s) fun r1 s2 =>
    bP (R1 x2 2 1 x4 s2) fun r3 s4 =>
    some (r1 - r3, s4)
  else if x1 = 10 then
    bP (R1 x2 0 x3 x4 s) fun r5 s6 =>
    some (r5 * 2, s6)
  else
    some (x3 ^^^ x2, s)

set_option maxRecDepth 20000 in
theorem uX3_runGhost {ρ : mRo} {n d : Nat} {P : mPo} {V : mS → List mE} (hV : mView LC V) (hr : mRoC ρ) {R0 : Int32 → Int32 → Int32 → Int32 → Int32 → mS → Option (Int32 × mS)} (hR0 : ∀ {x1 x2 x3 x4 x5 : Int32} {s : mS} {res : (Int32 × mS)} {Q : mPo}, R0 x1 x2 x3 x4 x5 s = some res → Q (some (.int res.1)) (V res.2) → mC ρ (n + d + 1) 16 [.ref qU, .int x1, .int x2, .int x3, .int x4, .int x5] (V s) Q) {R1 : Int32 → Int32 → Int32 → Int32 → mS → Option (Int32 × mS)} (hR1 : ∀ {x1 x2 x3 x4 : Int32} {s : mS} {res : (Int32 × mS)} {Q : mPo}, R1 x1 x2 x3 x4 s = some res → Q (some (.int res.1)) (V res.2) → mC ρ (n + d + 1) 17 [.ref qU, .int x1, .int x2, .int x3, .int x4] (V s) Q) {R2 : Int32 → Int32 → Int32 → Int32 → mS → Option (Int32 × mS)} (hR2 : ∀ {x1 x2 x3 x4 : Int32} {s : mS} {res : (Int32 × mS)} {Q : mPo}, R2 x1 x2 x3 x4 s = some res → Q (some (.int res.1)) (V res.2) → mC ρ (n + d + 1) 18 [.ref qU, .int x1, .int x2, .int x3, .int x4] (V s) Q) {R3 : Int32 → Int32 → Int32 → Int32 → Int32 → mS → Option (Int32 × mS)} (hR3 : ∀ {x1 x2 x3 x4 x5 : Int32} {s : mS} {res : (Int32 × mS)} {Q : mPo}, R3 x1 x2 x3 x4 x5 s = some res → Q (some (.int res.1)) (V res.2) → mC ρ (n + d + 1) 19 [.ref qU, .int x1, .int x2, .int x3, .int x4, .int x5] (V s) Q)  {x1 : Int32} {x2 : Int32} {x3 : Int32} {x4 : Int32} {s : mS} {res : (Int32 × mS)} (hf : gX3_runGhost R0 R1 R2 R3 x1 x2 x3 x4 s = some res) (hP : P (some (.int res.1)) (V res.2)) : mC ρ (n + d + 1 + 1) 18 [.ref qU, .int x1, .int x2, .int x3, .int x4] (V s) P := by
  refine ⟨_, rfl, Nat.le_of_ble_eq_true rfl, by decide, ?_⟩
  show mG ρ (mC ρ (n + d + 1)) 3 5 cX3_runGhost (some .int) P 0 [(0, .ref qU), (1, .int x1), (2, .int x2), (3, .int x3), (4, .int x4)] [] (V s)
  unfold gX3_runGhost at hf
  refine e_iload_n 1 dX3_runGhost_0 rfl rfl ?_
  by_cases hc1 : x1 = 1
  · rw [if_pos hc1] at hf
    refine e_look (tgt := 36) (w := 1) dX3_runGhost_1 hc1 (by decide) (by decide) ?_
    refine e_iload_n 3 dX3_runGhost_36 rfl rfl ?_
    refine e_iload_n 2 dX3_runGhost_37 rfl rfl ?_
    refine e_iadd dX3_runGhost_38 ?_
    obtain rfl := Option.some.inj hf
    exact e_iret dX3_runGhost_39 trivial hP
  rw [if_neg hc1] at hf
  by_cases hc2 : x1 = 2
  · rw [if_pos hc2] at hf
    refine e_look (tgt := 40) (w := 2) dX3_runGhost_1 hc2 (by decide) (by decide) ?_
    refine e_aload_n 0 dX3_runGhost_40 rfl rfl ?_
    refine e_iload_n 2 dX3_runGhost_41 rfl rfl ?_
    refine e_iconst (w := 1) dX3_runGhost_42 (by decide) ?_
    refine e_iload_n 3 dX3_runGhost_43 rfl rfl ?_
    refine e_iload 4 dX3_runGhost_44 rfl ?_
    obtain ⟨r1, s2, hg, hf⟩ := bP_some hf
    refine e_callV (as := [.int x2, .int 1, .int x3, .int x4]) (v := (some (.int r1))) (s' := s2) hV dX3_runGhost_46 (Or.inl rfl) rfl rfl rfl rfl (Nat.le_of_ble_eq_true rfl) lc_U rfl rfl (fun Q hQ => hR1 hg hQ) ?_
    refine e_aload_n 0 dX3_runGhost_49 rfl rfl ?_
    refine e_iload_n 2 dX3_runGhost_50 rfl rfl ?_
    refine e_iconst (w := 2) dX3_runGhost_51 (by decide) ?_
    refine e_iconst (w := 1) dX3_runGhost_52 (by decide) ?_
    refine e_iload 4 dX3_runGhost_53 rfl ?_
    obtain ⟨r3, s4, hg, hf⟩ := bP_some hf
    refine e_callV (as := [.int x2, .int 2, .int 1, .int x4]) (v := (some (.int r3))) (s' := s4) hV dX3_runGhost_55 (Or.inl rfl) rfl rfl rfl rfl (Nat.le_of_ble_eq_true rfl) lc_U rfl rfl (fun Q hQ => hR1 hg hQ) ?_
    refine e_isub dX3_runGhost_58 ?_
    obtain rfl := Option.some.inj hf
    exact e_iret dX3_runGhost_59 trivial hP
  rw [if_neg hc2] at hf
  by_cases hc10 : x1 = 10
  · rw [if_pos hc10] at hf
    refine e_look (tgt := 60) (w := 10) dX3_runGhost_1 hc10 (by decide) (by decide) ?_
    refine e_aload_n 0 dX3_runGhost_60 rfl rfl ?_
    refine e_iload_n 2 dX3_runGhost_61 rfl rfl ?_
    refine e_iconst (w := 0) dX3_runGhost_62 (by decide) ?_
    refine e_iload_n 3 dX3_runGhost_63 rfl rfl ?_
    refine e_iload 4 dX3_runGhost_64 rfl ?_
    obtain ⟨r5, s6, hg, hf⟩ := bP_some hf
    refine e_callV (as := [.int x2, .int 0, .int x3, .int x4]) (v := (some (.int r5))) (s' := s6) hV dX3_runGhost_66 (Or.inl rfl) rfl rfl rfl rfl (Nat.le_of_ble_eq_true rfl) lc_U rfl rfl (fun Q hQ => hR1 hg hQ) ?_
    refine e_iconst (w := 2) dX3_runGhost_69 (by decide) ?_
    refine e_imul dX3_runGhost_70 ?_
    obtain rfl := Option.some.inj hf
    exact e_iret dX3_runGhost_71 trivial hP
  rw [if_neg hc10] at hf
  refine e_lookD (tgt := 72) (ks := [1, 2, 10]) dX3_runGhost_1 (by decide) (by decide) (fun z hz => ?_) ?_
  · simp only [List.mem_cons, List.not_mem_nil, or_false] at hz
    rcases hz with rfl | rfl | rfl
    · exact hc1
    · exact hc2
    · exact hc10
  refine e_iload_n 3 dX3_runGhost_72 rfl rfl ?_
  refine e_iload_n 2 dX3_runGhost_73 rfl rfl ?_
  refine e_ixor dX3_runGhost_74 ?_
  obtain rfl := Option.some.inj hf
  exact e_iret dX3_runGhost_75 trivial hP

theorem dX3_runUnder_0 : decode cX3_runUnder 0 = .ok (.iload_n 1, 1) := by decide +kernel
theorem dX3_runUnder_1 : decode cX3_runUnder 1 = .ok (.lookupswitch 218 #[(20, 75), (30, 91), (40, 106), (41, 122), (50, 138), (60, 162), (70, 178), (80, 194)], 75) := by decide +kernel
theorem dX3_runUnder_76 : decode cX3_runUnder 76 = .ok (.aload_n 0, 1) := by decide +kernel
theorem dX3_runUnder_77 : decode cX3_runUnder 77 = .ok (.iload_n 2, 1) := by decide +kernel
theorem dX3_runUnder_78 : decode cX3_runUnder 78 = .ok (.iload 5, 2) := by decide +kernel
theorem dX3_runUnder_80 : decode cX3_runUnder 80 = .ok (.iconst 0, 1) := by decide +kernel
theorem dX3_runUnder_81 : decode cX3_runUnder 81 = .ok (.iload_n 3, 1) := by decide +kernel
theorem dX3_runUnder_82 : decode cX3_runUnder 82 = .ok (.iload 4, 2) := by decide +kernel
theorem dX3_runUnder_84 : decode cX3_runUnder 84 = .ok (.iconst 1, 1) := by decide +kernel
theorem dX3_runUnder_85 : decode cX3_runUnder 85 = .ok (.iadd, 1) := by decide +kernel
theorem dX3_runUnder_86 : decode cX3_runUnder 86 = .ok (.invokevirtual 41, 3) := by decide +kernel
theorem dX3_runUnder_89 : decode cX3_runUnder 89 = .ok (.iconst 3, 1) := by decide +kernel
theorem dX3_runUnder_90 : decode cX3_runUnder 90 = .ok (.iadd, 1) := by decide +kernel
theorem dX3_runUnder_91 : decode cX3_runUnder 91 = .ok (.ireturn, 1) := by decide +kernel
theorem dX3_runUnder_92 : decode cX3_runUnder 92 = .ok (.aload_n 0, 1) := by decide +kernel
theorem dX3_runUnder_93 : decode cX3_runUnder 93 = .ok (.iload_n 2, 1) := by decide +kernel
theorem dX3_runUnder_94 : decode cX3_runUnder 94 = .ok (.iload 5, 2) := by decide +kernel
theorem dX3_runUnder_96 : decode cX3_runUnder 96 = .ok (.iconst 1, 1) := by decide +kernel
theorem dX3_runUnder_97 : decode cX3_runUnder 97 = .ok (.iload_n 3, 1) := by decide +kernel
theorem dX3_runUnder_98 : decode cX3_runUnder 98 = .ok (.iload 4, 2) := by decide +kernel
theorem dX3_runUnder_100 : decode cX3_runUnder 100 = .ok (.iconst 1, 1) := by decide +kernel
theorem dX3_runUnder_101 : decode cX3_runUnder 101 = .ok (.iadd, 1) := by decide +kernel
theorem dX3_runUnder_102 : decode cX3_runUnder 102 = .ok (.invokevirtual 41, 3) := by decide +kernel
theorem dX3_runUnder_105 : decode cX3_runUnder 105 = .ok (.ineg, 1) := by decide +kernel
theorem dX3_runUnder_106 : decode cX3_runUnder 106 = .ok (.ireturn, 1) := by decide +kernel
theorem dX3_runUnder_107 : decode cX3_runUnder 107 = .ok (.aload_n 0, 1) := by decide +kernel
theorem dX3_runUnder_108 : decode cX3_runUnder 108 = .ok (.iload_n 2, 1) := by decide +kernel
theorem dX3_runUnder_109 : decode cX3_runUnder 109 = .ok (.iload 5, 2) := by decide +kernel
theorem dX3_runUnder_111 : decode cX3_runUnder 111 = .ok (.iconst 2, 1) := by decide +kernel
theorem dX3_runUnder_112 : decode cX3_runUnder 112 = .ok (.iload_n 3, 1) := by decide +kernel
theorem dX3_runUnder_113 : decode cX3_runUnder 113 = .ok (.iload 4, 2) := by decide +kernel
theorem dX3_runUnder_115 : decode cX3_runUnder 115 = .ok (.iconst 1, 1) := by decide +kernel
theorem dX3_runUnder_116 : decode cX3_runUnder 116 = .ok (.iadd, 1) := by decide +kernel
theorem dX3_runUnder_117 : decode cX3_runUnder 117 = .ok (.invokevirtual 41, 3) := by decide +kernel
theorem dX3_runUnder_120 : decode cX3_runUnder 120 = .ok (.iconst 3, 1) := by decide +kernel
theorem dX3_runUnder_121 : decode cX3_runUnder 121 = .ok (.imul, 1) := by decide +kernel
theorem dX3_runUnder_122 : decode cX3_runUnder 122 = .ok (.ireturn, 1) := by decide +kernel
theorem dX3_runUnder_123 : decode cX3_runUnder 123 = .ok (.aload_n 0, 1) := by decide +kernel
theorem dX3_runUnder_124 : decode cX3_runUnder 124 = .ok (.iload_n 2, 1) := by decide +kernel
theorem dX3_runUnder_125 : decode cX3_runUnder 125 = .ok (.iload 5, 2) := by decide +kernel
theorem dX3_runUnder_127 : decode cX3_runUnder 127 = .ok (.iconst 1, 1) := by decide +kernel
theorem dX3_runUnder_128 : decode cX3_runUnder 128 = .ok (.iload_n 3, 1) := by decide +kernel
theorem dX3_runUnder_129 : decode cX3_runUnder 129 = .ok (.iconst 1, 1) := by decide +kernel
theorem dX3_runUnder_130 : decode cX3_runUnder 130 = .ok (.iadd, 1) := by decide +kernel
theorem dX3_runUnder_131 : decode cX3_runUnder 131 = .ok (.iload 4, 2) := by decide +kernel
theorem dX3_runUnder_133 : decode cX3_runUnder 133 = .ok (.iconst 1, 1) := by decide +kernel
theorem dX3_runUnder_134 : decode cX3_runUnder 134 = .ok (.iadd, 1) := by decide +kernel
theorem dX3_runUnder_135 : decode cX3_runUnder 135 = .ok (.invokevirtual 41, 3) := by decide +kernel
theorem dX3_runUnder_138 : decode cX3_runUnder 138 = .ok (.ireturn, 1) := by decide +kernel
theorem dX3_runUnder_139 : decode cX3_runUnder 139 = .ok (.aload_n 0, 1) := by decide +kernel
theorem dX3_runUnder_140 : decode cX3_runUnder 140 = .ok (.iload_n 2, 1) := by decide +kernel
theorem dX3_runUnder_141 : decode cX3_runUnder 141 = .ok (.iload 5, 2) := by decide +kernel
theorem dX3_runUnder_143 : decode cX3_runUnder 143 = .ok (.iconst 2, 1) := by decide +kernel
theorem dX3_runUnder_144 : decode cX3_runUnder 144 = .ok (.iload_n 3, 1) := by decide +kernel
theorem dX3_runUnder_145 : decode cX3_runUnder 145 = .ok (.iload 4, 2) := by decide +kernel
theorem dX3_runUnder_147 : decode cX3_runUnder 147 = .ok (.iconst 1, 1) := by decide +kernel
theorem dX3_runUnder_148 : decode cX3_runUnder 148 = .ok (.iadd, 1) := by decide +kernel
theorem dX3_runUnder_149 : decode cX3_runUnder 149 = .ok (.invokevirtual 41, 3) := by decide +kernel
theorem dX3_runUnder_152 : decode cX3_runUnder 152 = .ok (.aload_n 0, 1) := by decide +kernel
theorem dX3_runUnder_153 : decode cX3_runUnder 153 = .ok (.iload_n 2, 1) := by decide +kernel
theorem dX3_runUnder_154 : decode cX3_runUnder 154 = .ok (.iconst 0, 1) := by decide +kernel
theorem dX3_runUnder_155 : decode cX3_runUnder 155 = .ok (.iconst 2, 1) := by decide +kernel
theorem dX3_runUnder_156 : decode cX3_runUnder 156 = .ok (.iload 4, 2) := by decide +kernel
theorem dX3_runUnder_158 : decode cX3_runUnder 158 = .ok (.invokevirtual 44, 3) := by decide +kernel
theorem dX3_runUnder_161 : decode cX3_runUnder 161 = .ok (.isub, 1) := by decide +kernel
theorem dX3_runUnder_162 : decode cX3_runUnder 162 = .ok (.ireturn, 1) := by decide +kernel
theorem dX3_runUnder_163 : decode cX3_runUnder 163 = .ok (.aload_n 0, 1) := by decide +kernel
theorem dX3_runUnder_164 : decode cX3_runUnder 164 = .ok (.iload_n 2, 1) := by decide +kernel
theorem dX3_runUnder_165 : decode cX3_runUnder 165 = .ok (.iload 5, 2) := by decide +kernel
theorem dX3_runUnder_167 : decode cX3_runUnder 167 = .ok (.iconst 3, 1) := by decide +kernel
theorem dX3_runUnder_168 : decode cX3_runUnder 168 = .ok (.iload_n 3, 1) := by decide +kernel
theorem dX3_runUnder_169 : decode cX3_runUnder 169 = .ok (.iload 4, 2) := by decide +kernel
theorem dX3_runUnder_171 : decode cX3_runUnder 171 = .ok (.iconst 1, 1) := by decide +kernel
theorem dX3_runUnder_172 : decode cX3_runUnder 172 = .ok (.iadd, 1) := by decide +kernel
theorem dX3_runUnder_173 : decode cX3_runUnder 173 = .ok (.invokevirtual 41, 3) := by decide +kernel
theorem dX3_runUnder_176 : decode cX3_runUnder 176 = .ok (.iconst 5, 1) := by decide +kernel
theorem dX3_runUnder_177 : decode cX3_runUnder 177 = .ok (.ixor, 1) := by decide +kernel
theorem dX3_runUnder_178 : decode cX3_runUnder 178 = .ok (.ireturn, 1) := by decide +kernel
theorem dX3_runUnder_179 : decode cX3_runUnder 179 = .ok (.aload_n 0, 1) := by decide +kernel
theorem dX3_runUnder_180 : decode cX3_runUnder 180 = .ok (.iload_n 2, 1) := by decide +kernel
theorem dX3_runUnder_181 : decode cX3_runUnder 181 = .ok (.iload 5, 2) := by decide +kernel
theorem dX3_runUnder_183 : decode cX3_runUnder 183 = .ok (.iconst 0, 1) := by decide +kernel
theorem dX3_runUnder_184 : decode cX3_runUnder 184 = .ok (.iload_n 3, 1) := by decide +kernel
theorem dX3_runUnder_185 : decode cX3_runUnder 185 = .ok (.iload 4, 2) := by decide +kernel
theorem dX3_runUnder_187 : decode cX3_runUnder 187 = .ok (.iconst 1, 1) := by decide +kernel
theorem dX3_runUnder_188 : decode cX3_runUnder 188 = .ok (.iadd, 1) := by decide +kernel
theorem dX3_runUnder_189 : decode cX3_runUnder 189 = .ok (.invokevirtual 41, 3) := by decide +kernel
theorem dX3_runUnder_192 : decode cX3_runUnder 192 = .ok (.iconst 2, 1) := by decide +kernel
theorem dX3_runUnder_193 : decode cX3_runUnder 193 = .ok (.imul, 1) := by decide +kernel
theorem dX3_runUnder_194 : decode cX3_runUnder 194 = .ok (.ireturn, 1) := by decide +kernel
theorem dX3_runUnder_195 : decode cX3_runUnder 195 = .ok (.aload_n 0, 1) := by decide +kernel
theorem dX3_runUnder_196 : decode cX3_runUnder 196 = .ok (.iload_n 2, 1) := by decide +kernel
theorem dX3_runUnder_197 : decode cX3_runUnder 197 = .ok (.iload 5, 2) := by decide +kernel
theorem dX3_runUnder_199 : decode cX3_runUnder 199 = .ok (.iconst 1, 1) := by decide +kernel
theorem dX3_runUnder_200 : decode cX3_runUnder 200 = .ok (.iload_n 3, 1) := by decide +kernel
theorem dX3_runUnder_201 : decode cX3_runUnder 201 = .ok (.iload 4, 2) := by decide +kernel
theorem dX3_runUnder_203 : decode cX3_runUnder 203 = .ok (.iconst 1, 1) := by decide +kernel
theorem dX3_runUnder_204 : decode cX3_runUnder 204 = .ok (.iadd, 1) := by decide +kernel
theorem dX3_runUnder_205 : decode cX3_runUnder 205 = .ok (.invokevirtual 41, 3) := by decide +kernel
theorem dX3_runUnder_208 : decode cX3_runUnder 208 = .ok (.aload_n 0, 1) := by decide +kernel
theorem dX3_runUnder_209 : decode cX3_runUnder 209 = .ok (.iload_n 2, 1) := by decide +kernel
theorem dX3_runUnder_210 : decode cX3_runUnder 210 = .ok (.iconst 2, 1) := by decide +kernel
theorem dX3_runUnder_211 : decode cX3_runUnder 211 = .ok (.iconst 2, 1) := by decide +kernel
theorem dX3_runUnder_212 : decode cX3_runUnder 212 = .ok (.iload 4, 2) := by decide +kernel
theorem dX3_runUnder_214 : decode cX3_runUnder 214 = .ok (.invokevirtual 44, 3) := by decide +kernel
theorem dX3_runUnder_217 : decode cX3_runUnder 217 = .ok (.iadd, 1) := by decide +kernel
theorem dX3_runUnder_218 : decode cX3_runUnder 218 = .ok (.ireturn, 1) := by decide +kernel
theorem dX3_runUnder_219 : decode cX3_runUnder 219 = .ok (.aload_n 0, 1) := by decide +kernel
theorem dX3_runUnder_220 : decode cX3_runUnder 220 = .ok (.iload_n 2, 1) := by decide +kernel
theorem dX3_runUnder_221 : decode cX3_runUnder 221 = .ok (.iload 5, 2) := by decide +kernel
theorem dX3_runUnder_223 : decode cX3_runUnder 223 = .ok (.iconst 3, 1) := by decide +kernel
theorem dX3_runUnder_224 : decode cX3_runUnder 224 = .ok (.iload_n 3, 1) := by decide +kernel
theorem dX3_runUnder_225 : decode cX3_runUnder 225 = .ok (.iload 4, 2) := by decide +kernel
theorem dX3_runUnder_227 : decode cX3_runUnder 227 = .ok (.iconst 1, 1) := by decide +kernel
theorem dX3_runUnder_228 : decode cX3_runUnder 228 = .ok (.iadd, 1) := by decide +kernel
theorem dX3_runUnder_229 : decode cX3_runUnder 229 = .ok (.invokevirtual 41, 3) := by decide +kernel
theorem dX3_runUnder_232 : decode cX3_runUnder 232 = .ok (.iconst 1, 1) := by decide +kernel
theorem dX3_runUnder_233 : decode cX3_runUnder 233 = .ok (.isub, 1) := by decide +kernel
theorem dX3_runUnder_234 : decode cX3_runUnder 234 = .ok (.ireturn, 1) := by decide +kernel
def gX3_runUnder (R0 : Int32 → Int32 → Int32 → Int32 → Int32 → mS → Option (Int32 × mS)) (R1 : Int32 → Int32 → Int32 → Int32 → mS → Option (Int32 × mS)) (R2 : Int32 → Int32 → Int32 → Int32 → mS → Option (Int32 × mS)) (R3 : Int32 → Int32 → Int32 → Int32 → Int32 → mS → Option (Int32 × mS)) (x1 : Int32) (x2 : Int32) (x3 : Int32) (x4 : Int32) (x5 : Int32) (s : mS) : Option (Int32 × mS) :=
  if x1 = 20 then
    bP (R0 x2 x5 0 x3 (x4 + 1) s) fun r1 s2 =>
    some (r1 + 3, s2)
  else if x1 = 30 then
    bP (R0 x2 x5 1 x3 (x4 + 1) s) fun r3 s4 =>
    some (-r3, s4)
  else if x1 = 40 then
    bP (R0 x2 x5 2 x3 (x4 + 1) s) fun r5 s6 =>
    some (r5 * 3, s6)
  else if x1 = 41 then
    bP (R0 x2 x5 1 (x3 + 1) (x4 + 1) s) fun r7 s8 =>
    some (r7, s8)
  else if x1 = 50 then
    bP (R0 x2 x5 2 x3 (x4 + 1) s) fun r9 s10 =>
    bP (R1 x2 0 2 x4 s10) fun r11 s12 =>
    some (r9 - r11, s12)
  else if x1 = 60 then
    bP (R0 x2 x5 3 x3 (x4 + 1) s) fun r13 s14 =>
    some (r13 ^^^ 5, s14)
  else if x1 = 70 then
    bP (R0 x2 x5 0 x3 (x4 + 1) s) fun r15 s16 =>
    some (r15 * 2, s16)
  else if x1 = 80 then
    bP (R0 x2 x5 1 x3 (x4 + 1) s) fun r17 s18 =>
    bP (R1 x2 2 2 x4 s18) fun r19 s20 =>
    some (r17 + r19, s20)
  else
    bP (R0 x2 x5 3 x3 (x4 + 1) s) fun r21 s22 =>
    some (r21 - 1, s22)

set_option maxRecDepth 20000 in
theorem uX3_runUnder {ρ : mRo} {n d : Nat} {P : mPo} {V : mS → List mE} (hV : mView LC V) (hr : mRoC ρ) {R0 : Int32 → Int32 → Int32 → Int32 → Int32 → mS → Option (Int32 × mS)} (hR0 : ∀ {x1 x2 x3 x4 x5 : Int32} {s : mS} {res : (Int32 × mS)} {Q : mPo}, R0 x1 x2 x3 x4 x5 s = some res → Q (some (.int res.1)) (V res.2) → mC ρ (n + d + 1) 16 [.ref qU, .int x1, .int x2, .int x3, .int x4, .int x5] (V s) Q) {R1 : Int32 → Int32 → Int32 → Int32 → mS → Option (Int32 × mS)} (hR1 : ∀ {x1 x2 x3 x4 : Int32} {s : mS} {res : (Int32 × mS)} {Q : mPo}, R1 x1 x2 x3 x4 s = some res → Q (some (.int res.1)) (V res.2) → mC ρ (n + d + 1) 17 [.ref qU, .int x1, .int x2, .int x3, .int x4] (V s) Q) {R2 : Int32 → Int32 → Int32 → Int32 → mS → Option (Int32 × mS)} (hR2 : ∀ {x1 x2 x3 x4 : Int32} {s : mS} {res : (Int32 × mS)} {Q : mPo}, R2 x1 x2 x3 x4 s = some res → Q (some (.int res.1)) (V res.2) → mC ρ (n + d + 1) 18 [.ref qU, .int x1, .int x2, .int x3, .int x4] (V s) Q) {R3 : Int32 → Int32 → Int32 → Int32 → Int32 → mS → Option (Int32 × mS)} (hR3 : ∀ {x1 x2 x3 x4 x5 : Int32} {s : mS} {res : (Int32 × mS)} {Q : mPo}, R3 x1 x2 x3 x4 x5 s = some res → Q (some (.int res.1)) (V res.2) → mC ρ (n + d + 1) 19 [.ref qU, .int x1, .int x2, .int x3, .int x4, .int x5] (V s) Q)  {x1 : Int32} {x2 : Int32} {x3 : Int32} {x4 : Int32} {x5 : Int32} {s : mS} {res : (Int32 × mS)} (hf : gX3_runUnder R0 R1 R2 R3 x1 x2 x3 x4 x5 s = some res) (hP : P (some (.int res.1)) (V res.2)) : mC ρ (n + d + 1 + 1) 19 [.ref qU, .int x1, .int x2, .int x3, .int x4, .int x5] (V s) P := by
  refine ⟨_, rfl, Nat.le_of_ble_eq_true rfl, by decide, ?_⟩
  show mG ρ (mC ρ (n + d + 1)) 3 6 cX3_runUnder (some .int) P 0 [(0, .ref qU), (1, .int x1), (2, .int x2), (3, .int x3), (4, .int x4), (5, .int x5)] [] (V s)
  unfold gX3_runUnder at hf
  refine e_iload_n 1 dX3_runUnder_0 rfl rfl ?_
  by_cases hc20 : x1 = 20
  · rw [if_pos hc20] at hf
    refine e_look (tgt := 76) (w := 20) dX3_runUnder_1 hc20 (by decide) (by decide) ?_
    refine e_aload_n 0 dX3_runUnder_76 rfl rfl ?_
    refine e_iload_n 2 dX3_runUnder_77 rfl rfl ?_
    refine e_iload 5 dX3_runUnder_78 rfl ?_
    refine e_iconst (w := 0) dX3_runUnder_80 (by decide) ?_
    refine e_iload_n 3 dX3_runUnder_81 rfl rfl ?_
    refine e_iload 4 dX3_runUnder_82 rfl ?_
    refine e_iconst (w := 1) dX3_runUnder_84 (by decide) ?_
    refine e_iadd dX3_runUnder_85 ?_
    obtain ⟨r1, s2, hg, hf⟩ := bP_some hf
    refine e_callV (as := [.int x2, .int x5, .int 0, .int x3, .int (x4 + 1)]) (v := (some (.int r1))) (s' := s2) hV dX3_runUnder_86 (Or.inl rfl) rfl rfl rfl rfl (Nat.le_of_ble_eq_true rfl) lc_U rfl rfl (fun Q hQ => hR0 hg hQ) ?_
    refine e_iconst (w := 3) dX3_runUnder_89 (by decide) ?_
    refine e_iadd dX3_runUnder_90 ?_
    obtain rfl := Option.some.inj hf
    exact e_iret dX3_runUnder_91 trivial hP
  rw [if_neg hc20] at hf
  by_cases hc30 : x1 = 30
  · rw [if_pos hc30] at hf
    refine e_look (tgt := 92) (w := 30) dX3_runUnder_1 hc30 (by decide) (by decide) ?_
    refine e_aload_n 0 dX3_runUnder_92 rfl rfl ?_
    refine e_iload_n 2 dX3_runUnder_93 rfl rfl ?_
    refine e_iload 5 dX3_runUnder_94 rfl ?_
    refine e_iconst (w := 1) dX3_runUnder_96 (by decide) ?_
    refine e_iload_n 3 dX3_runUnder_97 rfl rfl ?_
    refine e_iload 4 dX3_runUnder_98 rfl ?_
    refine e_iconst (w := 1) dX3_runUnder_100 (by decide) ?_
    refine e_iadd dX3_runUnder_101 ?_
    obtain ⟨r3, s4, hg, hf⟩ := bP_some hf
    refine e_callV (as := [.int x2, .int x5, .int 1, .int x3, .int (x4 + 1)]) (v := (some (.int r3))) (s' := s4) hV dX3_runUnder_102 (Or.inl rfl) rfl rfl rfl rfl (Nat.le_of_ble_eq_true rfl) lc_U rfl rfl (fun Q hQ => hR0 hg hQ) ?_
    refine e_ineg dX3_runUnder_105 ?_
    obtain rfl := Option.some.inj hf
    exact e_iret dX3_runUnder_106 trivial hP
  rw [if_neg hc30] at hf
  by_cases hc40 : x1 = 40
  · rw [if_pos hc40] at hf
    refine e_look (tgt := 107) (w := 40) dX3_runUnder_1 hc40 (by decide) (by decide) ?_
    refine e_aload_n 0 dX3_runUnder_107 rfl rfl ?_
    refine e_iload_n 2 dX3_runUnder_108 rfl rfl ?_
    refine e_iload 5 dX3_runUnder_109 rfl ?_
    refine e_iconst (w := 2) dX3_runUnder_111 (by decide) ?_
    refine e_iload_n 3 dX3_runUnder_112 rfl rfl ?_
    refine e_iload 4 dX3_runUnder_113 rfl ?_
    refine e_iconst (w := 1) dX3_runUnder_115 (by decide) ?_
    refine e_iadd dX3_runUnder_116 ?_
    obtain ⟨r5, s6, hg, hf⟩ := bP_some hf
    refine e_callV (as := [.int x2, .int x5, .int 2, .int x3, .int (x4 + 1)]) (v := (some (.int r5))) (s' := s6) hV dX3_runUnder_117 (Or.inl rfl) rfl rfl rfl rfl (Nat.le_of_ble_eq_true rfl) lc_U rfl rfl (fun Q hQ => hR0 hg hQ) ?_
    refine e_iconst (w := 3) dX3_runUnder_120 (by decide) ?_
    refine e_imul dX3_runUnder_121 ?_
    obtain rfl := Option.some.inj hf
    exact e_iret dX3_runUnder_122 trivial hP
  rw [if_neg hc40] at hf
  by_cases hc41 : x1 = 41
  · rw [if_pos hc41] at hf
    refine e_look (tgt := 123) (w := 41) dX3_runUnder_1 hc41 (by decide) (by decide) ?_
    refine e_aload_n 0 dX3_runUnder_123 rfl rfl ?_
    refine e_iload_n 2 dX3_runUnder_124 rfl rfl ?_
    refine e_iload 5 dX3_runUnder_125 rfl ?_
    refine e_iconst (w := 1) dX3_runUnder_127 (by decide) ?_
    refine e_iload_n 3 dX3_runUnder_128 rfl rfl ?_
    refine e_iconst (w := 1) dX3_runUnder_129 (by decide) ?_
    refine e_iadd dX3_runUnder_130 ?_
    refine e_iload 4 dX3_runUnder_131 rfl ?_
    refine e_iconst (w := 1) dX3_runUnder_133 (by decide) ?_
    refine e_iadd dX3_runUnder_134 ?_
    obtain ⟨r7, s8, hg, hf⟩ := bP_some hf
    refine e_callV (as := [.int x2, .int x5, .int 1, .int (x3 + 1), .int (x4 + 1)]) (v := (some (.int r7))) (s' := s8) hV dX3_runUnder_135 (Or.inl rfl) rfl rfl rfl rfl (Nat.le_of_ble_eq_true rfl) lc_U rfl rfl (fun Q hQ => hR0 hg hQ) ?_
    obtain rfl := Option.some.inj hf
    exact e_iret dX3_runUnder_138 trivial hP
  rw [if_neg hc41] at hf
  by_cases hc50 : x1 = 50
  · rw [if_pos hc50] at hf
    refine e_look (tgt := 139) (w := 50) dX3_runUnder_1 hc50 (by decide) (by decide) ?_
    refine e_aload_n 0 dX3_runUnder_139 rfl rfl ?_
    refine e_iload_n 2 dX3_runUnder_140 rfl rfl ?_
    refine e_iload 5 dX3_runUnder_141 rfl ?_
    refine e_iconst (w := 2) dX3_runUnder_143 (by decide) ?_
    refine e_iload_n 3 dX3_runUnder_144 rfl rfl ?_
    refine e_iload 4 dX3_runUnder_145 rfl ?_
    refine e_iconst (w := 1) dX3_runUnder_147 (by decide) ?_
    refine e_iadd dX3_runUnder_148 ?_
    obtain ⟨r9, s10, hg, hf⟩ := bP_some hf
    refine e_callV (as := [.int x2, .int x5, .int 2, .int x3, .int (x4 + 1)]) (v := (some (.int r9))) (s' := s10) hV dX3_runUnder_149 (Or.inl rfl) rfl rfl rfl rfl (Nat.le_of_ble_eq_true rfl) lc_U rfl rfl (fun Q hQ => hR0 hg hQ) ?_
    refine e_aload_n 0 dX3_runUnder_152 rfl rfl ?_
    refine e_iload_n 2 dX3_runUnder_153 rfl rfl ?_
    refine e_iconst (w := 0) dX3_runUnder_154 (by decide) ?_
    refine e_iconst (w := 2) dX3_runUnder_155 (by decide) ?_
    refine e_iload 4 dX3_runUnder_156 rfl ?_
    obtain ⟨r11, s12, hg, hf⟩ := bP_some hf
    refine e_callV (as := [.int x2, .int 0, .int 2, .int x4]) (v := (some (.int r11))) (s' := s12) hV dX3_runUnder_158 (Or.inl rfl) rfl rfl rfl rfl (Nat.le_of_ble_eq_true rfl) lc_U rfl rfl (fun Q hQ => hR1 hg hQ) ?_
    refine e_isub dX3_runUnder_161 ?_
    obtain rfl := Option.some.inj hf
    exact e_iret dX3_runUnder_162 trivial hP
  rw [if_neg hc50] at hf
  by_cases hc60 : x1 = 60
  · rw [if_pos hc60] at hf
    refine e_look (tgt := 163) (w := 60) dX3_runUnder_1 hc60 (by decide) (by decide) ?_
    refine e_aload_n 0 dX3_runUnder_163 rfl rfl ?_
    refine e_iload_n 2 dX3_runUnder_164 rfl rfl ?_
    refine e_iload 5 dX3_runUnder_165 rfl ?_
    refine e_iconst (w := 3) dX3_runUnder_167 (by decide) ?_
    refine e_iload_n 3 dX3_runUnder_168 rfl rfl ?_
    refine e_iload 4 dX3_runUnder_169 rfl ?_
    refine e_iconst (w := 1) dX3_runUnder_171 (by decide) ?_
    refine e_iadd dX3_runUnder_172 ?_
    obtain ⟨r13, s14, hg, hf⟩ := bP_some hf
    refine e_callV (as := [.int x2, .int x5, .int 3, .int x3, .int (x4 + 1)]) (v := (some (.int r13))) (s' := s14) hV dX3_runUnder_173 (Or.inl rfl) rfl rfl rfl rfl (Nat.le_of_ble_eq_true rfl) lc_U rfl rfl (fun Q hQ => hR0 hg hQ) ?_
    refine e_iconst (w := 5) dX3_runUnder_176 (by decide) ?_
    refine e_ixor dX3_runUnder_177 ?_
    obtain rfl := Option.some.inj hf
    exact e_iret dX3_runUnder_178 trivial hP
  rw [if_neg hc60] at hf
  by_cases hc70 : x1 = 70
  · rw [if_pos hc70] at hf
    refine e_look (tgt := 179) (w := 70) dX3_runUnder_1 hc70 (by decide) (by decide) ?_
    refine e_aload_n 0 dX3_runUnder_179 rfl rfl ?_
    refine e_iload_n 2 dX3_runUnder_180 rfl rfl ?_
    refine e_iload 5 dX3_runUnder_181 rfl ?_
    refine e_iconst (w := 0) dX3_runUnder_183 (by decide) ?_
    refine e_iload_n 3 dX3_runUnder_184 rfl rfl ?_
    refine e_iload 4 dX3_runUnder_185 rfl ?_
    refine e_iconst (w := 1) dX3_runUnder_187 (by decide) ?_
    refine e_iadd dX3_runUnder_188 ?_
    obtain ⟨r15, s16, hg, hf⟩ := bP_some hf
    refine e_callV (as := [.int x2, .int x5, .int 0, .int x3, .int (x4 + 1)]) (v := (some (.int r15))) (s' := s16) hV dX3_runUnder_189 (Or.inl rfl) rfl rfl rfl rfl (Nat.le_of_ble_eq_true rfl) lc_U rfl rfl (fun Q hQ => hR0 hg hQ) ?_
    refine e_iconst (w := 2) dX3_runUnder_192 (by decide) ?_
    refine e_imul dX3_runUnder_193 ?_
    obtain rfl := Option.some.inj hf
    exact e_iret dX3_runUnder_194 trivial hP
  rw [if_neg hc70] at hf
  by_cases hc80 : x1 = 80
  · rw [if_pos hc80] at hf
    refine e_look (tgt := 195) (w := 80) dX3_runUnder_1 hc80 (by decide) (by decide) ?_
    refine e_aload_n 0 dX3_runUnder_195 rfl rfl ?_
    refine e_iload_n 2 dX3_runUnder_196 rfl rfl ?_
    refine e_iload 5 dX3_runUnder_197 rfl ?_
    refine e_iconst (w := 1) dX3_runUnder_199 (by decide) ?_
    refine e_iload_n 3 dX3_runUnder_200 rfl rfl ?_
    refine e_iload 4 dX3_runUnder_201 rfl ?_
    refine e_iconst (w := 1) dX3_runUnder_203 (by decide) ?_
    refine e_iadd dX3_runUnder_204 ?_
    obtain ⟨r17, s18, hg, hf⟩ := bP_some hf
    refine e_callV (as := [.int x2, .int x5, .int 1, .int x3, .int (x4 + 1)]) (v := (some (.int r17))) (s' := s18) hV dX3_runUnder_205 (Or.inl rfl) rfl rfl rfl rfl (Nat.le_of_ble_eq_true rfl) lc_U rfl rfl (fun Q hQ => hR0 hg hQ) ?_
    refine e_aload_n 0 dX3_runUnder_208 rfl rfl ?_
    refine e_iload_n 2 dX3_runUnder_209 rfl rfl ?_
    refine e_iconst (w := 2) dX3_runUnder_210 (by decide) ?_
    refine e_iconst (w := 2) dX3_runUnder_211 (by decide) ?_
    refine e_iload 4 dX3_runUnder_212 rfl ?_
    obtain ⟨r19, s20, hg, hf⟩ := bP_some hf
    refine e_callV (as := [.int x2, .int 2, .int 2, .int x4]) (v := (some (.int r19))) (s' := s20) hV dX3_runUnder_214 (Or.inl rfl) rfl rfl rfl rfl (Nat.le_of_ble_eq_true rfl) lc_U rfl rfl (fun Q hQ => hR1 hg hQ) ?_
    refine e_iadd dX3_runUnder_217 ?_
    obtain rfl := Option.some.inj hf
    exact e_iret dX3_runUnder_218 trivial hP
  rw [if_neg hc80] at hf
  refine e_lookD (tgt := 219) (ks := [20, 30, 40, 41, 50, 60, 70, 80]) dX3_runUnder_1 (by decide) (by decide) (fun z hz => ?_) ?_
  · simp only [List.mem_cons, List.not_mem_nil, or_false] at hz
    rcases hz with rfl | rfl | rfl | rfl | rfl | rfl | rfl | rfl
    · exact hc20
    · exact hc30
    · exact hc40
    · exact hc41
    · exact hc50
    · exact hc60
    · exact hc70
    · exact hc80
  refine e_aload_n 0 dX3_runUnder_219 rfl rfl ?_
  refine e_iload_n 2 dX3_runUnder_220 rfl rfl ?_
  refine e_iload 5 dX3_runUnder_221 rfl ?_
  refine e_iconst (w := 3) dX3_runUnder_223 (by decide) ?_
  refine e_iload_n 3 dX3_runUnder_224 rfl rfl ?_
  refine e_iload 4 dX3_runUnder_225 rfl ?_
  refine e_iconst (w := 1) dX3_runUnder_227 (by decide) ?_
  refine e_iadd dX3_runUnder_228 ?_
  obtain ⟨r21, s22, hg, hf⟩ := bP_some hf
  refine e_callV (as := [.int x2, .int x5, .int 3, .int x3, .int (x4 + 1)]) (v := (some (.int r21))) (s' := s22) hV dX3_runUnder_229 (Or.inl rfl) rfl rfl rfl rfl (Nat.le_of_ble_eq_true rfl) lc_U rfl rfl (fun Q hQ => hR0 hg hQ) ?_
  refine e_iconst (w := 1) dX3_runUnder_232 (by decide) ?_
  refine e_isub dX3_runUnder_233 ?_
  obtain rfl := Option.some.inj hf
  exact e_iret dX3_runUnder_234 trivial hP

theorem dX3_perform_0 : decode cX3_perform 0 = .ok (.iload_n 2, 1) := by decide +kernel
theorem dX3_perform_1 : decode cX3_perform 1 = .ok (.istore 6, 2) := by decide +kernel
theorem dX3_perform_3 : decode cX3_perform 3 = .ok (.iconst 0, 1) := by decide +kernel
theorem dX3_perform_4 : decode cX3_perform 4 = .ok (.istore 7, 2) := by decide +kernel
theorem dX3_perform_6 : decode cX3_perform 6 = .ok (.iload 7, 2) := by decide +kernel
theorem dX3_perform_8 : decode cX3_perform 8 = .ok (.bipush 8, 2) := by decide +kernel
theorem dX3_perform_10 : decode cX3_perform 10 = .ok (.if_icmp .ge 35, 3) := by decide +kernel
theorem dX3_perform_13 : decode cX3_perform 13 = .ok (.iload 6, 2) := by decide +kernel
theorem dX3_perform_15 : decode cX3_perform 15 = .ok (.ifCond .lt 30, 3) := by decide +kernel
theorem dX3_perform_18 : decode cX3_perform 18 = .ok (.getstatic 26, 3) := by decide +kernel
theorem dX3_perform_21 : decode cX3_perform 21 = .ok (.iconst 4, 1) := by decide +kernel
theorem dX3_perform_22 : decode cX3_perform 22 = .ok (.iload 6, 2) := by decide +kernel
theorem dX3_perform_24 : decode cX3_perform 24 = .ok (.imul, 1) := by decide +kernel
theorem dX3_perform_25 : decode cX3_perform 25 = .ok (.iload_n 3, 1) := by decide +kernel
theorem dX3_perform_26 : decode cX3_perform 26 = .ok (.iadd, 1) := by decide +kernel
theorem dX3_perform_27 : decode cX3_perform 27 = .ok (.iaload, 1) := by decide +kernel
theorem dX3_perform_28 : decode cX3_perform 28 = .ok (.ifCond .ne 17, 3) := by decide +kernel
theorem dX3_perform_31 : decode cX3_perform 31 = .ok (.getstatic 20, 3) := by decide +kernel
theorem dX3_perform_34 : decode cX3_perform 34 = .ok (.iload 6, 2) := by decide +kernel
theorem dX3_perform_36 : decode cX3_perform 36 = .ok (.iaload, 1) := by decide +kernel
theorem dX3_perform_37 : decode cX3_perform 37 = .ok (.istore 6, 2) := by decide +kernel
theorem dX3_perform_39 : decode cX3_perform 39 = .ok (.iinc 7 1, 3) := by decide +kernel
theorem dX3_perform_42 : decode cX3_perform 42 = .ok (.goto (-36), 3) := by decide +kernel
theorem dX3_perform_45 : decode cX3_perform 45 = .ok (.iload 6, 2) := by decide +kernel
theorem dX3_perform_47 : decode cX3_perform 47 = .ok (.ifCond .lt 10, 3) := by decide +kernel
theorem dX3_perform_50 : decode cX3_perform 50 = .ok (.iload 5, 2) := by decide +kernel
theorem dX3_perform_52 : decode cX3_perform 52 = .ok (.bipush 40, 2) := by decide +kernel
theorem dX3_perform_54 : decode cX3_perform 54 = .ok (.if_icmp .le 5, 3) := by decide +kernel
theorem dX3_perform_57 : decode cX3_perform 57 = .ok (.iconst 0, 1) := by decide +kernel
theorem dX3_perform_58 : decode cX3_perform 58 = .ok (.ireturn, 1) := by decide +kernel
theorem dX3_perform_59 : decode cX3_perform 59 = .ok (.getstatic 26, 3) := by decide +kernel
theorem dX3_perform_62 : decode cX3_perform 62 = .ok (.iconst 4, 1) := by decide +kernel
theorem dX3_perform_63 : decode cX3_perform 63 = .ok (.iload 6, 2) := by decide +kernel
theorem dX3_perform_65 : decode cX3_perform 65 = .ok (.imul, 1) := by decide +kernel
theorem dX3_perform_66 : decode cX3_perform 66 = .ok (.iload_n 3, 1) := by decide +kernel
theorem dX3_perform_67 : decode cX3_perform 67 = .ok (.iadd, 1) := by decide +kernel
theorem dX3_perform_68 : decode cX3_perform 68 = .ok (.iaload, 1) := by decide +kernel
theorem dX3_perform_69 : decode cX3_perform 69 = .ok (.istore 7, 2) := by decide +kernel
theorem dX3_perform_71 : decode cX3_perform 71 = .ok (.aload_n 0, 1) := by decide +kernel
theorem dX3_perform_72 : decode cX3_perform 72 = .ok (.iload 7, 2) := by decide +kernel
theorem dX3_perform_74 : decode cX3_perform 74 = .ok (.invokevirtual 29, 3) := by decide +kernel
theorem dX3_perform_77 : decode cX3_perform 77 = .ok (.iload 6, 2) := by decide +kernel
theorem dX3_perform_79 : decode cX3_perform 79 = .ok (.ifCond .ne 17, 3) := by decide +kernel
theorem dX3_perform_82 : decode cX3_perform 82 = .ok (.aload_n 0, 1) := by decide +kernel
theorem dX3_perform_83 : decode cX3_perform 83 = .ok (.iload 7, 2) := by decide +kernel
theorem dX3_perform_85 : decode cX3_perform 85 = .ok (.iload_n 1, 1) := by decide +kernel
theorem dX3_perform_86 : decode cX3_perform 86 = .ok (.iload 4, 2) := by decide +kernel
theorem dX3_perform_88 : decode cX3_perform 88 = .ok (.iload 5, 2) := by decide +kernel
theorem dX3_perform_90 : decode cX3_perform 90 = .ok (.invokevirtual 33, 3) := by decide +kernel
theorem dX3_perform_93 : decode cX3_perform 93 = .ok (.goto 20, 3) := by decide +kernel
theorem dX3_perform_96 : decode cX3_perform 96 = .ok (.aload_n 0, 1) := by decide +kernel
theorem dX3_perform_97 : decode cX3_perform 97 = .ok (.iload 7, 2) := by decide +kernel
theorem dX3_perform_99 : decode cX3_perform 99 = .ok (.iload_n 1, 1) := by decide +kernel
theorem dX3_perform_100 : decode cX3_perform 100 = .ok (.iload 4, 2) := by decide +kernel
theorem dX3_perform_102 : decode cX3_perform 102 = .ok (.iload 5, 2) := by decide +kernel
theorem dX3_perform_104 : decode cX3_perform 104 = .ok (.getstatic 20, 3) := by decide +kernel
theorem dX3_perform_107 : decode cX3_perform 107 = .ok (.iload 6, 2) := by decide +kernel
theorem dX3_perform_109 : decode cX3_perform 109 = .ok (.iaload, 1) := by decide +kernel
theorem dX3_perform_110 : decode cX3_perform 110 = .ok (.invokevirtual 37, 3) := by decide +kernel
theorem dX3_perform_113 : decode cX3_perform 113 = .ok (.ireturn, 1) := by decide +kernel
def gX3_perform_b45 (R0 : Int32 → Int32 → Int32 → Int32 → Int32 → mS → Option (Int32 × mS)) (R1 : Int32 → Int32 → Int32 → Int32 → mS → Option (Int32 × mS)) (R2 : Int32 → Int32 → Int32 → Int32 → mS → Option (Int32 × mS)) (R3 : Int32 → Int32 → Int32 → Int32 → Int32 → mS → Option (Int32 × mS)) (y1 : Int32) (y3 : Int32) (y4 : Int32) (y5 : Int32) (y6 : Int32) (s : mS) : Option (Int32 × mS) :=
  if y6 < 0 then
    some (0, s)
  else
    if y5 ≤ 40 then
      ldR roOwn 32 ((4 * y6) + y3) fun v3 =>
      bnd v3 fun v4 =>
      bO (fX3_note v4 s) fun s5 =>
      if y6 = 0 then
        bP (R2 v4 y1 y4 y5 s5) fun r9 s10 =>
        some (r9, s10)
      else
        ldR roAbove 8 y6 fun v6 =>
        bP (R3 v4 y1 y4 y5 v6 s5) fun r7 s8 =>
        some (r7, s8)
    else
      some (0, s)

def gX3_perform_b6 (R0 : Int32 → Int32 → Int32 → Int32 → Int32 → mS → Option (Int32 × mS)) (R1 : Int32 → Int32 → Int32 → Int32 → mS → Option (Int32 × mS)) (R2 : Int32 → Int32 → Int32 → Int32 → mS → Option (Int32 × mS)) (R3 : Int32 → Int32 → Int32 → Int32 → Int32 → mS → Option (Int32 × mS)) : Nat → Int32 → Int32 → Int32 → Int32 → Int32 → Int32 → mS → Option (Int32 × mS)
  | 0, _, _, _, _, _, _, _ => none
  | k + 1, y1, y3, y4, y5, y6, y7, s =>
    if 8 ≤ y7 then
      gX3_perform_b45 R0 R1 R2 R3 y1 y3 y4 y5 y6 s
    else
      if y6 < 0 then
        gX3_perform_b45 R0 R1 R2 R3 y1 y3 y4 y5 y6 s
      else
        ldR roOwn 32 ((4 * y6) + y3) fun v11 =>
        if v11 = 0 then
          ldR roAbove 8 y6 fun v12 =>
          bnd v12 fun v13 =>
          bnd (y7 + 1) fun v14 =>
          gX3_perform_b6 R0 R1 R2 R3 k y1 y3 y4 y5 v13 v14 s
        else
          gX3_perform_b45 R0 R1 R2 R3 y1 y3 y4 y5 y6 s

def gX3_perform (R0 : Int32 → Int32 → Int32 → Int32 → Int32 → mS → Option (Int32 × mS)) (R1 : Int32 → Int32 → Int32 → Int32 → mS → Option (Int32 × mS)) (R2 : Int32 → Int32 → Int32 → Int32 → mS → Option (Int32 × mS)) (R3 : Int32 → Int32 → Int32 → Int32 → Int32 → mS → Option (Int32 × mS)) (x1 : Int32) (x2 : Int32) (x3 : Int32) (x4 : Int32) (x5 : Int32) (s : mS) : Option (Int32 × mS) :=
  bnd x2 fun v1 =>
  bnd 0 fun v2 =>
  gX3_perform_b6 R0 R1 R2 R3 mFu x1 x3 x4 x5 v1 v2 s

set_option maxRecDepth 20000 in
theorem wX3_perform_b45 {ρ : mRo} {n d : Nat} {P : mPo} {V : mS → List mE} (hV : mView LC V) (hr : mRoC ρ) {R0 : Int32 → Int32 → Int32 → Int32 → Int32 → mS → Option (Int32 × mS)} (hR0 : ∀ {x1 x2 x3 x4 x5 : Int32} {s : mS} {res : (Int32 × mS)} {Q : mPo}, R0 x1 x2 x3 x4 x5 s = some res → Q (some (.int res.1)) (V res.2) → mC ρ (n + d + 1) 16 [.ref qU, .int x1, .int x2, .int x3, .int x4, .int x5] (V s) Q) {R1 : Int32 → Int32 → Int32 → Int32 → mS → Option (Int32 × mS)} (hR1 : ∀ {x1 x2 x3 x4 : Int32} {s : mS} {res : (Int32 × mS)} {Q : mPo}, R1 x1 x2 x3 x4 s = some res → Q (some (.int res.1)) (V res.2) → mC ρ (n + d + 1) 17 [.ref qU, .int x1, .int x2, .int x3, .int x4] (V s) Q) {R2 : Int32 → Int32 → Int32 → Int32 → mS → Option (Int32 × mS)} (hR2 : ∀ {x1 x2 x3 x4 : Int32} {s : mS} {res : (Int32 × mS)} {Q : mPo}, R2 x1 x2 x3 x4 s = some res → Q (some (.int res.1)) (V res.2) → mC ρ (n + d + 1) 18 [.ref qU, .int x1, .int x2, .int x3, .int x4] (V s) Q) {R3 : Int32 → Int32 → Int32 → Int32 → Int32 → mS → Option (Int32 × mS)} (hR3 : ∀ {x1 x2 x3 x4 x5 : Int32} {s : mS} {res : (Int32 × mS)} {Q : mPo}, R3 x1 x2 x3 x4 x5 s = some res → Q (some (.int res.1)) (V res.2) → mC ρ (n + d + 1) 19 [.ref qU, .int x1, .int x2, .int x3, .int x4, .int x5] (V s) Q)  {res : (Int32 × mS)} (hP : P (some (.int res.1)) (V res.2)) (y1 : Int32) (y3 : Int32) (y4 : Int32) (y5 : Int32) (y6 : Int32) (s : mS) (hf : gX3_perform_b45 R0 R1 R2 R3 y1 y3 y4 y5 y6 s = some res) : mG ρ (mC ρ (n + d + 1)) 3 8 cX3_perform (some .int) P 45 [(0, .ref qU), (1, .int y1), (3, .int y3), (4, .int y4), (5, .int y5), (6, .int y6)] [] (V s) := by
  unfold gX3_perform_b45 at hf
  refine e_iload 5 dX3_perform_45 rfl ?_
  refine e_if_lt 57 dX3_perform_47 (by decide) hf (fun hf => ?_) (fun hf => ?_)
  · refine e_iconst (w := 0) dX3_perform_57 (by decide) ?_
    obtain rfl := Option.some.inj hf
    exact e_iret dX3_perform_58 trivial hP
  · refine e_iload 4 dX3_perform_50 rfl ?_
    refine e_bipush (w := 40) dX3_perform_52 (by decide) ?_
    refine e_icmp_le 59 dX3_perform_54 (by decide) hf (fun hf => ?_) (fun hf => ?_)
    · refine e_gets dX3_perform_59 rfl ?_
      refine e_iconst (w := 4) dX3_perform_62 (by decide) ?_
      refine e_iload 5 dX3_perform_63 rfl ?_
      refine e_imul dX3_perform_65 ?_
      refine e_iload_n 2 dX3_perform_66 rfl rfl ?_
      refine e_iadd dX3_perform_67 ?_
      refine e_rald dX3_perform_68 hr.1 hf (fun v3 hf => ?_)
      refine e_istore dX3_perform_69 (by decide) hf (fun v4 hf => ?_)
      refine e_aload_n 1 dX3_perform_71 rfl rfl ?_
      refine e_iload 0 dX3_perform_72 rfl ?_
      obtain ⟨s5, hg, hf⟩ := bO_some hf
      refine e_callV (as := [.int v4]) (v := none) (s' := s5) hV dX3_perform_74 (Or.inl rfl) rfl rfl rfl rfl (Nat.le_of_ble_eq_true rfl) lc_U rfl rfl (fun Q hQ => tX3_note (d := (n + d)) hV  hg hQ) ?_
      refine e_iload 6 dX3_perform_77 rfl ?_
      refine e_if_ne 96 dX3_perform_79 (by decide) hf (fun hf => ?_) (fun hf => ?_)
      · refine e_aload_n 1 dX3_perform_96 rfl rfl ?_
        refine e_iload 0 dX3_perform_97 rfl ?_
        refine e_iload_n 2 dX3_perform_99 rfl rfl ?_
        refine e_iload 4 dX3_perform_100 rfl ?_
        refine e_iload 5 dX3_perform_102 rfl ?_
        refine e_gets dX3_perform_104 rfl ?_
        refine e_iload 6 dX3_perform_107 rfl ?_
        refine e_rald dX3_perform_109 hr.2 hf (fun v6 hf => ?_)
        obtain ⟨r7, s8, hg, hf⟩ := bP_some hf
        refine e_callV (as := [.int v4, .int y1, .int y4, .int y5, .int v6]) (v := (some (.int r7))) (s' := s8) hV dX3_perform_110 (Or.inl rfl) rfl rfl rfl rfl (Nat.le_of_ble_eq_true rfl) lc_U rfl rfl (fun Q hQ => hR3 hg hQ) ?_
        obtain rfl := Option.some.inj hf
        exact e_iret dX3_perform_113 trivial hP
      · refine e_aload_n 1 dX3_perform_82 rfl rfl ?_
        refine e_iload 0 dX3_perform_83 rfl ?_
        refine e_iload_n 2 dX3_perform_85 rfl rfl ?_
        refine e_iload 4 dX3_perform_86 rfl ?_
        refine e_iload 5 dX3_perform_88 rfl ?_
        obtain ⟨r9, s10, hg, hf⟩ := bP_some hf
        refine e_callV (as := [.int v4, .int y1, .int y4, .int y5]) (v := (some (.int r9))) (s' := s10) hV dX3_perform_90 (Or.inl rfl) rfl rfl rfl rfl (Nat.le_of_ble_eq_true rfl) lc_U rfl rfl (fun Q hQ => hR2 hg hQ) ?_
        refine e_goto 113 dX3_perform_93 (by decide) ?_
        obtain rfl := Option.some.inj hf
        exact e_iret dX3_perform_113 trivial hP
    · refine e_iconst (w := 0) dX3_perform_57 (by decide) ?_
      obtain rfl := Option.some.inj hf
      exact e_iret dX3_perform_58 trivial hP
set_option maxRecDepth 20000 in
theorem wX3_perform_b6 {ρ : mRo} {n d : Nat} {P : mPo} {V : mS → List mE} (hV : mView LC V) (hr : mRoC ρ) {R0 : Int32 → Int32 → Int32 → Int32 → Int32 → mS → Option (Int32 × mS)} (hR0 : ∀ {x1 x2 x3 x4 x5 : Int32} {s : mS} {res : (Int32 × mS)} {Q : mPo}, R0 x1 x2 x3 x4 x5 s = some res → Q (some (.int res.1)) (V res.2) → mC ρ (n + d + 1) 16 [.ref qU, .int x1, .int x2, .int x3, .int x4, .int x5] (V s) Q) {R1 : Int32 → Int32 → Int32 → Int32 → mS → Option (Int32 × mS)} (hR1 : ∀ {x1 x2 x3 x4 : Int32} {s : mS} {res : (Int32 × mS)} {Q : mPo}, R1 x1 x2 x3 x4 s = some res → Q (some (.int res.1)) (V res.2) → mC ρ (n + d + 1) 17 [.ref qU, .int x1, .int x2, .int x3, .int x4] (V s) Q) {R2 : Int32 → Int32 → Int32 → Int32 → mS → Option (Int32 × mS)} (hR2 : ∀ {x1 x2 x3 x4 : Int32} {s : mS} {res : (Int32 × mS)} {Q : mPo}, R2 x1 x2 x3 x4 s = some res → Q (some (.int res.1)) (V res.2) → mC ρ (n + d + 1) 18 [.ref qU, .int x1, .int x2, .int x3, .int x4] (V s) Q) {R3 : Int32 → Int32 → Int32 → Int32 → Int32 → mS → Option (Int32 × mS)} (hR3 : ∀ {x1 x2 x3 x4 x5 : Int32} {s : mS} {res : (Int32 × mS)} {Q : mPo}, R3 x1 x2 x3 x4 x5 s = some res → Q (some (.int res.1)) (V res.2) → mC ρ (n + d + 1) 19 [.ref qU, .int x1, .int x2, .int x3, .int x4, .int x5] (V s) Q)  {res : (Int32 × mS)} (hP : P (some (.int res.1)) (V res.2)) : ∀ (k : Nat) (y1 : Int32) (y3 : Int32) (y4 : Int32) (y5 : Int32) (y6 : Int32) (y7 : Int32) (s : mS), gX3_perform_b6 R0 R1 R2 R3 k y1 y3 y4 y5 y6 y7 s = some res → mG ρ (mC ρ (n + d + 1)) 3 8 cX3_perform (some .int) P 6 [(0, .ref qU), (1, .int y1), (3, .int y3), (4, .int y4), (5, .int y5), (6, .int y6), (7, .int y7)] [] (V s) := by
  intro k
  induction k with
  | zero => intro y1 y3 y4 y5 y6 y7 s hf; rw [gX3_perform_b6] at hf; cases hf
  | succ k ih =>
    intro y1 y3 y4 y5 y6 y7 s hf
    rw [gX3_perform_b6] at hf
    refine e_iload 6 dX3_perform_6 rfl ?_
    refine e_bipush (w := 8) dX3_perform_8 (by decide) ?_
    refine e_icmp_ge 45 dX3_perform_10 (by decide) hf (fun hf => ?_) (fun hf => ?_)
    · refine e_pick [0, 1, 2, 3, 4, 5] rfl ?_
      exact wX3_perform_b45 hV hr hR0 hR1 hR2 hR3 hP y1 y3 y4 y5 y6 s hf
    · refine e_iload 5 dX3_perform_13 rfl ?_
      refine e_if_lt 45 dX3_perform_15 (by decide) hf (fun hf => ?_) (fun hf => ?_)
      · refine e_pick [0, 1, 2, 3, 4, 5] rfl ?_
        exact wX3_perform_b45 hV hr hR0 hR1 hR2 hR3 hP y1 y3 y4 y5 y6 s hf
      · refine e_gets dX3_perform_18 rfl ?_
        refine e_iconst (w := 4) dX3_perform_21 (by decide) ?_
        refine e_iload 5 dX3_perform_22 rfl ?_
        refine e_imul dX3_perform_24 ?_
        refine e_iload_n 2 dX3_perform_25 rfl rfl ?_
        refine e_iadd dX3_perform_26 ?_
        refine e_rald dX3_perform_27 hr.1 hf (fun v11 hf => ?_)
        refine e_if_ne 45 dX3_perform_28 (by decide) hf (fun hf => ?_) (fun hf => ?_)
        · refine e_pick [0, 1, 2, 3, 4, 5] rfl ?_
          exact wX3_perform_b45 hV hr hR0 hR1 hR2 hR3 hP y1 y3 y4 y5 y6 s hf
        · refine e_gets dX3_perform_31 rfl ?_
          refine e_iload 5 dX3_perform_34 rfl ?_
          refine e_rald dX3_perform_36 hr.2 hf (fun v12 hf => ?_)
          refine e_istore dX3_perform_37 (by decide) hf (fun v13 hf => ?_)
          refine e_iinc 6 dX3_perform_39 rfl rfl hf (fun v14 hf => ?_)
          refine e_goto 6 dX3_perform_42 (by decide) ?_
          refine e_pick [2, 3, 4, 5, 6, 1, 0] rfl ?_
          exact ih y1 y3 y4 y5 v13 v14 s hf
set_option maxRecDepth 20000 in
theorem uX3_perform {ρ : mRo} {n d : Nat} {P : mPo} {V : mS → List mE} (hV : mView LC V) (hr : mRoC ρ) {R0 : Int32 → Int32 → Int32 → Int32 → Int32 → mS → Option (Int32 × mS)} (hR0 : ∀ {x1 x2 x3 x4 x5 : Int32} {s : mS} {res : (Int32 × mS)} {Q : mPo}, R0 x1 x2 x3 x4 x5 s = some res → Q (some (.int res.1)) (V res.2) → mC ρ (n + d + 1) 16 [.ref qU, .int x1, .int x2, .int x3, .int x4, .int x5] (V s) Q) {R1 : Int32 → Int32 → Int32 → Int32 → mS → Option (Int32 × mS)} (hR1 : ∀ {x1 x2 x3 x4 : Int32} {s : mS} {res : (Int32 × mS)} {Q : mPo}, R1 x1 x2 x3 x4 s = some res → Q (some (.int res.1)) (V res.2) → mC ρ (n + d + 1) 17 [.ref qU, .int x1, .int x2, .int x3, .int x4] (V s) Q) {R2 : Int32 → Int32 → Int32 → Int32 → mS → Option (Int32 × mS)} (hR2 : ∀ {x1 x2 x3 x4 : Int32} {s : mS} {res : (Int32 × mS)} {Q : mPo}, R2 x1 x2 x3 x4 s = some res → Q (some (.int res.1)) (V res.2) → mC ρ (n + d + 1) 18 [.ref qU, .int x1, .int x2, .int x3, .int x4] (V s) Q) {R3 : Int32 → Int32 → Int32 → Int32 → Int32 → mS → Option (Int32 × mS)} (hR3 : ∀ {x1 x2 x3 x4 x5 : Int32} {s : mS} {res : (Int32 × mS)} {Q : mPo}, R3 x1 x2 x3 x4 x5 s = some res → Q (some (.int res.1)) (V res.2) → mC ρ (n + d + 1) 19 [.ref qU, .int x1, .int x2, .int x3, .int x4, .int x5] (V s) Q)  {x1 : Int32} {x2 : Int32} {x3 : Int32} {x4 : Int32} {x5 : Int32} {s : mS} {res : (Int32 × mS)} (hf : gX3_perform R0 R1 R2 R3 x1 x2 x3 x4 x5 s = some res) (hP : P (some (.int res.1)) (V res.2)) : mC ρ (n + d + 1 + 1) 16 [.ref qU, .int x1, .int x2, .int x3, .int x4, .int x5] (V s) P := by
  refine ⟨_, rfl, Nat.le_of_ble_eq_true rfl, by decide, ?_⟩
  show mG ρ (mC ρ (n + d + 1)) 3 8 cX3_perform (some .int) P 0 [(0, .ref qU), (1, .int x1), (2, .int x2), (3, .int x3), (4, .int x4), (5, .int x5)] [] (V s)
  unfold gX3_perform at hf
  refine e_iload_n 2 dX3_perform_0 rfl rfl ?_
  refine e_istore dX3_perform_1 (by decide) hf (fun v1 hf => ?_)
  refine e_iconst (w := 0) dX3_perform_3 (by decide) ?_
  refine e_istore dX3_perform_4 (by decide) hf (fun v2 hf => ?_)
  refine e_pick [2, 3, 5, 6, 7, 1, 0] rfl ?_
  exact wX3_perform_b6 hV hr hR0 hR1 hR2 hR3 hP mFu x1 x3 x4 x5 v1 v2 s hf

def sccX3_perform : Nat → (Int32 → Int32 → Int32 → Int32 → Int32 → mS → Option (Int32 × mS)) × (Int32 → Int32 → Int32 → Int32 → mS → Option (Int32 × mS)) × (Int32 → Int32 → Int32 → Int32 → mS → Option (Int32 × mS)) × (Int32 → Int32 → Int32 → Int32 → Int32 → mS → Option (Int32 × mS))
  | 0 => (fun _ _ _ _ _ _ => none, fun _ _ _ _ _ => none, fun _ _ _ _ _ => none, fun _ _ _ _ _ _ => none)
  | n + 1 => (gX3_perform ((sccX3_perform n).1) ((sccX3_perform n).2.1) ((sccX3_perform n).2.2.1) ((sccX3_perform n).2.2.2), gX3_own ((sccX3_perform n).1) ((sccX3_perform n).2.1) ((sccX3_perform n).2.2.1) ((sccX3_perform n).2.2.2), gX3_runGhost ((sccX3_perform n).1) ((sccX3_perform n).2.1) ((sccX3_perform n).2.2.1) ((sccX3_perform n).2.2.2), gX3_runUnder ((sccX3_perform n).1) ((sccX3_perform n).2.1) ((sccX3_perform n).2.2.1) ((sccX3_perform n).2.2.2))
theorem tsccX3_perform {ρ : mRo} {d : Nat} {V : mS → List mE} (hV : mView LC V) (hr : mRoC ρ) : ∀ n : Nat, (∀ {x1 x2 x3 x4 x5 : Int32} {s : mS} {res : (Int32 × mS)} {Q : mPo}, (sccX3_perform n).1 x1 x2 x3 x4 x5 s = some res → Q (some (.int res.1)) (V res.2) → mC ρ (n + d + 1) 16 [.ref qU, .int x1, .int x2, .int x3, .int x4, .int x5] (V s) Q) ∧ (∀ {x1 x2 x3 x4 : Int32} {s : mS} {res : (Int32 × mS)} {Q : mPo}, (sccX3_perform n).2.1 x1 x2 x3 x4 s = some res → Q (some (.int res.1)) (V res.2) → mC ρ (n + d + 1) 17 [.ref qU, .int x1, .int x2, .int x3, .int x4] (V s) Q) ∧ (∀ {x1 x2 x3 x4 : Int32} {s : mS} {res : (Int32 × mS)} {Q : mPo}, (sccX3_perform n).2.2.1 x1 x2 x3 x4 s = some res → Q (some (.int res.1)) (V res.2) → mC ρ (n + d + 1) 18 [.ref qU, .int x1, .int x2, .int x3, .int x4] (V s) Q) ∧ (∀ {x1 x2 x3 x4 x5 : Int32} {s : mS} {res : (Int32 × mS)} {Q : mPo}, (sccX3_perform n).2.2.2 x1 x2 x3 x4 x5 s = some res → Q (some (.int res.1)) (V res.2) → mC ρ (n + d + 1) 19 [.ref qU, .int x1, .int x2, .int x3, .int x4, .int x5] (V s) Q) := by
  intro n
  induction n with
  | zero => exact ⟨(fun hf _ => nomatch hf), (fun hf _ => nomatch hf), (fun hf _ => nomatch hf), (fun hf _ => nomatch hf)⟩
  | succ n ih =>
    rw [show n + 1 + d + 1 = n + d + 1 + 1 by omega]
    exact ⟨(fun hf hP => uX3_perform hV hr (ih).1 (ih).2.1 (ih).2.2.1 (ih).2.2.2 hf hP), (fun hf hP => uX3_own hV hr (ih).1 (ih).2.1 (ih).2.2.1 (ih).2.2.2 hf hP), (fun hf hP => uX3_runGhost hV hr (ih).1 (ih).2.1 (ih).2.2.1 (ih).2.2.2 hf hP), (fun hf hP => uX3_runUnder hV hr (ih).1 (ih).2.1 (ih).2.2.1 (ih).2.2.2 hf hP)⟩
def fX3_perform (x1 : Int32) (x2 : Int32) (x3 : Int32) (x4 : Int32) (x5 : Int32) (s : mS) : Option (Int32 × mS) := (sccX3_perform 60).1 x1 x2 x3 x4 x5 s
theorem tX3_perform {ρ : mRo} {d : Nat} {P : mPo} {V : mS → List mE} (hV : mView LC V) (hr : mRoC ρ) {x1 : Int32} {x2 : Int32} {x3 : Int32} {x4 : Int32} {x5 : Int32} {s : mS} {res : (Int32 × mS)} (hf : fX3_perform x1 x2 x3 x4 x5 s = some res) (hP : P (some (.int res.1)) (V res.2)) : mC ρ (d + 61) 16 [.ref qU, .int x1, .int x2, .int x3, .int x4, .int x5] (V s) P := by
  rw [show d + 61 = 60 + d + 1 by omega]
  exact (tsccX3_perform hV hr 60).1 hf hP
def fX3_own (x1 : Int32) (x2 : Int32) (x3 : Int32) (x4 : Int32) (s : mS) : Option (Int32 × mS) := (sccX3_perform 60).2.1 x1 x2 x3 x4 s
theorem tX3_own {ρ : mRo} {d : Nat} {P : mPo} {V : mS → List mE} (hV : mView LC V) (hr : mRoC ρ) {x1 : Int32} {x2 : Int32} {x3 : Int32} {x4 : Int32} {s : mS} {res : (Int32 × mS)} (hf : fX3_own x1 x2 x3 x4 s = some res) (hP : P (some (.int res.1)) (V res.2)) : mC ρ (d + 61) 17 [.ref qU, .int x1, .int x2, .int x3, .int x4] (V s) P := by
  rw [show d + 61 = 60 + d + 1 by omega]
  exact (tsccX3_perform hV hr 60).2.1 hf hP
def fX3_runGhost (x1 : Int32) (x2 : Int32) (x3 : Int32) (x4 : Int32) (s : mS) : Option (Int32 × mS) := (sccX3_perform 60).2.2.1 x1 x2 x3 x4 s
theorem tX3_runGhost {ρ : mRo} {d : Nat} {P : mPo} {V : mS → List mE} (hV : mView LC V) (hr : mRoC ρ) {x1 : Int32} {x2 : Int32} {x3 : Int32} {x4 : Int32} {s : mS} {res : (Int32 × mS)} (hf : fX3_runGhost x1 x2 x3 x4 s = some res) (hP : P (some (.int res.1)) (V res.2)) : mC ρ (d + 61) 18 [.ref qU, .int x1, .int x2, .int x3, .int x4] (V s) P := by
  rw [show d + 61 = 60 + d + 1 by omega]
  exact (tsccX3_perform hV hr 60).2.2.1 hf hP
def fX3_runUnder (x1 : Int32) (x2 : Int32) (x3 : Int32) (x4 : Int32) (x5 : Int32) (s : mS) : Option (Int32 × mS) := (sccX3_perform 60).2.2.2 x1 x2 x3 x4 x5 s
theorem tX3_runUnder {ρ : mRo} {d : Nat} {P : mPo} {V : mS → List mE} (hV : mView LC V) (hr : mRoC ρ) {x1 : Int32} {x2 : Int32} {x3 : Int32} {x4 : Int32} {x5 : Int32} {s : mS} {res : (Int32 × mS)} (hf : fX3_runUnder x1 x2 x3 x4 x5 s = some res) (hP : P (some (.int res.1)) (V res.2)) : mC ρ (d + 61) 19 [.ref qU, .int x1, .int x2, .int x3, .int x4, .int x5] (V s) P := by
  rw [show d + 61 = 60 + d + 1 by omega]
  exact (tsccX3_perform hV hr 60).2.2.2 hf hP

theorem dX8_readOperand_0 : decode cX8_readOperand 0 = .ok (.aload_n 0, 1) := by decide +kernel
theorem dX8_readOperand_1 : decode cX8_readOperand 1 = .ok (.invokevirtual 45, 3) := by decide +kernel
theorem dX8_readOperand_4 : decode cX8_readOperand 4 = .ok (.istore_n 2, 1) := by decide +kernel
theorem dX8_readOperand_5 : decode cX8_readOperand 5 = .ok (.iload_n 2, 1) := by decide +kernel
theorem dX8_readOperand_6 : decode cX8_readOperand 6 = .ok (.invokestatic 53, 3) := by decide +kernel
theorem dX8_readOperand_9 : decode cX8_readOperand 9 = .ok (.ifCond .eq 9, 3) := by decide +kernel
theorem dX8_readOperand_12 : decode cX8_readOperand 12 = .ok (.aload_n 0, 1) := by decide +kernel
theorem dX8_readOperand_13 : decode cX8_readOperand 13 = .ok (.invokevirtual 56, 3) := by decide +kernel
theorem dX8_readOperand_16 : decode cX8_readOperand 16 = .ok (.iconst 1, 1) := by decide +kernel
theorem dX8_readOperand_17 : decode cX8_readOperand 17 = .ok (.ireturn, 1) := by decide +kernel
theorem dX8_readOperand_18 : decode cX8_readOperand 18 = .ok (.iload_n 2, 1) := by decide +kernel
theorem dX8_readOperand_19 : decode cX8_readOperand 19 = .ok (.invokestatic 59, 3) := by decide +kernel
theorem dX8_readOperand_22 : decode cX8_readOperand 22 = .ok (.ifCond .eq 21, 3) := by decide +kernel
theorem dX8_readOperand_25 : decode cX8_readOperand 25 = .ok (.aload_n 0, 1) := by decide +kernel
theorem dX8_readOperand_26 : decode cX8_readOperand 26 = .ok (.dup, 1) := by decide +kernel
theorem dX8_readOperand_27 : decode cX8_readOperand 27 = .ok (.getfield 20, 3) := by decide +kernel
theorem dX8_readOperand_30 : decode cX8_readOperand 30 = .ok (.iconst 1, 1) := by decide +kernel
theorem dX8_readOperand_31 : decode cX8_readOperand 31 = .ok (.iadd, 1) := by decide +kernel
theorem dX8_readOperand_32 : decode cX8_readOperand 32 = .ok (.putfield 20, 3) := by decide +kernel
theorem dX8_readOperand_35 : decode cX8_readOperand 35 = .ok (.aload_n 0, 1) := by decide +kernel
theorem dX8_readOperand_36 : decode cX8_readOperand 36 = .ok (.iload_n 2, 1) := by decide +kernel
theorem dX8_readOperand_37 : decode cX8_readOperand 37 = .ok (.ineg, 1) := by decide +kernel
theorem dX8_readOperand_38 : decode cX8_readOperand 38 = .ok (.invokevirtual 38, 3) := by decide +kernel
theorem dX8_readOperand_41 : decode cX8_readOperand 41 = .ok (.iconst 1, 1) := by decide +kernel
theorem dX8_readOperand_42 : decode cX8_readOperand 42 = .ok (.ireturn, 1) := by decide +kernel
theorem dX8_readOperand_43 : decode cX8_readOperand 43 = .ok (.iload_n 1, 1) := by decide +kernel
theorem dX8_readOperand_44 : decode cX8_readOperand 44 = .ok (.bipush 6, 2) := by decide +kernel
theorem dX8_readOperand_46 : decode cX8_readOperand 46 = .ok (.if_icmp .ge 21, 3) := by decide +kernel
theorem dX8_readOperand_49 : decode cX8_readOperand 49 = .ok (.iload_n 2, 1) := by decide +kernel
theorem dX8_readOperand_50 : decode cX8_readOperand 50 = .ok (.bipush 40, 2) := by decide +kernel
theorem dX8_readOperand_52 : decode cX8_readOperand 52 = .ok (.if_icmp .eq 17, 3) := by decide +kernel
theorem dX8_readOperand_55 : decode cX8_readOperand 55 = .ok (.iload_n 2, 1) := by decide +kernel
theorem dX8_readOperand_56 : decode cX8_readOperand 56 = .ok (.bipush 33, 2) := by decide +kernel
theorem dX8_readOperand_58 : decode cX8_readOperand 58 = .ok (.if_icmp .eq 11, 3) := by decide +kernel
theorem dX8_readOperand_61 : decode cX8_readOperand 61 = .ok (.iload_n 2, 1) := by decide +kernel
theorem dX8_readOperand_62 : decode cX8_readOperand 62 = .ok (.bipush 45, 2) := by decide +kernel
theorem dX8_readOperand_64 : decode cX8_readOperand 64 = .ok (.if_icmp .eq 5, 3) := by decide +kernel
theorem dX8_readOperand_67 : decode cX8_readOperand 67 = .ok (.iconst 0, 1) := by decide +kernel
theorem dX8_readOperand_68 : decode cX8_readOperand 68 = .ok (.ireturn, 1) := by decide +kernel
theorem dX8_readOperand_69 : decode cX8_readOperand 69 = .ok (.aload_n 0, 1) := by decide +kernel
theorem dX8_readOperand_70 : decode cX8_readOperand 70 = .ok (.dup, 1) := by decide +kernel
theorem dX8_readOperand_71 : decode cX8_readOperand 71 = .ok (.getfield 20, 3) := by decide +kernel
theorem dX8_readOperand_74 : decode cX8_readOperand 74 = .ok (.iconst 1, 1) := by decide +kernel
theorem dX8_readOperand_75 : decode cX8_readOperand 75 = .ok (.iadd, 1) := by decide +kernel
theorem dX8_readOperand_76 : decode cX8_readOperand 76 = .ok (.putfield 20, 3) := by decide +kernel
theorem dX8_readOperand_79 : decode cX8_readOperand 79 = .ok (.iload_n 2, 1) := by decide +kernel
theorem dX8_readOperand_80 : decode cX8_readOperand 80 = .ok (.bipush 40, 2) := by decide +kernel
theorem dX8_readOperand_82 : decode cX8_readOperand 82 = .ok (.if_icmp .ne 29, 3) := by decide +kernel
theorem dX8_readOperand_85 : decode cX8_readOperand 85 = .ok (.aload_n 0, 1) := by decide +kernel
theorem dX8_readOperand_86 : decode cX8_readOperand 86 = .ok (.iconst 0, 1) := by decide +kernel
theorem dX8_readOperand_87 : decode cX8_readOperand 87 = .ok (.iload_n 1, 1) := by decide +kernel
theorem dX8_readOperand_88 : decode cX8_readOperand 88 = .ok (.iconst 1, 1) := by decide +kernel
theorem dX8_readOperand_89 : decode cX8_readOperand 89 = .ok (.iadd, 1) := by decide +kernel
theorem dX8_readOperand_90 : decode cX8_readOperand 90 = .ok (.invokevirtual 34, 3) := by decide +kernel
theorem dX8_readOperand_93 : decode cX8_readOperand 93 = .ok (.ifCond .eq 16, 3) := by decide +kernel
theorem dX8_readOperand_96 : decode cX8_readOperand 96 = .ok (.aload_n 0, 1) := by decide +kernel
theorem dX8_readOperand_97 : decode cX8_readOperand 97 = .ok (.bipush 41, 2) := by decide +kernel
theorem dX8_readOperand_99 : decode cX8_readOperand 99 = .ok (.invokevirtual 30, 3) := by decide +kernel
theorem dX8_readOperand_102 : decode cX8_readOperand 102 = .ok (.ifCond .eq 7, 3) := by decide +kernel
theorem dX8_readOperand_105 : decode cX8_readOperand 105 = .ok (.iconst 1, 1) := by decide +kernel
theorem dX8_readOperand_106 : decode cX8_readOperand 106 = .ok (.goto 4, 3) := by decide +kernel
theorem dX8_readOperand_109 : decode cX8_readOperand 109 = .ok (.iconst 0, 1) := by decide +kernel
theorem dX8_readOperand_110 : decode cX8_readOperand 110 = .ok (.ireturn, 1) := by decide +kernel
theorem dX8_readOperand_111 : decode cX8_readOperand 111 = .ok (.aload_n 0, 1) := by decide +kernel
theorem dX8_readOperand_112 : decode cX8_readOperand 112 = .ok (.iload_n 1, 1) := by decide +kernel
theorem dX8_readOperand_113 : decode cX8_readOperand 113 = .ok (.iconst 1, 1) := by decide +kernel
theorem dX8_readOperand_114 : decode cX8_readOperand 114 = .ok (.iadd, 1) := by decide +kernel
theorem dX8_readOperand_115 : decode cX8_readOperand 115 = .ok (.invokevirtual 42, 3) := by decide +kernel
theorem dX8_readOperand_118 : decode cX8_readOperand 118 = .ok (.ifCond .ne 5, 3) := by decide +kernel
theorem dX8_readOperand_121 : decode cX8_readOperand 121 = .ok (.iconst 0, 1) := by decide +kernel
theorem dX8_readOperand_122 : decode cX8_readOperand 122 = .ok (.ireturn, 1) := by decide +kernel
theorem dX8_readOperand_123 : decode cX8_readOperand 123 = .ok (.aload_n 0, 1) := by decide +kernel
theorem dX8_readOperand_124 : decode cX8_readOperand 124 = .ok (.iload_n 2, 1) := by decide +kernel
theorem dX8_readOperand_125 : decode cX8_readOperand 125 = .ok (.bipush 45, 2) := by decide +kernel
theorem dX8_readOperand_127 : decode cX8_readOperand 127 = .ok (.if_icmp .ne 7, 3) := by decide +kernel
theorem dX8_readOperand_130 : decode cX8_readOperand 130 = .ok (.iconst (-1), 1) := by decide +kernel
theorem dX8_readOperand_131 : decode cX8_readOperand 131 = .ok (.goto 5, 3) := by decide +kernel
theorem dX8_readOperand_134 : decode cX8_readOperand 134 = .ok (.iload_n 2, 1) := by decide +kernel
theorem dX8_readOperand_135 : decode cX8_readOperand 135 = .ok (.ineg, 1) := by decide +kernel
theorem dX8_readOperand_136 : decode cX8_readOperand 136 = .ok (.invokevirtual 38, 3) := by decide +kernel
theorem dX8_readOperand_139 : decode cX8_readOperand 139 = .ok (.iconst 1, 1) := by decide +kernel
theorem dX8_readOperand_140 : decode cX8_readOperand 140 = .ok (.ireturn, 1) := by decide +kernel
def gX8_readOperand_b136 (R0 : Int32 → Int32 → mS → Option (Int32 × mS)) (R1 : Int32 → mS → Option (Int32 × mS)) (z0 : Int32) (s : mS) : Option (Int32 × mS) :=
  bO (fX8_addStep z0 s) fun s8 =>
  some (1, s8)

def gX8_readOperand_b69 (R0 : Int32 → Int32 → mS → Option (Int32 × mS)) (R1 : Int32 → mS → Option (Int32 × mS)) (y1 : Int32) (y2 : Int32) (s : mS) : Option (Int32 × mS) :=
  bnd (pI s iP_at ((gI s iP_at) + 1)) fun s5 =>
  if y2 = 40 then
    bP (R0 0 (y1 + 1) s5) fun r9 s10 =>
    if r9 = 0 then
      some (0, s10)
    else
      bP (fX8_takes 41 s10) fun r11 s12 =>
      if r11 = 0 then
        some (0, s12)
      else
        some (1, s12)
  else
    bP (R1 (y1 + 1) s5) fun r6 s7 =>
    if r6 = 0 then
      some (0, s7)
    else
      if y2 = 45 then
        gX8_readOperand_b136 R0 R1 (-1) s7
      else
        gX8_readOperand_b136 R0 R1 (-y2) s7

def gX8_readOperand (R0 : Int32 → Int32 → mS → Option (Int32 × mS)) (R1 : Int32 → mS → Option (Int32 × mS)) (x1 : Int32) (s : mS) : Option (Int32 × mS) :=
  bO (fX8_next s) fun r1 =>
  bnd r1 fun v2 =>
  bO (fX8_isDigit v2 s) fun r3 =>
  if r3 = 0 then
    bO (fX8_isName v2 s) fun r4 =>
    if r4 = 0 then
      if 6 ≤ x1 then
        some (0, s)
      else
        if v2 = 40 then
          gX8_readOperand_b69 R0 R1 x1 v2 s
        else
          if v2 = 33 then
            gX8_readOperand_b69 R0 R1 x1 v2 s
          else
            if v2 = 45 then
              gX8_readOperand_b69 R0 R1 x1 v2 s
            else
              some (0, s)
    else
      bnd (pI s iP_at ((gI s iP_at) + 1)) fun s13 =>
      bO (fX8_addStep (-v2) s13) fun s14 =>
      some (1, s14)
  else
    bO (fX8_readNumber s) fun s15 =>
    some (1, s15)

set_option maxRecDepth 20000 in
theorem wX8_readOperand_b136 {ρ : mRo} {n d : Nat} {P : mPo} {V : mS → List mE} (hV : mView LC V) {R0 : Int32 → Int32 → mS → Option (Int32 × mS)} (hR0 : ∀ {x1 x2 : Int32} {s : mS} {res : (Int32 × mS)} {Q : mPo}, R0 x1 x2 s = some res → Q (some (.int res.1)) (V res.2) → mC ρ (n + d + 2) 48 [.ref qP, .int x1, .int x2] (V s) Q) {R1 : Int32 → mS → Option (Int32 × mS)} (hR1 : ∀ {x1 : Int32} {s : mS} {res : (Int32 × mS)} {Q : mPo}, R1 x1 s = some res → Q (some (.int res.1)) (V res.2) → mC ρ (n + d + 2) 49 [.ref qP, .int x1] (V s) Q)  {res : (Int32 × mS)} (hP : P (some (.int res.1)) (V res.2)) (z0 : Int32) (s : mS) (hf : gX8_readOperand_b136 R0 R1 z0 s = some res) : mG ρ (mC ρ (n + d + 2)) 8 3 cX8_readOperand (some .boolean) P 136 [] [.int z0, .ref qP] (V s) := by
  unfold gX8_readOperand_b136 at hf
  obtain ⟨s8, hg, hf⟩ := bO_some hf
  refine e_callV (as := [.int z0]) (v := none) (s' := s8) hV dX8_readOperand_136 (Or.inl rfl) rfl rfl rfl rfl (Nat.le_of_ble_eq_true rfl) lc_P rfl rfl (fun Q hQ => tX8_addStep (d := (n + d + 1)) hV  hg hQ) ?_
  refine e_iconst (w := 1) dX8_readOperand_139 (by decide) ?_
  obtain rfl := Option.some.inj hf
  exact e_iret dX8_readOperand_140 (Or.inr rfl) hP
set_option maxRecDepth 20000 in
theorem wX8_readOperand_b69 {ρ : mRo} {n d : Nat} {P : mPo} {V : mS → List mE} (hV : mView LC V) {R0 : Int32 → Int32 → mS → Option (Int32 × mS)} (hR0 : ∀ {x1 x2 : Int32} {s : mS} {res : (Int32 × mS)} {Q : mPo}, R0 x1 x2 s = some res → Q (some (.int res.1)) (V res.2) → mC ρ (n + d + 2) 48 [.ref qP, .int x1, .int x2] (V s) Q) {R1 : Int32 → mS → Option (Int32 × mS)} (hR1 : ∀ {x1 : Int32} {s : mS} {res : (Int32 × mS)} {Q : mPo}, R1 x1 s = some res → Q (some (.int res.1)) (V res.2) → mC ρ (n + d + 2) 49 [.ref qP, .int x1] (V s) Q)  {res : (Int32 × mS)} (hP : P (some (.int res.1)) (V res.2)) (y1 : Int32) (y2 : Int32) (s : mS) (hf : gX8_readOperand_b69 R0 R1 y1 y2 s = some res) : mG ρ (mC ρ (n + d + 2)) 8 3 cX8_readOperand (some .boolean) P 69 [(0, .ref qP), (1, .int y1), (2, .int y2)] [] (V s) := by
  unfold gX8_readOperand_b69 at hf
  refine e_aload_n 0 dX8_readOperand_69 rfl rfl ?_
  refine e_dup dX8_readOperand_70 rfl ?_
  refine e_geti hV dX8_readOperand_71 rfl lc_P rfl ?_
  refine e_iconst (w := 1) dX8_readOperand_74 (by decide) ?_
  refine e_iadd dX8_readOperand_75 ?_
  refine e_puti hV dX8_readOperand_76 rfl rfl rfl (Or.inl rfl) lc_P rfl hf (fun s5 hf => ?_)
  refine e_iload_n 2 dX8_readOperand_79 rfl rfl ?_
  refine e_bipush (w := 40) dX8_readOperand_80 (by decide) ?_
  refine e_icmp_ne 111 dX8_readOperand_82 (by decide) hf (fun hf => ?_) (fun hf => ?_)
  · refine e_aload_n 0 dX8_readOperand_111 rfl rfl ?_
    refine e_iload_n 1 dX8_readOperand_112 rfl rfl ?_
    refine e_iconst (w := 1) dX8_readOperand_113 (by decide) ?_
    refine e_iadd dX8_readOperand_114 ?_
    obtain ⟨r6, s7, hg, hf⟩ := bP_some hf
    refine e_callV (as := [.int (y1 + 1)]) (v := (some (.int r6))) (s' := s7) hV dX8_readOperand_115 (Or.inl rfl) rfl rfl rfl rfl (Nat.le_of_ble_eq_true rfl) lc_P rfl rfl (fun Q hQ => hR1 hg hQ) ?_
    refine e_if_ne 123 dX8_readOperand_118 (by decide) hf (fun hf => ?_) (fun hf => ?_)
    · refine e_aload_n 0 dX8_readOperand_123 rfl rfl ?_
      refine e_iload_n 2 dX8_readOperand_124 rfl rfl ?_
      refine e_bipush (w := 45) dX8_readOperand_125 (by decide) ?_
      refine e_icmp_ne 134 dX8_readOperand_127 (by decide) hf (fun hf => ?_) (fun hf => ?_)
      · refine e_iload_n 2 dX8_readOperand_134 rfl rfl ?_
        refine e_ineg dX8_readOperand_135 ?_
        refine e_pick [] rfl ?_
        exact wX8_readOperand_b136 hV hR0 hR1 hP (-y2) s7 hf
      · refine e_iconst (w := (-1)) dX8_readOperand_130 (by decide) ?_
        refine e_goto 136 dX8_readOperand_131 (by decide) ?_
        refine e_pick [] rfl ?_
        exact wX8_readOperand_b136 hV hR0 hR1 hP (-1) s7 hf
    · refine e_iconst (w := 0) dX8_readOperand_121 (by decide) ?_
      obtain rfl := Option.some.inj hf
      exact e_iret dX8_readOperand_122 (Or.inl rfl) hP
  · refine e_aload_n 0 dX8_readOperand_85 rfl rfl ?_
    refine e_iconst (w := 0) dX8_readOperand_86 (by decide) ?_
    refine e_iload_n 1 dX8_readOperand_87 rfl rfl ?_
    refine e_iconst (w := 1) dX8_readOperand_88 (by decide) ?_
    refine e_iadd dX8_readOperand_89 ?_
    obtain ⟨r9, s10, hg, hf⟩ := bP_some hf
    refine e_callV (as := [.int 0, .int (y1 + 1)]) (v := (some (.int r9))) (s' := s10) hV dX8_readOperand_90 (Or.inl rfl) rfl rfl rfl rfl (Nat.le_of_ble_eq_true rfl) lc_P rfl rfl (fun Q hQ => hR0 hg hQ) ?_
    refine e_if_eq 109 dX8_readOperand_93 (by decide) hf (fun hf => ?_) (fun hf => ?_)
    · refine e_iconst (w := 0) dX8_readOperand_109 (by decide) ?_
      obtain rfl := Option.some.inj hf
      exact e_iret dX8_readOperand_110 (Or.inl rfl) hP
    · refine e_aload_n 0 dX8_readOperand_96 rfl rfl ?_
      refine e_bipush (w := 41) dX8_readOperand_97 (by decide) ?_
      obtain ⟨r11, s12, hg, hf⟩ := bP_some hf
      refine e_callV (as := [.int 41]) (v := (some (.int r11))) (s' := s12) hV dX8_readOperand_99 (Or.inl rfl) rfl rfl rfl rfl (Nat.le_of_ble_eq_true rfl) lc_P rfl rfl (fun Q hQ => tX8_takes (d := (n + d)) hV  hg hQ) ?_
      refine e_if_eq 109 dX8_readOperand_102 (by decide) hf (fun hf => ?_) (fun hf => ?_)
      · refine e_iconst (w := 0) dX8_readOperand_109 (by decide) ?_
        obtain rfl := Option.some.inj hf
        exact e_iret dX8_readOperand_110 (Or.inl rfl) hP
      · refine e_iconst (w := 1) dX8_readOperand_105 (by decide) ?_
        refine e_goto 110 dX8_readOperand_106 (by decide) ?_
        obtain rfl := Option.some.inj hf
        exact e_iret dX8_readOperand_110 (Or.inr rfl) hP
set_option maxRecDepth 20000 in
theorem uX8_readOperand {ρ : mRo} {n d : Nat} {P : mPo} {V : mS → List mE} (hV : mView LC V) {R0 : Int32 → Int32 → mS → Option (Int32 × mS)} (hR0 : ∀ {x1 x2 : Int32} {s : mS} {res : (Int32 × mS)} {Q : mPo}, R0 x1 x2 s = some res → Q (some (.int res.1)) (V res.2) → mC ρ (n + d + 2) 48 [.ref qP, .int x1, .int x2] (V s) Q) {R1 : Int32 → mS → Option (Int32 × mS)} (hR1 : ∀ {x1 : Int32} {s : mS} {res : (Int32 × mS)} {Q : mPo}, R1 x1 s = some res → Q (some (.int res.1)) (V res.2) → mC ρ (n + d + 2) 49 [.ref qP, .int x1] (V s) Q)  {x1 : Int32} {s : mS} {res : (Int32 × mS)} (hf : gX8_readOperand R0 R1 x1 s = some res) (hP : P (some (.int res.1)) (V res.2)) : mC ρ (n + d + 2 + 1) 49 [.ref qP, .int x1] (V s) P := by
  refine ⟨_, rfl, Nat.le_of_ble_eq_true rfl, by decide, ?_⟩
  show mG ρ (mC ρ (n + d + 2)) 8 3 cX8_readOperand (some .boolean) P 0 [(0, .ref qP), (1, .int x1)] [] (V s)
  unfold gX8_readOperand at hf
  refine e_aload_n 0 dX8_readOperand_0 rfl rfl ?_
  obtain ⟨r1, hg, hf⟩ := bO_some hf
  refine e_callV (as := []) (v := (some (.int r1))) (s' := s) hV dX8_readOperand_1 (Or.inl rfl) rfl rfl rfl rfl (Nat.le_of_ble_eq_true rfl) lc_P rfl rfl (fun Q hQ => tX8_next (d := (n + d + 1)) hV  hg hQ) ?_
  refine e_istore_n dX8_readOperand_4 rfl (by decide) hf (fun v2 hf => ?_)
  refine e_iload_n 0 dX8_readOperand_5 rfl rfl ?_
  obtain ⟨r3, hg, hf⟩ := bO_some hf
  refine e_callS (as := [.int v2]) (v := (some (.int r3))) (s' := s) dX8_readOperand_6 rfl rfl rfl rfl rfl (Nat.le_of_ble_eq_true rfl) (fun Q hQ => tX8_isDigit (d := (n + d + 1)) hV  hg hQ) ?_
  refine e_if_eq 18 dX8_readOperand_9 (by decide) hf (fun hf => ?_) (fun hf => ?_)
  · refine e_iload_n 0 dX8_readOperand_18 rfl rfl ?_
    obtain ⟨r4, hg, hf⟩ := bO_some hf
    refine e_callS (as := [.int v2]) (v := (some (.int r4))) (s' := s) dX8_readOperand_19 rfl rfl rfl rfl rfl (Nat.le_of_ble_eq_true rfl) (fun Q hQ => tX8_isName (d := (n + d + 1)) hV  hg hQ) ?_
    refine e_if_eq 43 dX8_readOperand_22 (by decide) hf (fun hf => ?_) (fun hf => ?_)
    · refine e_iload_n 2 dX8_readOperand_43 rfl rfl ?_
      refine e_bipush (w := 6) dX8_readOperand_44 (by decide) ?_
      refine e_icmp_ge 67 dX8_readOperand_46 (by decide) hf (fun hf => ?_) (fun hf => ?_)
      · refine e_iconst (w := 0) dX8_readOperand_67 (by decide) ?_
        obtain rfl := Option.some.inj hf
        exact e_iret dX8_readOperand_68 (Or.inl rfl) hP
      · refine e_iload_n 0 dX8_readOperand_49 rfl rfl ?_
        refine e_bipush (w := 40) dX8_readOperand_50 (by decide) ?_
        refine e_icmp_eq 69 dX8_readOperand_52 (by decide) hf (fun hf => ?_) (fun hf => ?_)
        · refine e_pick [1, 2, 0] rfl ?_
          exact wX8_readOperand_b69 hV hR0 hR1 hP x1 v2 s hf
        · refine e_iload_n 0 dX8_readOperand_55 rfl rfl ?_
          refine e_bipush (w := 33) dX8_readOperand_56 (by decide) ?_
          refine e_icmp_eq 69 dX8_readOperand_58 (by decide) hf (fun hf => ?_) (fun hf => ?_)
          · refine e_pick [1, 2, 0] rfl ?_
            exact wX8_readOperand_b69 hV hR0 hR1 hP x1 v2 s hf
          · refine e_iload_n 0 dX8_readOperand_61 rfl rfl ?_
            refine e_bipush (w := 45) dX8_readOperand_62 (by decide) ?_
            refine e_icmp_eq 69 dX8_readOperand_64 (by decide) hf (fun hf => ?_) (fun hf => ?_)
            · refine e_pick [1, 2, 0] rfl ?_
              exact wX8_readOperand_b69 hV hR0 hR1 hP x1 v2 s hf
            · refine e_iconst (w := 0) dX8_readOperand_67 (by decide) ?_
              obtain rfl := Option.some.inj hf
              exact e_iret dX8_readOperand_68 (Or.inl rfl) hP
    · refine e_aload_n 1 dX8_readOperand_25 rfl rfl ?_
      refine e_dup dX8_readOperand_26 rfl ?_
      refine e_geti hV dX8_readOperand_27 rfl lc_P rfl ?_
      refine e_iconst (w := 1) dX8_readOperand_30 (by decide) ?_
      refine e_iadd dX8_readOperand_31 ?_
      refine e_puti hV dX8_readOperand_32 rfl rfl rfl (Or.inl rfl) lc_P rfl hf (fun s13 hf => ?_)
      refine e_aload_n 1 dX8_readOperand_35 rfl rfl ?_
      refine e_iload_n 0 dX8_readOperand_36 rfl rfl ?_
      refine e_ineg dX8_readOperand_37 ?_
      obtain ⟨s14, hg, hf⟩ := bO_some hf
      refine e_callV (as := [.int (-v2)]) (v := none) (s' := s14) hV dX8_readOperand_38 (Or.inl rfl) rfl rfl rfl rfl (Nat.le_of_ble_eq_true rfl) lc_P rfl rfl (fun Q hQ => tX8_addStep (d := (n + d + 1)) hV  hg hQ) ?_
      refine e_iconst (w := 1) dX8_readOperand_41 (by decide) ?_
      obtain rfl := Option.some.inj hf
      exact e_iret dX8_readOperand_42 (Or.inr rfl) hP
  · refine e_aload_n 1 dX8_readOperand_12 rfl rfl ?_
    obtain ⟨s15, hg, hf⟩ := bO_some hf
    refine e_callV (as := []) (v := none) (s' := s15) hV dX8_readOperand_13 (Or.inl rfl) rfl rfl rfl rfl (Nat.le_of_ble_eq_true rfl) lc_P rfl rfl (fun Q hQ => tX8_readNumber (d := (n + d)) hV  hg hQ) ?_
    refine e_iconst (w := 1) dX8_readOperand_16 (by decide) ?_
    obtain rfl := Option.some.inj hf
    exact e_iret dX8_readOperand_17 (Or.inr rfl) hP

theorem dX8_readLevel_0 : decode cX8_readLevel 0 = .ok (.iload_n 1, 1) := by decide +kernel
theorem dX8_readLevel_1 : decode cX8_readLevel 1 = .ok (.iconst 5, 1) := by decide +kernel
theorem dX8_readLevel_2 : decode cX8_readLevel 2 = .ok (.if_icmp .lt 9, 3) := by decide +kernel
theorem dX8_readLevel_5 : decode cX8_readLevel 5 = .ok (.aload_n 0, 1) := by decide +kernel
theorem dX8_readLevel_6 : decode cX8_readLevel 6 = .ok (.iload_n 2, 1) := by decide +kernel
theorem dX8_readLevel_7 : decode cX8_readLevel 7 = .ok (.invokevirtual 42, 3) := by decide +kernel
theorem dX8_readLevel_10 : decode cX8_readLevel 10 = .ok (.ireturn, 1) := by decide +kernel
theorem dX8_readLevel_11 : decode cX8_readLevel 11 = .ok (.aload_n 0, 1) := by decide +kernel
theorem dX8_readLevel_12 : decode cX8_readLevel 12 = .ok (.iload_n 1, 1) := by decide +kernel
theorem dX8_readLevel_13 : decode cX8_readLevel 13 = .ok (.iconst 1, 1) := by decide +kernel
theorem dX8_readLevel_14 : decode cX8_readLevel 14 = .ok (.iadd, 1) := by decide +kernel
theorem dX8_readLevel_15 : decode cX8_readLevel 15 = .ok (.iload_n 2, 1) := by decide +kernel
theorem dX8_readLevel_16 : decode cX8_readLevel 16 = .ok (.invokevirtual 34, 3) := by decide +kernel
theorem dX8_readLevel_19 : decode cX8_readLevel 19 = .ok (.ifCond .ne 5, 3) := by decide +kernel
theorem dX8_readLevel_22 : decode cX8_readLevel 22 = .ok (.iconst 0, 1) := by decide +kernel
theorem dX8_readLevel_23 : decode cX8_readLevel 23 = .ok (.ireturn, 1) := by decide +kernel
theorem dX8_readLevel_24 : decode cX8_readLevel 24 = .ok (.iload_n 1, 1) := by decide +kernel
theorem dX8_readLevel_25 : decode cX8_readLevel 25 = .ok (.iconst 2, 1) := by decide +kernel
theorem dX8_readLevel_26 : decode cX8_readLevel 26 = .ok (.if_icmp .ne 7, 3) := by decide +kernel
theorem dX8_readLevel_29 : decode cX8_readLevel 29 = .ok (.iconst 1, 1) := by decide +kernel
theorem dX8_readLevel_30 : decode cX8_readLevel 30 = .ok (.goto 7, 3) := by decide +kernel
theorem dX8_readLevel_33 : decode cX8_readLevel 33 = .ok (.aload_n 0, 1) := by decide +kernel
theorem dX8_readLevel_34 : decode cX8_readLevel 34 = .ok (.getfield 16, 3) := by decide +kernel
theorem dX8_readLevel_37 : decode cX8_readLevel 37 = .ok (.istore_n 3, 1) := by decide +kernel
theorem dX8_readLevel_38 : decode cX8_readLevel 38 = .ok (.iconst 0, 1) := by decide +kernel
theorem dX8_readLevel_39 : decode cX8_readLevel 39 = .ok (.istore 4, 2) := by decide +kernel
theorem dX8_readLevel_41 : decode cX8_readLevel 41 = .ok (.iload 4, 2) := by decide +kernel
theorem dX8_readLevel_43 : decode cX8_readLevel 43 = .ok (.iload_n 3, 1) := by decide +kernel
theorem dX8_readLevel_44 : decode cX8_readLevel 44 = .ok (.if_icmp .ge 56, 3) := by decide +kernel
theorem dX8_readLevel_47 : decode cX8_readLevel 47 = .ok (.aload_n 0, 1) := by decide +kernel
theorem dX8_readLevel_48 : decode cX8_readLevel 48 = .ok (.invokevirtual 45, 3) := by decide +kernel
theorem dX8_readLevel_51 : decode cX8_readLevel 51 = .ok (.invokestatic 49, 3) := by decide +kernel
theorem dX8_readLevel_54 : decode cX8_readLevel 54 = .ok (.iload_n 1, 1) := by decide +kernel
theorem dX8_readLevel_55 : decode cX8_readLevel 55 = .ok (.if_icmp .ne 45, 3) := by decide +kernel
theorem dX8_readLevel_58 : decode cX8_readLevel 58 = .ok (.aload_n 0, 1) := by decide +kernel
theorem dX8_readLevel_59 : decode cX8_readLevel 59 = .ok (.invokevirtual 45, 3) := by decide +kernel
theorem dX8_readLevel_62 : decode cX8_readLevel 62 = .ok (.istore 5, 2) := by decide +kernel
theorem dX8_readLevel_64 : decode cX8_readLevel 64 = .ok (.aload_n 0, 1) := by decide +kernel
theorem dX8_readLevel_65 : decode cX8_readLevel 65 = .ok (.dup, 1) := by decide +kernel
theorem dX8_readLevel_66 : decode cX8_readLevel 66 = .ok (.getfield 20, 3) := by decide +kernel
theorem dX8_readLevel_69 : decode cX8_readLevel 69 = .ok (.iconst 1, 1) := by decide +kernel
theorem dX8_readLevel_70 : decode cX8_readLevel 70 = .ok (.iadd, 1) := by decide +kernel
theorem dX8_readLevel_71 : decode cX8_readLevel 71 = .ok (.putfield 20, 3) := by decide +kernel
theorem dX8_readLevel_74 : decode cX8_readLevel 74 = .ok (.aload_n 0, 1) := by decide +kernel
theorem dX8_readLevel_75 : decode cX8_readLevel 75 = .ok (.iload_n 1, 1) := by decide +kernel
theorem dX8_readLevel_76 : decode cX8_readLevel 76 = .ok (.iconst 1, 1) := by decide +kernel
theorem dX8_readLevel_77 : decode cX8_readLevel 77 = .ok (.iadd, 1) := by decide +kernel
theorem dX8_readLevel_78 : decode cX8_readLevel 78 = .ok (.iload_n 2, 1) := by decide +kernel
theorem dX8_readLevel_79 : decode cX8_readLevel 79 = .ok (.invokevirtual 34, 3) := by decide +kernel
theorem dX8_readLevel_82 : decode cX8_readLevel 82 = .ok (.ifCond .ne 5, 3) := by decide +kernel
theorem dX8_readLevel_85 : decode cX8_readLevel 85 = .ok (.iconst 0, 1) := by decide +kernel
theorem dX8_readLevel_86 : decode cX8_readLevel 86 = .ok (.ireturn, 1) := by decide +kernel
theorem dX8_readLevel_87 : decode cX8_readLevel 87 = .ok (.aload_n 0, 1) := by decide +kernel
theorem dX8_readLevel_88 : decode cX8_readLevel 88 = .ok (.iload 5, 2) := by decide +kernel
theorem dX8_readLevel_90 : decode cX8_readLevel 90 = .ok (.ineg, 1) := by decide +kernel
theorem dX8_readLevel_91 : decode cX8_readLevel 91 = .ok (.invokevirtual 38, 3) := by decide +kernel
theorem dX8_readLevel_94 : decode cX8_readLevel 94 = .ok (.iinc 4 1, 3) := by decide +kernel
theorem dX8_readLevel_97 : decode cX8_readLevel 97 = .ok (.goto (-56), 3) := by decide +kernel
theorem dX8_readLevel_100 : decode cX8_readLevel 100 = .ok (.iconst 1, 1) := by decide +kernel
theorem dX8_readLevel_101 : decode cX8_readLevel 101 = .ok (.ireturn, 1) := by decide +kernel
def gX8_readLevel_b41 (R0 : Int32 → Int32 → mS → Option (Int32 × mS)) (R1 : Int32 → mS → Option (Int32 × mS)) : Nat → Int32 → Int32 → Int32 → Int32 → mS → Option (Int32 × mS)
  | 0, _, _, _, _, _ => none
  | k + 1, y1, y2, y3, y4, s =>
    if y3 ≤ y4 then
      some (1, s)
    else
      bO (fX8_next s) fun r5 =>
      bO (fX8_levelOf r5 s) fun r6 =>
      if r6 = y1 then
        bO (fX8_next s) fun r7 =>
        bnd r7 fun v8 =>
        bnd (pI s iP_at ((gI s iP_at) + 1)) fun s9 =>
        bP (R0 (y1 + 1) y2 s9) fun r10 s11 =>
        if r10 = 0 then
          some (0, s11)
        else
          bO (fX8_addStep (-v8) s11) fun s12 =>
          bnd (y4 + 1) fun v13 =>
          gX8_readLevel_b41 R0 R1 k y1 y2 y3 v13 s12
      else
        some (1, s)

def gX8_readLevel_b37 (R0 : Int32 → Int32 → mS → Option (Int32 × mS)) (R1 : Int32 → mS → Option (Int32 × mS)) (y1 : Int32) (y2 : Int32) (z0 : Int32) (s : mS) : Option (Int32 × mS) :=
  bnd z0 fun v3 =>
  bnd 0 fun v4 =>
  gX8_readLevel_b41 R0 R1 mFu y1 y2 v3 v4 s

def gX8_readLevel (R0 : Int32 → Int32 → mS → Option (Int32 × mS)) (R1 : Int32 → mS → Option (Int32 × mS)) (x1 : Int32) (x2 : Int32) (s : mS) : Option (Int32 × mS) :=
  if x1 < 5 then
    bP (R0 (x1 + 1) x2 s) fun r1 s2 =>
    if r1 = 0 then
      some (0, s2)
    else
      if x1 = 2 then
        gX8_readLevel_b37 R0 R1 x1 x2 1 s2
      else
        gX8_readLevel_b37 R0 R1 x1 x2 (gI s2 iP_size) s2
  else
    bP (R1 x2 s) fun r14 s15 =>
    rB r14 (some (r14, s15))

set_option maxRecDepth 20000 in
theorem wX8_readLevel_b41 {ρ : mRo} {n d : Nat} {P : mPo} {V : mS → List mE} (hV : mView LC V) {R0 : Int32 → Int32 → mS → Option (Int32 × mS)} (hR0 : ∀ {x1 x2 : Int32} {s : mS} {res : (Int32 × mS)} {Q : mPo}, R0 x1 x2 s = some res → Q (some (.int res.1)) (V res.2) → mC ρ (n + d + 2) 48 [.ref qP, .int x1, .int x2] (V s) Q) {R1 : Int32 → mS → Option (Int32 × mS)} (hR1 : ∀ {x1 : Int32} {s : mS} {res : (Int32 × mS)} {Q : mPo}, R1 x1 s = some res → Q (some (.int res.1)) (V res.2) → mC ρ (n + d + 2) 49 [.ref qP, .int x1] (V s) Q)  {res : (Int32 × mS)} (hP : P (some (.int res.1)) (V res.2)) : ∀ (k : Nat) (y1 : Int32) (y2 : Int32) (y3 : Int32) (y4 : Int32) (s : mS), gX8_readLevel_b41 R0 R1 k y1 y2 y3 y4 s = some res → mG ρ (mC ρ (n + d + 2)) 8 6 cX8_readLevel (some .boolean) P 41 [(0, .ref qP), (1, .int y1), (2, .int y2), (3, .int y3), (4, .int y4)] [] (V s) := by
  intro k
  induction k with
  | zero => intro y1 y2 y3 y4 s hf; rw [gX8_readLevel_b41] at hf; cases hf
  | succ k ih =>
    intro y1 y2 y3 y4 s hf
    rw [gX8_readLevel_b41] at hf
    refine e_iload 4 dX8_readLevel_41 rfl ?_
    refine e_iload_n 3 dX8_readLevel_43 rfl rfl ?_
    refine e_icmp_ge 100 dX8_readLevel_44 (by decide) hf (fun hf => ?_) (fun hf => ?_)
    · refine e_iconst (w := 1) dX8_readLevel_100 (by decide) ?_
      obtain rfl := Option.some.inj hf
      exact e_iret dX8_readLevel_101 (Or.inr rfl) hP
    · refine e_aload_n 0 dX8_readLevel_47 rfl rfl ?_
      obtain ⟨r5, hg, hf⟩ := bO_some hf
      refine e_callV (as := []) (v := (some (.int r5))) (s' := s) hV dX8_readLevel_48 (Or.inl rfl) rfl rfl rfl rfl (Nat.le_of_ble_eq_true rfl) lc_P rfl rfl (fun Q hQ => tX8_next (d := (n + d + 1)) hV  hg hQ) ?_
      obtain ⟨r6, hg, hf⟩ := bO_some hf
      refine e_callS (as := [.int r5]) (v := (some (.int r6))) (s' := s) dX8_readLevel_51 rfl rfl rfl rfl rfl (Nat.le_of_ble_eq_true rfl) (fun Q hQ => tX8_levelOf (d := (n + d + 1)) hV  hg hQ) ?_
      refine e_iload_n 1 dX8_readLevel_54 rfl rfl ?_
      refine e_icmp_ne 100 dX8_readLevel_55 (by decide) hf (fun hf => ?_) (fun hf => ?_)
      · refine e_iconst (w := 1) dX8_readLevel_100 (by decide) ?_
        obtain rfl := Option.some.inj hf
        exact e_iret dX8_readLevel_101 (Or.inr rfl) hP
      · refine e_aload_n 0 dX8_readLevel_58 rfl rfl ?_
        obtain ⟨r7, hg, hf⟩ := bO_some hf
        refine e_callV (as := []) (v := (some (.int r7))) (s' := s) hV dX8_readLevel_59 (Or.inl rfl) rfl rfl rfl rfl (Nat.le_of_ble_eq_true rfl) lc_P rfl rfl (fun Q hQ => tX8_next (d := (n + d + 1)) hV  hg hQ) ?_
        refine e_istore dX8_readLevel_62 (by decide) hf (fun v8 hf => ?_)
        refine e_aload_n 1 dX8_readLevel_64 rfl rfl ?_
        refine e_dup dX8_readLevel_65 rfl ?_
        refine e_geti hV dX8_readLevel_66 rfl lc_P rfl ?_
        refine e_iconst (w := 1) dX8_readLevel_69 (by decide) ?_
        refine e_iadd dX8_readLevel_70 ?_
        refine e_puti hV dX8_readLevel_71 rfl rfl rfl (Or.inl rfl) lc_P rfl hf (fun s9 hf => ?_)
        refine e_aload_n 1 dX8_readLevel_74 rfl rfl ?_
        refine e_iload_n 2 dX8_readLevel_75 rfl rfl ?_
        refine e_iconst (w := 1) dX8_readLevel_76 (by decide) ?_
        refine e_iadd dX8_readLevel_77 ?_
        refine e_iload_n 3 dX8_readLevel_78 rfl rfl ?_
        obtain ⟨r10, s11, hg, hf⟩ := bP_some hf
        refine e_callV (as := [.int (y1 + 1), .int y2]) (v := (some (.int r10))) (s' := s11) hV dX8_readLevel_79 (Or.inl rfl) rfl rfl rfl rfl (Nat.le_of_ble_eq_true rfl) lc_P rfl rfl (fun Q hQ => hR0 hg hQ) ?_
        refine e_if_ne 87 dX8_readLevel_82 (by decide) hf (fun hf => ?_) (fun hf => ?_)
        · refine e_aload_n 1 dX8_readLevel_87 rfl rfl ?_
          refine e_iload 0 dX8_readLevel_88 rfl ?_
          refine e_ineg dX8_readLevel_90 ?_
          obtain ⟨s12, hg, hf⟩ := bO_some hf
          refine e_callV (as := [.int (-v8)]) (v := none) (s' := s12) hV dX8_readLevel_91 (Or.inl rfl) rfl rfl rfl rfl (Nat.le_of_ble_eq_true rfl) lc_P rfl rfl (fun Q hQ => tX8_addStep (d := (n + d + 1)) hV  hg hQ) ?_
          refine e_iinc 5 dX8_readLevel_94 rfl rfl hf (fun v13 hf => ?_)
          refine e_goto 41 dX8_readLevel_97 (by decide) ?_
          refine e_pick [2, 3, 4, 5, 0] rfl ?_
          exact ih y1 y2 y3 v13 s12 hf
        · refine e_iconst (w := 0) dX8_readLevel_85 (by decide) ?_
          obtain rfl := Option.some.inj hf
          exact e_iret dX8_readLevel_86 (Or.inl rfl) hP
set_option maxRecDepth 20000 in
theorem wX8_readLevel_b37 {ρ : mRo} {n d : Nat} {P : mPo} {V : mS → List mE} (hV : mView LC V) {R0 : Int32 → Int32 → mS → Option (Int32 × mS)} (hR0 : ∀ {x1 x2 : Int32} {s : mS} {res : (Int32 × mS)} {Q : mPo}, R0 x1 x2 s = some res → Q (some (.int res.1)) (V res.2) → mC ρ (n + d + 2) 48 [.ref qP, .int x1, .int x2] (V s) Q) {R1 : Int32 → mS → Option (Int32 × mS)} (hR1 : ∀ {x1 : Int32} {s : mS} {res : (Int32 × mS)} {Q : mPo}, R1 x1 s = some res → Q (some (.int res.1)) (V res.2) → mC ρ (n + d + 2) 49 [.ref qP, .int x1] (V s) Q)  {res : (Int32 × mS)} (hP : P (some (.int res.1)) (V res.2)) (y1 : Int32) (y2 : Int32) (z0 : Int32) (s : mS) (hf : gX8_readLevel_b37 R0 R1 y1 y2 z0 s = some res) : mG ρ (mC ρ (n + d + 2)) 8 6 cX8_readLevel (some .boolean) P 37 [(0, .ref qP), (1, .int y1), (2, .int y2)] [.int z0] (V s) := by
  unfold gX8_readLevel_b37 at hf
  refine e_istore_n dX8_readLevel_37 rfl (by decide) hf (fun v3 hf => ?_)
  refine e_iconst (w := 0) dX8_readLevel_38 (by decide) ?_
  refine e_istore dX8_readLevel_39 (by decide) hf (fun v4 hf => ?_)
  refine e_pick [2, 3, 4, 1, 0] rfl ?_
  exact wX8_readLevel_b41 hV hR0 hR1 hP mFu y1 y2 v3 v4 s hf
set_option maxRecDepth 20000 in
theorem uX8_readLevel {ρ : mRo} {n d : Nat} {P : mPo} {V : mS → List mE} (hV : mView LC V) {R0 : Int32 → Int32 → mS → Option (Int32 × mS)} (hR0 : ∀ {x1 x2 : Int32} {s : mS} {res : (Int32 × mS)} {Q : mPo}, R0 x1 x2 s = some res → Q (some (.int res.1)) (V res.2) → mC ρ (n + d + 2) 48 [.ref qP, .int x1, .int x2] (V s) Q) {R1 : Int32 → mS → Option (Int32 × mS)} (hR1 : ∀ {x1 : Int32} {s : mS} {res : (Int32 × mS)} {Q : mPo}, R1 x1 s = some res → Q (some (.int res.1)) (V res.2) → mC ρ (n + d + 2) 49 [.ref qP, .int x1] (V s) Q)  {x1 : Int32} {x2 : Int32} {s : mS} {res : (Int32 × mS)} (hf : gX8_readLevel R0 R1 x1 x2 s = some res) (hP : P (some (.int res.1)) (V res.2)) : mC ρ (n + d + 2 + 1) 48 [.ref qP, .int x1, .int x2] (V s) P := by
  refine ⟨_, rfl, Nat.le_of_ble_eq_true rfl, by decide, ?_⟩
  show mG ρ (mC ρ (n + d + 2)) 8 6 cX8_readLevel (some .boolean) P 0 [(0, .ref qP), (1, .int x1), (2, .int x2)] [] (V s)
  unfold gX8_readLevel at hf
  refine e_iload_n 1 dX8_readLevel_0 rfl rfl ?_
  refine e_iconst (w := 5) dX8_readLevel_1 (by decide) ?_
  refine e_icmp_lt 11 dX8_readLevel_2 (by decide) hf (fun hf => ?_) (fun hf => ?_)
  · refine e_aload_n 0 dX8_readLevel_11 rfl rfl ?_
    refine e_iload_n 1 dX8_readLevel_12 rfl rfl ?_
    refine e_iconst (w := 1) dX8_readLevel_13 (by decide) ?_
    refine e_iadd dX8_readLevel_14 ?_
    refine e_iload_n 2 dX8_readLevel_15 rfl rfl ?_
    obtain ⟨r1, s2, hg, hf⟩ := bP_some hf
    refine e_callV (as := [.int (x1 + 1), .int x2]) (v := (some (.int r1))) (s' := s2) hV dX8_readLevel_16 (Or.inl rfl) rfl rfl rfl rfl (Nat.le_of_ble_eq_true rfl) lc_P rfl rfl (fun Q hQ => hR0 hg hQ) ?_
    refine e_if_ne 24 dX8_readLevel_19 (by decide) hf (fun hf => ?_) (fun hf => ?_)
    · refine e_iload_n 1 dX8_readLevel_24 rfl rfl ?_
      refine e_iconst (w := 2) dX8_readLevel_25 (by decide) ?_
      refine e_icmp_ne 33 dX8_readLevel_26 (by decide) hf (fun hf => ?_) (fun hf => ?_)
      · refine e_aload_n 0 dX8_readLevel_33 rfl rfl ?_
        refine e_geti hV dX8_readLevel_34 rfl lc_P rfl ?_
        refine e_pick [0, 1, 2] rfl ?_
        exact wX8_readLevel_b37 hV hR0 hR1 hP x1 x2 (gI s2 iP_size) s2 hf
      · refine e_iconst (w := 1) dX8_readLevel_29 (by decide) ?_
        refine e_goto 37 dX8_readLevel_30 (by decide) ?_
        refine e_pick [0, 1, 2] rfl ?_
        exact wX8_readLevel_b37 hV hR0 hR1 hP x1 x2 1 s2 hf
    · refine e_iconst (w := 0) dX8_readLevel_22 (by decide) ?_
      obtain rfl := Option.some.inj hf
      exact e_iret dX8_readLevel_23 (Or.inl rfl) hP
  · refine e_aload_n 0 dX8_readLevel_5 rfl rfl ?_
    refine e_iload_n 2 dX8_readLevel_6 rfl rfl ?_
    obtain ⟨r14, s15, hg, hf⟩ := bP_some hf
    refine e_callV (as := [.int x2]) (v := (some (.int r14))) (s' := s15) hV dX8_readLevel_7 (Or.inl rfl) rfl rfl rfl rfl (Nat.le_of_ble_eq_true rfl) lc_P rfl rfl (fun Q hQ => hR1 hg hQ) ?_
    obtain ⟨hb0, hf⟩ := rB_some hf
    obtain rfl := Option.some.inj hf
    exact e_iret dX8_readLevel_10 hb0 hP

def sccX8_readLevel : Nat → (Int32 → Int32 → mS → Option (Int32 × mS)) × (Int32 → mS → Option (Int32 × mS))
  | 0 => (fun _ _ _ => none, fun _ _ => none)
  | n + 1 => (gX8_readLevel ((sccX8_readLevel n).1) ((sccX8_readLevel n).2), gX8_readOperand ((sccX8_readLevel n).1) ((sccX8_readLevel n).2))
theorem tsccX8_readLevel {ρ : mRo} {d : Nat} {V : mS → List mE} (hV : mView LC V) : ∀ n : Nat, (∀ {x1 x2 : Int32} {s : mS} {res : (Int32 × mS)} {Q : mPo}, (sccX8_readLevel n).1 x1 x2 s = some res → Q (some (.int res.1)) (V res.2) → mC ρ (n + d + 2) 48 [.ref qP, .int x1, .int x2] (V s) Q) ∧ (∀ {x1 : Int32} {s : mS} {res : (Int32 × mS)} {Q : mPo}, (sccX8_readLevel n).2 x1 s = some res → Q (some (.int res.1)) (V res.2) → mC ρ (n + d + 2) 49 [.ref qP, .int x1] (V s) Q) := by
  intro n
  induction n with
  | zero => exact ⟨(fun hf _ => nomatch hf), (fun hf _ => nomatch hf)⟩
  | succ n ih =>
    rw [show n + 1 + d + 2 = n + d + 2 + 1 by omega]
    exact ⟨(fun hf hP => uX8_readLevel hV (ih).1 (ih).2 hf hP), (fun hf hP => uX8_readOperand hV (ih).1 (ih).2 hf hP)⟩
def fX8_readLevel (x1 : Int32) (x2 : Int32) (s : mS) : Option (Int32 × mS) := (sccX8_readLevel 60).1 x1 x2 s
theorem tX8_readLevel {ρ : mRo} {d : Nat} {P : mPo} {V : mS → List mE} (hV : mView LC V) {x1 : Int32} {x2 : Int32} {s : mS} {res : (Int32 × mS)} (hf : fX8_readLevel x1 x2 s = some res) (hP : P (some (.int res.1)) (V res.2)) : mC ρ (d + 62) 48 [.ref qP, .int x1, .int x2] (V s) P := by
  rw [show d + 62 = 60 + d + 2 by omega]
  exact (tsccX8_readLevel hV 60).1 hf hP
def fX8_readOperand (x1 : Int32) (s : mS) : Option (Int32 × mS) := (sccX8_readLevel 60).2 x1 s
theorem tX8_readOperand {ρ : mRo} {d : Nat} {P : mPo} {V : mS → List mE} (hV : mView LC V) {x1 : Int32} {s : mS} {res : (Int32 × mS)} (hf : fX8_readOperand x1 s = some res) (hP : P (some (.int res.1)) (V res.2)) : mC ρ (d + 62) 49 [.ref qP, .int x1] (V s) P := by
  rw [show d + 62 = 60 + d + 2 by omega]
  exact (tsccX8_readLevel hV 60).2 hf hP

theorem dX8_readLine_0 : decode cX8_readLine 0 = .ok (.aload_n 0, 1) := by decide +kernel
theorem dX8_readLine_1 : decode cX8_readLine 1 = .ok (.iconst 0, 1) := by decide +kernel
theorem dX8_readLine_2 : decode cX8_readLine 2 = .ok (.iconst 0, 1) := by decide +kernel
theorem dX8_readLine_3 : decode cX8_readLine 3 = .ok (.invokevirtual 34, 3) := by decide +kernel
theorem dX8_readLine_6 : decode cX8_readLine 6 = .ok (.ifCond .ne 5, 3) := by decide +kernel
theorem dX8_readLine_9 : decode cX8_readLine 9 = .ok (.iconst 0, 1) := by decide +kernel
theorem dX8_readLine_10 : decode cX8_readLine 10 = .ok (.ireturn, 1) := by decide +kernel
theorem dX8_readLine_11 : decode cX8_readLine 11 = .ok (.aload_n 0, 1) := by decide +kernel
theorem dX8_readLine_12 : decode cX8_readLine 12 = .ok (.bipush 63, 2) := by decide +kernel
theorem dX8_readLine_14 : decode cX8_readLine 14 = .ok (.invokevirtual 30, 3) := by decide +kernel
theorem dX8_readLine_17 : decode cX8_readLine 17 = .ok (.ifCond .ne 11, 3) := by decide +kernel
theorem dX8_readLine_20 : decode cX8_readLine 20 = .ok (.aload_n 0, 1) := by decide +kernel
theorem dX8_readLine_21 : decode cX8_readLine 21 = .ok (.bipush (-2), 2) := by decide +kernel
theorem dX8_readLine_23 : decode cX8_readLine 23 = .ok (.invokevirtual 38, 3) := by decide +kernel
theorem dX8_readLine_26 : decode cX8_readLine 26 = .ok (.iconst 1, 1) := by decide +kernel
theorem dX8_readLine_27 : decode cX8_readLine 27 = .ok (.ireturn, 1) := by decide +kernel
theorem dX8_readLine_28 : decode cX8_readLine 28 = .ok (.aload_n 0, 1) := by decide +kernel
theorem dX8_readLine_29 : decode cX8_readLine 29 = .ok (.iconst 0, 1) := by decide +kernel
theorem dX8_readLine_30 : decode cX8_readLine 30 = .ok (.iconst 0, 1) := by decide +kernel
theorem dX8_readLine_31 : decode cX8_readLine 31 = .ok (.invokevirtual 34, 3) := by decide +kernel
theorem dX8_readLine_34 : decode cX8_readLine 34 = .ok (.ifCond .ne 5, 3) := by decide +kernel
theorem dX8_readLine_37 : decode cX8_readLine 37 = .ok (.iconst 0, 1) := by decide +kernel
theorem dX8_readLine_38 : decode cX8_readLine 38 = .ok (.ireturn, 1) := by decide +kernel
theorem dX8_readLine_39 : decode cX8_readLine 39 = .ok (.aload_n 0, 1) := by decide +kernel
theorem dX8_readLine_40 : decode cX8_readLine 40 = .ok (.bipush (-3), 2) := by decide +kernel
theorem dX8_readLine_42 : decode cX8_readLine 42 = .ok (.invokevirtual 38, 3) := by decide +kernel
theorem dX8_readLine_45 : decode cX8_readLine 45 = .ok (.iconst 1, 1) := by decide +kernel
theorem dX8_readLine_46 : decode cX8_readLine 46 = .ok (.ireturn, 1) := by decide +kernel
def fX8_readLine (s : mS) : Option (Int32 × mS) :=
  bP (fX8_readLevel 0 0 s) fun r1 s2 =>
  if r1 = 0 then
    some (0, s2)
  else
    bP (fX8_takes 63 s2) fun r3 s4 =>
    if r3 = 0 then
      bO (fX8_addStep (-2) s4) fun s8 =>
      some (1, s8)
    else
      bP (fX8_readLevel 0 0 s4) fun r5 s6 =>
      if r5 = 0 then
        some (0, s6)
      else
        bO (fX8_addStep (-3) s6) fun s7 =>
        some (1, s7)

set_option maxRecDepth 20000 in
theorem tX8_readLine {ρ : mRo} {d : Nat} {P : mPo} {V : mS → List mE} (hV : mView LC V)  {s : mS} {res : (Int32 × mS)} (hf : fX8_readLine s = some res) (hP : P (some (.int res.1)) (V res.2)) : mC ρ (d + 63) 47 [.ref qP] (V s) P := by
  refine ⟨_, rfl, Nat.le_of_ble_eq_true rfl, by decide, ?_⟩
  show mG ρ (mC ρ (d + 62)) 8 1 cX8_readLine (some .boolean) P 0 [(0, .ref qP)] [] (V s)
  unfold fX8_readLine at hf
  refine e_aload_n 0 dX8_readLine_0 rfl rfl ?_
  refine e_iconst (w := 0) dX8_readLine_1 (by decide) ?_
  refine e_iconst (w := 0) dX8_readLine_2 (by decide) ?_
  obtain ⟨r1, s2, hg, hf⟩ := bP_some hf
  refine e_callV (as := [.int 0, .int 0]) (v := (some (.int r1))) (s' := s2) hV dX8_readLine_3 (Or.inl rfl) rfl rfl rfl rfl (Nat.le_of_ble_eq_true rfl) lc_P rfl rfl (fun Q hQ => tX8_readLevel (d := d) hV  hg hQ) ?_
  refine e_if_ne 11 dX8_readLine_6 (by decide) hf (fun hf => ?_) (fun hf => ?_)
  · refine e_aload_n 0 dX8_readLine_11 rfl rfl ?_
    refine e_bipush (w := 63) dX8_readLine_12 (by decide) ?_
    obtain ⟨r3, s4, hg, hf⟩ := bP_some hf
    refine e_callV (as := [.int 63]) (v := (some (.int r3))) (s' := s4) hV dX8_readLine_14 (Or.inl rfl) rfl rfl rfl rfl (Nat.le_of_ble_eq_true rfl) lc_P rfl rfl (fun Q hQ => tX8_takes (d := (d + 60)) hV  hg hQ) ?_
    refine e_if_ne 28 dX8_readLine_17 (by decide) hf (fun hf => ?_) (fun hf => ?_)
    · refine e_aload_n 0 dX8_readLine_28 rfl rfl ?_
      refine e_iconst (w := 0) dX8_readLine_29 (by decide) ?_
      refine e_iconst (w := 0) dX8_readLine_30 (by decide) ?_
      obtain ⟨r5, s6, hg, hf⟩ := bP_some hf
      refine e_callV (as := [.int 0, .int 0]) (v := (some (.int r5))) (s' := s6) hV dX8_readLine_31 (Or.inl rfl) rfl rfl rfl rfl (Nat.le_of_ble_eq_true rfl) lc_P rfl rfl (fun Q hQ => tX8_readLevel (d := d) hV  hg hQ) ?_
      refine e_if_ne 39 dX8_readLine_34 (by decide) hf (fun hf => ?_) (fun hf => ?_)
      · refine e_aload_n 0 dX8_readLine_39 rfl rfl ?_
        refine e_bipush (w := (-3)) dX8_readLine_40 (by decide) ?_
        obtain ⟨s7, hg, hf⟩ := bO_some hf
        refine e_callV (as := [.int (-3)]) (v := none) (s' := s7) hV dX8_readLine_42 (Or.inl rfl) rfl rfl rfl rfl (Nat.le_of_ble_eq_true rfl) lc_P rfl rfl (fun Q hQ => tX8_addStep (d := (d + 61)) hV  hg hQ) ?_
        refine e_iconst (w := 1) dX8_readLine_45 (by decide) ?_
        obtain rfl := Option.some.inj hf
        exact e_iret dX8_readLine_46 (Or.inr rfl) hP
      · refine e_iconst (w := 0) dX8_readLine_37 (by decide) ?_
        obtain rfl := Option.some.inj hf
        exact e_iret dX8_readLine_38 (Or.inl rfl) hP
    · refine e_aload_n 0 dX8_readLine_20 rfl rfl ?_
      refine e_bipush (w := (-2)) dX8_readLine_21 (by decide) ?_
      obtain ⟨s8, hg, hf⟩ := bO_some hf
      refine e_callV (as := [.int (-2)]) (v := none) (s' := s8) hV dX8_readLine_23 (Or.inl rfl) rfl rfl rfl rfl (Nat.le_of_ble_eq_true rfl) lc_P rfl rfl (fun Q hQ => tX8_addStep (d := (d + 61)) hV  hg hQ) ?_
      refine e_iconst (w := 1) dX8_readLine_26 (by decide) ?_
      obtain rfl := Option.some.inj hf
      exact e_iret dX8_readLine_27 (Or.inr rfl) hP
  · refine e_iconst (w := 0) dX8_readLine_9 (by decide) ?_
    obtain rfl := Option.some.inj hf
    exact e_iret dX8_readLine_10 (Or.inl rfl) hP

theorem dX8_read_0 : decode cX8_read 0 = .ok (.aload_n 0, 1) := by decide +kernel
theorem dX8_read_1 : decode cX8_read 1 = .ok (.iconst 0, 1) := by decide +kernel
theorem dX8_read_2 : decode cX8_read 2 = .ok (.putfield 20, 3) := by decide +kernel
theorem dX8_read_5 : decode cX8_read 5 = .ok (.aload_n 0, 1) := by decide +kernel
theorem dX8_read_6 : decode cX8_read 6 = .ok (.iconst 0, 1) := by decide +kernel
theorem dX8_read_7 : decode cX8_read 7 = .ok (.putfield 23, 3) := by decide +kernel
theorem dX8_read_10 : decode cX8_read 10 = .ok (.iconst 0, 1) := by decide +kernel
theorem dX8_read_11 : decode cX8_read 11 = .ok (.istore_n 1, 1) := by decide +kernel
theorem dX8_read_12 : decode cX8_read 12 = .ok (.iload_n 1, 1) := by decide +kernel
theorem dX8_read_13 : decode cX8_read 13 = .ok (.aload_n 0, 1) := by decide +kernel
theorem dX8_read_14 : decode cX8_read 14 = .ok (.getfield 16, 3) := by decide +kernel
theorem dX8_read_17 : decode cX8_read 17 = .ok (.if_icmp .gt 44, 3) := by decide +kernel
theorem dX8_read_20 : decode cX8_read 20 = .ok (.aload_n 0, 1) := by decide +kernel
theorem dX8_read_21 : decode cX8_read 21 = .ok (.invokevirtual 26, 3) := by decide +kernel
theorem dX8_read_24 : decode cX8_read 24 = .ok (.ifCond .ne 5, 3) := by decide +kernel
theorem dX8_read_27 : decode cX8_read 27 = .ok (.iconst 0, 1) := by decide +kernel
theorem dX8_read_28 : decode cX8_read 28 = .ok (.ireturn, 1) := by decide +kernel
theorem dX8_read_29 : decode cX8_read 29 = .ok (.aload_n 0, 1) := by decide +kernel
theorem dX8_read_30 : decode cX8_read 30 = .ok (.bipush 59, 2) := by decide +kernel
theorem dX8_read_32 : decode cX8_read 32 = .ok (.invokevirtual 30, 3) := by decide +kernel
theorem dX8_read_35 : decode cX8_read 35 = .ok (.ifCond .ne 20, 3) := by decide +kernel
theorem dX8_read_38 : decode cX8_read 38 = .ok (.aload_n 0, 1) := by decide +kernel
theorem dX8_read_39 : decode cX8_read 39 = .ok (.getfield 20, 3) := by decide +kernel
theorem dX8_read_42 : decode cX8_read 42 = .ok (.aload_n 0, 1) := by decide +kernel
theorem dX8_read_43 : decode cX8_read 43 = .ok (.getfield 16, 3) := by decide +kernel
theorem dX8_read_46 : decode cX8_read 46 = .ok (.if_icmp .ne 7, 3) := by decide +kernel
theorem dX8_read_49 : decode cX8_read 49 = .ok (.iconst 1, 1) := by decide +kernel
theorem dX8_read_50 : decode cX8_read 50 = .ok (.goto 4, 3) := by decide +kernel
theorem dX8_read_53 : decode cX8_read 53 = .ok (.iconst 0, 1) := by decide +kernel
theorem dX8_read_54 : decode cX8_read 54 = .ok (.ireturn, 1) := by decide +kernel
theorem dX8_read_55 : decode cX8_read 55 = .ok (.iinc 1 1, 3) := by decide +kernel
theorem dX8_read_58 : decode cX8_read 58 = .ok (.goto (-46), 3) := by decide +kernel
theorem dX8_read_61 : decode cX8_read 61 = .ok (.iconst 0, 1) := by decide +kernel
theorem dX8_read_62 : decode cX8_read 62 = .ok (.ireturn, 1) := by decide +kernel
def fX8_read_b12 : Nat → Int32 → mS → Option (Int32 × mS)
  | 0, _, _ => none
  | k + 1, y1, s =>
    if (gI s iP_size) < y1 then
      some (0, s)
    else
      bP (fX8_readLine s) fun r4 s5 =>
      if r4 = 0 then
        some (0, s5)
      else
        bP (fX8_takes 59 s5) fun r6 s7 =>
        if r6 = 0 then
          if (gI s7 iP_at) = (gI s7 iP_size) then
            some (1, s7)
          else
            some (0, s7)
        else
          bnd (y1 + 1) fun v8 =>
          fX8_read_b12 k v8 s7

def fX8_read (s : mS) : Option (Int32 × mS) :=
  bnd (pI s iP_at 0) fun s1 =>
  bnd (pI s1 iP_stepsSize 0) fun s2 =>
  bnd 0 fun v3 =>
  fX8_read_b12 mFu v3 s2

set_option maxRecDepth 20000 in
theorem wX8_read_b12 {ρ : mRo} {d : Nat} {P : mPo} {V : mS → List mE} (hV : mView LC V)  {res : (Int32 × mS)} (hP : P (some (.int res.1)) (V res.2)) : ∀ (k : Nat) (y1 : Int32) (s : mS), fX8_read_b12 k y1 s = some res → mG ρ (mC ρ (d + 63)) 8 2 cX8_read (some .boolean) P 12 [(0, .ref qP), (1, .int y1)] [] (V s) := by
  intro k
  induction k with
  | zero => intro y1 s hf; rw [fX8_read_b12] at hf; cases hf
  | succ k ih =>
    intro y1 s hf
    rw [fX8_read_b12] at hf
    refine e_iload_n 1 dX8_read_12 rfl rfl ?_
    refine e_aload_n 0 dX8_read_13 rfl rfl ?_
    refine e_geti hV dX8_read_14 rfl lc_P rfl ?_
    refine e_icmp_gt 61 dX8_read_17 (by decide) hf (fun hf => ?_) (fun hf => ?_)
    · refine e_iconst (w := 0) dX8_read_61 (by decide) ?_
      obtain rfl := Option.some.inj hf
      exact e_iret dX8_read_62 (Or.inl rfl) hP
    · refine e_aload_n 0 dX8_read_20 rfl rfl ?_
      obtain ⟨r4, s5, hg, hf⟩ := bP_some hf
      refine e_callV (as := []) (v := (some (.int r4))) (s' := s5) hV dX8_read_21 (Or.inl rfl) rfl rfl rfl rfl (Nat.le_of_ble_eq_true rfl) lc_P rfl rfl (fun Q hQ => tX8_readLine (d := d) hV  hg hQ) ?_
      refine e_if_ne 29 dX8_read_24 (by decide) hf (fun hf => ?_) (fun hf => ?_)
      · refine e_aload_n 0 dX8_read_29 rfl rfl ?_
        refine e_bipush (w := 59) dX8_read_30 (by decide) ?_
        obtain ⟨r6, s7, hg, hf⟩ := bP_some hf
        refine e_callV (as := [.int 59]) (v := (some (.int r6))) (s' := s7) hV dX8_read_32 (Or.inl rfl) rfl rfl rfl rfl (Nat.le_of_ble_eq_true rfl) lc_P rfl rfl (fun Q hQ => tX8_takes (d := (d + 61)) hV  hg hQ) ?_
        refine e_if_ne 55 dX8_read_35 (by decide) hf (fun hf => ?_) (fun hf => ?_)
        · refine e_iinc 1 dX8_read_55 rfl rfl hf (fun v8 hf => ?_)
          refine e_goto 12 dX8_read_58 (by decide) ?_
          refine e_pick [1, 0] rfl ?_
          exact ih v8 s7 hf
        · refine e_aload_n 0 dX8_read_38 rfl rfl ?_
          refine e_geti hV dX8_read_39 rfl lc_P rfl ?_
          refine e_aload_n 0 dX8_read_42 rfl rfl ?_
          refine e_geti hV dX8_read_43 rfl lc_P rfl ?_
          refine e_icmp_ne 53 dX8_read_46 (by decide) hf (fun hf => ?_) (fun hf => ?_)
          · refine e_iconst (w := 0) dX8_read_53 (by decide) ?_
            obtain rfl := Option.some.inj hf
            exact e_iret dX8_read_54 (Or.inl rfl) hP
          · refine e_iconst (w := 1) dX8_read_49 (by decide) ?_
            refine e_goto 54 dX8_read_50 (by decide) ?_
            obtain rfl := Option.some.inj hf
            exact e_iret dX8_read_54 (Or.inr rfl) hP
      · refine e_iconst (w := 0) dX8_read_27 (by decide) ?_
        obtain rfl := Option.some.inj hf
        exact e_iret dX8_read_28 (Or.inl rfl) hP
set_option maxRecDepth 20000 in
theorem tX8_read {ρ : mRo} {d : Nat} {P : mPo} {V : mS → List mE} (hV : mView LC V)  {s : mS} {res : (Int32 × mS)} (hf : fX8_read s = some res) (hP : P (some (.int res.1)) (V res.2)) : mC ρ (d + 64) 46 [.ref qP] (V s) P := by
  refine ⟨_, rfl, Nat.le_of_ble_eq_true rfl, by decide, ?_⟩
  show mG ρ (mC ρ (d + 63)) 8 2 cX8_read (some .boolean) P 0 [(0, .ref qP)] [] (V s)
  unfold fX8_read at hf
  refine e_aload_n 0 dX8_read_0 rfl rfl ?_
  refine e_iconst (w := 0) dX8_read_1 (by decide) ?_
  refine e_puti hV dX8_read_2 rfl rfl rfl (Or.inl rfl) lc_P rfl hf (fun s1 hf => ?_)
  refine e_aload_n 0 dX8_read_5 rfl rfl ?_
  refine e_iconst (w := 0) dX8_read_6 (by decide) ?_
  refine e_puti hV dX8_read_7 rfl rfl rfl (Or.inl rfl) lc_P rfl hf (fun s2 hf => ?_)
  refine e_iconst (w := 0) dX8_read_10 (by decide) ?_
  refine e_istore_n dX8_read_11 rfl (by decide) hf (fun v3 hf => ?_)
  refine e_pick [1, 0] rfl ?_
  exact wX8_read_b12 hV hP mFu v3 s2 hf

theorem dX10_law_0 : decode cX10_law 0 = .ok (.aload_n 0, 1) := by decide +kernel
theorem dX10_law_1 : decode cX10_law 1 = .ok (.getfield 29, 3) := by decide +kernel
theorem dX10_law_4 : decode cX10_law 4 = .ok (.invokevirtual 153, 3) := by decide +kernel
theorem dX10_law_7 : decode cX10_law 7 = .ok (.istore_n 1, 1) := by decide +kernel
theorem dX10_law_8 : decode cX10_law 8 = .ok (.aload_n 0, 1) := by decide +kernel
theorem dX10_law_9 : decode cX10_law 9 = .ok (.getfield 29, 3) := by decide +kernel
theorem dX10_law_12 : decode cX10_law 12 = .ok (.iconst 0, 1) := by decide +kernel
theorem dX10_law_13 : decode cX10_law 13 = .ok (.putfield 156, 3) := by decide +kernel
theorem dX10_law_16 : decode cX10_law 16 = .ok (.iload_n 1, 1) := by decide +kernel
theorem dX10_law_17 : decode cX10_law 17 = .ok (.ifCond .ne 14, 3) := by decide +kernel
theorem dX10_law_20 : decode cX10_law 20 = .ok (.bipush (-100), 2) := by decide +kernel
theorem dX10_law_22 : decode cX10_law 22 = .ok (.aload_n 0, 1) := by decide +kernel
theorem dX10_law_23 : decode cX10_law 23 = .ok (.getfield 29, 3) := by decide +kernel
theorem dX10_law_26 : decode cX10_law 26 = .ok (.getfield 157, 3) := by decide +kernel
theorem dX10_law_29 : decode cX10_law 29 = .ok (.isub, 1) := by decide +kernel
theorem dX10_law_30 : decode cX10_law 30 = .ok (.ireturn, 1) := by decide +kernel
theorem dX10_law_31 : decode cX10_law 31 = .ok (.aload_n 0, 1) := by decide +kernel
theorem dX10_law_32 : decode cX10_law 32 = .ok (.getfield 36, 3) := by decide +kernel
theorem dX10_law_35 : decode cX10_law 35 = .ok (.aload_n 0, 1) := by decide +kernel
theorem dX10_law_36 : decode cX10_law 36 = .ok (.getfield 29, 3) := by decide +kernel
theorem dX10_law_39 : decode cX10_law 39 = .ok (.invokevirtual 160, 3) := by decide +kernel
theorem dX10_law_42 : decode cX10_law 42 = .ok (.iconst 1, 1) := by decide +kernel
theorem dX10_law_43 : decode cX10_law 43 = .ok (.ireturn, 1) := by decide +kernel
def fX10_law (s : mS) : Option (Int32 × mS) :=
  bP (fX8_read s) fun r1 s2 =>
  bnd r1 fun v3 =>
  bnd (pI s2 iP_size 0) fun s4 =>
  if v3 = 0 then
    some ((-100) - (gI s4 iP_at), s4)
  else
    bO (fX4_become s4) fun s5 =>
    some (1, s5)

set_option maxRecDepth 20000 in
theorem tX10_law {ρ : mRo} {d : Nat} {P : mPo} {V : mS → List mE} (hV : mView LC V)  {s : mS} {res : (Int32 × mS)} (hf : fX10_law s = some res) (hP : P (some (.int res.1)) (V res.2)) : mC ρ (d + 65) 70 [.ref qT] (V s) P := by
  refine ⟨_, rfl, Nat.le_of_ble_eq_true rfl, by decide, ?_⟩
  show mG ρ (mC ρ (d + 64)) 10 2 cX10_law (some .int) P 0 [(0, .ref qT)] [] (V s)
  unfold fX10_law at hf
  refine e_aload_n 0 dX10_law_0 rfl rfl ?_
  refine e_getr hV dX10_law_1 rfl lc_T rfl ?_
  obtain ⟨r1, s2, hg, hf⟩ := bP_some hf
  refine e_callV (as := []) (v := (some (.int r1))) (s' := s2) hV dX10_law_4 (Or.inl rfl) rfl rfl rfl rfl (Nat.le_of_ble_eq_true rfl) lc_P rfl rfl (fun Q hQ => tX8_read (d := d) hV  hg hQ) ?_
  refine e_istore_n dX10_law_7 rfl (by decide) hf (fun v3 hf => ?_)
  refine e_aload_n 1 dX10_law_8 rfl rfl ?_
  refine e_getr hV dX10_law_9 rfl lc_T rfl ?_
  refine e_iconst (w := 0) dX10_law_12 (by decide) ?_
  refine e_puti hV dX10_law_13 rfl rfl rfl (Or.inl rfl) lc_P rfl hf (fun s4 hf => ?_)
  refine e_iload_n 0 dX10_law_16 rfl rfl ?_
  refine e_if_ne 31 dX10_law_17 (by decide) hf (fun hf => ?_) (fun hf => ?_)
  · refine e_aload_n 1 dX10_law_31 rfl rfl ?_
    refine e_getr hV dX10_law_32 rfl lc_T rfl ?_
    refine e_aload_n 1 dX10_law_35 rfl rfl ?_
    refine e_getr hV dX10_law_36 rfl lc_T rfl ?_
    obtain ⟨s5, hg, hf⟩ := bO_some hf
    refine e_callV (as := [.ref qP]) (v := none) (s' := s5) hV dX10_law_39 (Or.inl rfl) rfl rfl rfl rfl (Nat.le_of_ble_eq_true rfl) lc_L rfl rfl (fun Q hQ => tX4_become (d := (d + 63)) hV  hg hQ) ?_
    refine e_iconst (w := 1) dX10_law_42 (by decide) ?_
    obtain rfl := Option.some.inj hf
    exact e_iret dX10_law_43 trivial hP
  · refine e_bipush (w := (-100)) dX10_law_20 (by decide) ?_
    refine e_aload_n 1 dX10_law_22 rfl rfl ?_
    refine e_getr hV dX10_law_23 rfl lc_T rfl ?_
    refine e_geti hV dX10_law_26 rfl lc_P rfl ?_
    refine e_isub dX10_law_29 ?_
    obtain rfl := Option.some.inj hf
    exact e_iret dX10_law_30 trivial hP

theorem dX10_act_0 : decode cX10_act 0 = .ok (.aload_n 0, 1) := by decide +kernel
theorem dX10_act_1 : decode cX10_act 1 = .ok (.getfield 56, 3) := by decide +kernel
theorem dX10_act_4 : decode cX10_act 4 = .ok (.iconst 0, 1) := by decide +kernel
theorem dX10_act_5 : decode cX10_act 5 = .ok (.putfield 344, 3) := by decide +kernel
theorem dX10_act_8 : decode cX10_act 8 = .ok (.aload_n 0, 1) := by decide +kernel
theorem dX10_act_9 : decode cX10_act 9 = .ok (.getfield 56, 3) := by decide +kernel
theorem dX10_act_12 : decode cX10_act 12 = .ok (.iload_n 1, 1) := by decide +kernel
theorem dX10_act_13 : decode cX10_act 13 = .ok (.invokevirtual 347, 3) := by decide +kernel
theorem dX10_act_16 : decode cX10_act 16 = .ok (.ifCond .eq 12, 3) := by decide +kernel
theorem dX10_act_19 : decode cX10_act 19 = .ok (.iload_n 2, 1) := by decide +kernel
theorem dX10_act_20 : decode cX10_act 20 = .ok (.ifCond .lt 8, 3) := by decide +kernel
theorem dX10_act_23 : decode cX10_act 23 = .ok (.iload_n 2, 1) := by decide +kernel
theorem dX10_act_24 : decode cX10_act 24 = .ok (.iconst 4, 1) := by decide +kernel
theorem dX10_act_25 : decode cX10_act 25 = .ok (.if_icmp .lt 5, 3) := by decide +kernel
theorem dX10_act_28 : decode cX10_act 28 = .ok (.iconst 0, 1) := by decide +kernel
theorem dX10_act_29 : decode cX10_act 29 = .ok (.ireturn, 1) := by decide +kernel
theorem dX10_act_30 : decode cX10_act 30 = .ok (.aload_n 0, 1) := by decide +kernel
theorem dX10_act_31 : decode cX10_act 31 = .ok (.getfield 56, 3) := by decide +kernel
theorem dX10_act_34 : decode cX10_act 34 = .ok (.iload_n 1, 1) := by decide +kernel
theorem dX10_act_35 : decode cX10_act 35 = .ok (.aload_n 0, 1) := by decide +kernel
theorem dX10_act_36 : decode cX10_act 36 = .ok (.getfield 56, 3) := by decide +kernel
theorem dX10_act_39 : decode cX10_act 39 = .ok (.getfield 348, 3) := by decide +kernel
theorem dX10_act_42 : decode cX10_act 42 = .ok (.iload_n 1, 1) := by decide +kernel
theorem dX10_act_43 : decode cX10_act 43 = .ok (.iaload, 1) := by decide +kernel
theorem dX10_act_44 : decode cX10_act 44 = .ok (.iload_n 2, 1) := by decide +kernel
theorem dX10_act_45 : decode cX10_act 45 = .ok (.iload_n 3, 1) := by decide +kernel
theorem dX10_act_46 : decode cX10_act 46 = .ok (.iconst 0, 1) := by decide +kernel
theorem dX10_act_47 : decode cX10_act 47 = .ok (.invokevirtual 351, 3) := by decide +kernel
theorem dX10_act_50 : decode cX10_act 50 = .ok (.ireturn, 1) := by decide +kernel
def fX10_act (x1 : Int32) (x2 : Int32) (x3 : Int32) (s : mS) : Option (Int32 × mS) :=
  bnd (pI s iU_ran 0) fun s1 =>
  bO (fX3_has x1 s1) fun r2 =>
  if r2 = 0 then
    some (0, s1)
  else
    if x2 < 0 then
      some (0, s1)
    else
      if x2 < 4 then
        ldA s1 aU_kinds 50 x1 fun v3 =>
        bP (fX3_perform x1 v3 x2 x3 0 s1) fun r4 s5 =>
        some (r4, s5)
      else
        some (0, s1)

set_option maxRecDepth 20000 in
theorem tX10_act {ρ : mRo} {d : Nat} {P : mPo} {V : mS → List mE} (hV : mView LC V) (hr : mRoC ρ)  {x1 : Int32} {x2 : Int32} {x3 : Int32} {s : mS} {res : (Int32 × mS)} (hf : fX10_act x1 x2 x3 s = some res) (hP : P (some (.int res.1)) (V res.2)) : mC ρ (d + 62) 101 [.ref qT, .int x1, .int x2, .int x3] (V s) P := by
  refine ⟨_, rfl, Nat.le_of_ble_eq_true rfl, by decide, ?_⟩
  show mG ρ (mC ρ (d + 61)) 10 4 cX10_act (some .int) P 0 [(0, .ref qT), (1, .int x1), (2, .int x2), (3, .int x3)] [] (V s)
  unfold fX10_act at hf
  refine e_aload_n 0 dX10_act_0 rfl rfl ?_
  refine e_getr hV dX10_act_1 rfl lc_T rfl ?_
  refine e_iconst (w := 0) dX10_act_4 (by decide) ?_
  refine e_puti hV dX10_act_5 rfl rfl rfl (Or.inl rfl) lc_U rfl hf (fun s1 hf => ?_)
  refine e_aload_n 0 dX10_act_8 rfl rfl ?_
  refine e_getr hV dX10_act_9 rfl lc_T rfl ?_
  refine e_iload_n 1 dX10_act_12 rfl rfl ?_
  obtain ⟨r2, hg, hf⟩ := bO_some hf
  refine e_callV (as := [.int x1]) (v := (some (.int r2))) (s' := s1) hV dX10_act_13 (Or.inl rfl) rfl rfl rfl rfl (Nat.le_of_ble_eq_true rfl) lc_U rfl rfl (fun Q hQ => tX3_has (d := (d + 60)) hV  hg hQ) ?_
  refine e_if_eq 28 dX10_act_16 (by decide) hf (fun hf => ?_) (fun hf => ?_)
  · refine e_iconst (w := 0) dX10_act_28 (by decide) ?_
    obtain rfl := Option.some.inj hf
    exact e_iret dX10_act_29 trivial hP
  · refine e_iload_n 2 dX10_act_19 rfl rfl ?_
    refine e_if_lt 28 dX10_act_20 (by decide) hf (fun hf => ?_) (fun hf => ?_)
    · refine e_iconst (w := 0) dX10_act_28 (by decide) ?_
      obtain rfl := Option.some.inj hf
      exact e_iret dX10_act_29 trivial hP
    · refine e_iload_n 2 dX10_act_23 rfl rfl ?_
      refine e_iconst (w := 4) dX10_act_24 (by decide) ?_
      refine e_icmp_lt 30 dX10_act_25 (by decide) hf (fun hf => ?_) (fun hf => ?_)
      · refine e_aload_n 0 dX10_act_30 rfl rfl ?_
        refine e_getr hV dX10_act_31 rfl lc_T rfl ?_
        refine e_iload_n 1 dX10_act_34 rfl rfl ?_
        refine e_aload_n 0 dX10_act_35 rfl rfl ?_
        refine e_getr hV dX10_act_36 rfl lc_T rfl ?_
        refine e_getr hV dX10_act_39 rfl lc_U rfl ?_
        refine e_iload_n 1 dX10_act_42 rfl rfl ?_
        refine e_iald hV dX10_act_43 lc_U_kinds hf (fun v3 hf => ?_)
        refine e_iload_n 2 dX10_act_44 rfl rfl ?_
        refine e_iload_n 3 dX10_act_45 rfl rfl ?_
        refine e_iconst (w := 0) dX10_act_46 (by decide) ?_
        obtain ⟨r4, s5, hg, hf⟩ := bP_some hf
        refine e_callV (as := [.int x1, .int v3, .int x2, .int x3, .int 0]) (v := (some (.int r4))) (s' := s5) hV dX10_act_47 (Or.inr ⟨rfl, rfl, rfl⟩) rfl rfl rfl rfl (Nat.le_of_ble_eq_true rfl) lc_U rfl rfl (fun Q hQ => tX3_perform (d := d) hV hr  hg hQ) ?_
        obtain rfl := Option.some.inj hf
        exact e_iret dX10_act_50 trivial hP
      · refine e_iconst (w := 0) dX10_act_28 (by decide) ?_
        obtain rfl := Option.some.inj hf
        exact e_iret dX10_act_29 trivial hP
