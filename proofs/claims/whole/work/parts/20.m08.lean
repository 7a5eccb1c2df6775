-- bytecode to functions, by program (wip/gen/decomp.py)
theorem dX11_takes_0 : decode cX11_takes 0 = .ok (.aload_n 0, 1) := by decide +kernel
theorem dX11_takes_1 : decode cX11_takes 1 = .ok (.getfield 154, 3) := by decide +kernel
theorem dX11_takes_4 : decode cX11_takes 4 = .ok (.ifCond .ge 11, 3) := by decide +kernel
theorem dX11_takes_7 : decode cX11_takes 7 = .ok (.aload_n 0, 1) := by decide +kernel
theorem dX11_takes_8 : decode cX11_takes 8 = .ok (.invokevirtual 157, 3) := by decide +kernel
theorem dX11_takes_11 : decode cX11_takes 11 = .ok (.iload_n 1, 1) := by decide +kernel
theorem dX11_takes_12 : decode cX11_takes 12 = .ok (.if_icmp .eq 5, 3) := by decide +kernel
theorem dX11_takes_15 : decode cX11_takes 15 = .ok (.iconst 0, 1) := by decide +kernel
theorem dX11_takes_16 : decode cX11_takes 16 = .ok (.ireturn, 1) := by decide +kernel
theorem dX11_takes_17 : decode cX11_takes 17 = .ok (.aload_n 0, 1) := by decide +kernel
theorem dX11_takes_18 : decode cX11_takes 18 = .ok (.dup, 1) := by decide +kernel
theorem dX11_takes_19 : decode cX11_takes 19 = .ok (.getfield 145, 3) := by decide +kernel
theorem dX11_takes_22 : decode cX11_takes 22 = .ok (.iconst 1, 1) := by decide +kernel
theorem dX11_takes_23 : decode cX11_takes 23 = .ok (.iadd, 1) := by decide +kernel
theorem dX11_takes_24 : decode cX11_takes 24 = .ok (.putfield 145, 3) := by decide +kernel
theorem dX11_takes_27 : decode cX11_takes 27 = .ok (.iconst 1, 1) := by decide +kernel
theorem dX11_takes_28 : decode cX11_takes 28 = .ok (.ireturn, 1) := by decide +kernel
def fX11_takes (x1 : Int32) (s : mS) : Option (Int32 × mS) :=
  if 0 ≤ (gI s iX_fault) then
    some ((nI 0), s)
  else
    bO (fX11_byteAt s) fun r1 =>
    if r1 = x1 then
      bnd (pI s iX_at ((gI s iX_at) + (nI 1))) fun s2 =>
      some ((nI 1), s2)
    else
      some ((nI 0), s)

set_option maxRecDepth 20000 in
theorem tX11_takes {ρ : mRo} {d : Nat} {P : mPo} {V : mS → List mE} (hV : mView LX V)  {x1 : Int32} {s : mS} {res : (Int32 × mS)} (hf : fX11_takes x1 s = some res) (hP : P (some (.int res.1)) (V res.2)) : mC ρ (d + 2) 157 [.ref qX, .int x1] (V s) P := by
  refine ⟨_, rfl, Nat.le_of_ble_eq_true rfl, by decide, ?_⟩
  show mG ρ (mC ρ (d + 1)) 11 2 cX11_takes (some .boolean) P 0 [(0, .ref qX), (1, .int x1)] [] (V s)
  unfold fX11_takes at hf
  refine e_aload_n 0 dX11_takes_0 rfl rfl ?_
  refine e_geti hV dX11_takes_1 rfl lx_X rfl ?_
  refine e_if_ge 15 dX11_takes_4 (by decide) hf (fun hf => ?_) (fun hf => ?_)
  · refine e_iconst (w := (nI 0)) dX11_takes_15 (by decide) ?_
    obtain rfl := Option.some.inj hf
    exact e_iret dX11_takes_16 (Or.inl rfl) hP
  · refine e_aload_n 0 dX11_takes_7 rfl rfl ?_
    obtain ⟨r1, hg, hf⟩ := bO_some hf
    refine e_callV (as := []) (v := (some (.int r1))) (s' := s) hV dX11_takes_8 (Or.inl rfl) rfl rfl rfl rfl (Nat.le_of_ble_eq_true rfl) lx_X rfl rfl (fun Q hQ => tX11_byteAt (d := d) hV  hg hQ) ?_
    refine e_iload_n 1 dX11_takes_11 rfl rfl ?_
    refine e_icmp_eq 17 dX11_takes_12 (by decide) hf (fun hf => ?_) (fun hf => ?_)
    · refine e_aload_n 0 dX11_takes_17 rfl rfl ?_
      refine e_dup dX11_takes_18 rfl ?_
      refine e_geti hV dX11_takes_19 rfl lx_X rfl ?_
      refine e_iconst (w := (nI 1)) dX11_takes_22 (by decide) ?_
      refine e_iadd dX11_takes_23 ?_
      refine e_puti hV dX11_takes_24 rfl rfl rfl (Or.inl rfl) lx_X rfl hf (fun s2 hf => ?_)
      refine e_iconst (w := (nI 1)) dX11_takes_27 (by decide) ?_
      obtain rfl := Option.some.inj hf
      exact e_iret dX11_takes_28 (Or.inr rfl) hP
    · refine e_iconst (w := (nI 0)) dX11_takes_15 (by decide) ?_
      obtain rfl := Option.some.inj hf
      exact e_iret dX11_takes_16 (Or.inl rfl) hP

theorem dX11_nameOf_0 : decode cX11_nameOf 0 = .ok (.iload_n 0, 1) := by decide +kernel
theorem dX11_nameOf_1 : decode cX11_nameOf 1 = .ok (.tableswitch 107 97 116 #[95, 107, 107, 101, 107, 107, 107, 99, 107, 107, 107, 107, 105, 107, 107, 107, 107, 103, 107, 97], 95) := by decide +kernel
theorem dX11_nameOf_96 : decode cX11_nameOf 96 = .ok (.iconst 0, 1) := by decide +kernel
theorem dX11_nameOf_97 : decode cX11_nameOf 97 = .ok (.ireturn, 1) := by decide +kernel
theorem dX11_nameOf_98 : decode cX11_nameOf 98 = .ok (.iconst 1, 1) := by decide +kernel
theorem dX11_nameOf_99 : decode cX11_nameOf 99 = .ok (.ireturn, 1) := by decide +kernel
theorem dX11_nameOf_100 : decode cX11_nameOf 100 = .ok (.iconst 2, 1) := by decide +kernel
theorem dX11_nameOf_101 : decode cX11_nameOf 101 = .ok (.ireturn, 1) := by decide +kernel
theorem dX11_nameOf_102 : decode cX11_nameOf 102 = .ok (.iconst 3, 1) := by decide +kernel
theorem dX11_nameOf_103 : decode cX11_nameOf 103 = .ok (.ireturn, 1) := by decide +kernel
theorem dX11_nameOf_104 : decode cX11_nameOf 104 = .ok (.iconst 4, 1) := by decide +kernel
theorem dX11_nameOf_105 : decode cX11_nameOf 105 = .ok (.ireturn, 1) := by decide +kernel
theorem dX11_nameOf_106 : decode cX11_nameOf 106 = .ok (.iconst 5, 1) := by decide +kernel
theorem dX11_nameOf_107 : decode cX11_nameOf 107 = .ok (.ireturn, 1) := by decide +kernel
theorem dX11_nameOf_108 : decode cX11_nameOf 108 = .ok (.iconst (-1), 1) := by decide +kernel
theorem dX11_nameOf_109 : decode cX11_nameOf 109 = .ok (.ireturn, 1) := by decide +kernel
def fX11_nameOf (x0 : Int32) (s : mS) : Option Int32 :=
  if x0 = (nI 97) then
    some (nI 0)
  else if x0 = (nI 100) then
    some (nI 3)
  else if x0 = (nI 104) then
    some (nI 2)
  else if x0 = (nI 109) then
    some (nI 5)
  else if x0 = (nI 114) then
    some (nI 4)
  else if x0 = (nI 116) then
    some (nI 1)
  else
    some (-1)

set_option maxRecDepth 20000 in
theorem tX11_nameOf {ρ : mRo} {d : Nat} {P : mPo} {V : mS → List mE} (hV : mView LX V)  {x0 : Int32} {s : mS} {res : Int32} (hf : fX11_nameOf x0 s = some res) (hP : P (some (.int res)) (V s)) : mC ρ (d + 1) 163 [.int x0] (V s) P := by
  refine ⟨_, rfl, Nat.le_of_ble_eq_true rfl, by decide, ?_⟩
  show mG ρ (mC ρ d) 11 1 cX11_nameOf (some .int) P 0 [(0, .int x0)] [] (V s)
  unfold fX11_nameOf at hf
  refine e_iload_n 0 dX11_nameOf_0 rfl rfl ?_
  by_cases hc97 : x0 = (nI 97)
  · rw [if_pos hc97] at hf
    refine e_tabI (off := 95) (tgt := 96) dX11_nameOf_1 hc97 (by decide) (by decide) ?_
    refine e_iconst (w := (nI 0)) dX11_nameOf_96 (by decide) ?_
    obtain rfl := Option.some.inj hf
    exact e_iret dX11_nameOf_97 trivial hP
  rw [if_neg hc97] at hf
  by_cases hc100 : x0 = (nI 100)
  · rw [if_pos hc100] at hf
    refine e_tabI (off := 101) (tgt := 102) dX11_nameOf_1 hc100 (by decide) (by decide) ?_
    refine e_iconst (w := (nI 3)) dX11_nameOf_102 (by decide) ?_
    obtain rfl := Option.some.inj hf
    exact e_iret dX11_nameOf_103 trivial hP
  rw [if_neg hc100] at hf
  by_cases hc104 : x0 = (nI 104)
  · rw [if_pos hc104] at hf
    refine e_tabI (off := 99) (tgt := 100) dX11_nameOf_1 hc104 (by decide) (by decide) ?_
    refine e_iconst (w := (nI 2)) dX11_nameOf_100 (by decide) ?_
    obtain rfl := Option.some.inj hf
    exact e_iret dX11_nameOf_101 trivial hP
  rw [if_neg hc104] at hf
  by_cases hc109 : x0 = (nI 109)
  · rw [if_pos hc109] at hf
    refine e_tabI (off := 105) (tgt := 106) dX11_nameOf_1 hc109 (by decide) (by decide) ?_
    refine e_iconst (w := (nI 5)) dX11_nameOf_106 (by decide) ?_
    obtain rfl := Option.some.inj hf
    exact e_iret dX11_nameOf_107 trivial hP
  rw [if_neg hc109] at hf
  by_cases hc114 : x0 = (nI 114)
  · rw [if_pos hc114] at hf
    refine e_tabI (off := 103) (tgt := 104) dX11_nameOf_1 hc114 (by decide) (by decide) ?_
    refine e_iconst (w := (nI 4)) dX11_nameOf_104 (by decide) ?_
    obtain rfl := Option.some.inj hf
    exact e_iret dX11_nameOf_105 trivial hP
  rw [if_neg hc114] at hf
  by_cases hc116 : x0 = (nI 116)
  · rw [if_pos hc116] at hf
    refine e_tabI (off := 97) (tgt := 98) dX11_nameOf_1 hc116 (by decide) (by decide) ?_
    refine e_iconst (w := (nI 1)) dX11_nameOf_98 (by decide) ?_
    obtain rfl := Option.some.inj hf
    exact e_iret dX11_nameOf_99 trivial hP
  rw [if_neg hc116] at hf
  refine e_tabD (tgt := 108) (ks := [(nI 97), (nI 100), (nI 104), (nI 109), (nI 114), (nI 116)]) dX11_nameOf_1 (by decide) (fun z hz => ?_) ?_
  · simp only [List.mem_cons, List.not_mem_nil, or_false] at hz
    rcases hz with rfl | rfl | rfl | rfl | rfl | rfl
    · exact hc97
    · exact hc100
    · exact hc104
    · exact hc109
    · exact hc114
    · exact hc116
  refine e_iconst (w := (-1)) dX11_nameOf_108 (by decide) ?_
  obtain rfl := Option.some.inj hf
  exact e_iret dX11_nameOf_109 trivial hP

theorem dX11_one_0 : decode cX11_one 0 = .ok (.aload_n 0, 1) := by decide +kernel
theorem dX11_one_1 : decode cX11_one 1 = .ok (.getfield 154, 3) := by decide +kernel
theorem dX11_one_4 : decode cX11_one 4 = .ok (.ifCond .lt 5, 3) := by decide +kernel
theorem dX11_one_7 : decode cX11_one 7 = .ok (.iconst 0, 1) := by decide +kernel
theorem dX11_one_8 : decode cX11_one 8 = .ok (.ireturn, 1) := by decide +kernel
theorem dX11_one_9 : decode cX11_one 9 = .ok (.aload_n 0, 1) := by decide +kernel
theorem dX11_one_10 : decode cX11_one 10 = .ok (.invokevirtual 157, 3) := by decide +kernel
theorem dX11_one_13 : decode cX11_one 13 = .ok (.istore_n 1, 1) := by decide +kernel
theorem dX11_one_14 : decode cX11_one 14 = .ok (.iload_n 1, 1) := by decide +kernel
theorem dX11_one_15 : decode cX11_one 15 = .ok (.bipush 33, 2) := by decide +kernel
theorem dX11_one_17 : decode cX11_one 17 = .ok (.if_icmp .eq 15, 3) := by decide +kernel
theorem dX11_one_20 : decode cX11_one 20 = .ok (.iload_n 1, 1) := by decide +kernel
theorem dX11_one_21 : decode cX11_one 21 = .ok (.bipush 45, 2) := by decide +kernel
theorem dX11_one_23 : decode cX11_one 23 = .ok (.if_icmp .eq 9, 3) := by decide +kernel
theorem dX11_one_26 : decode cX11_one 26 = .ok (.iload_n 1, 1) := by decide +kernel
theorem dX11_one_27 : decode cX11_one 27 = .ok (.bipush 40, 2) := by decide +kernel
theorem dX11_one_29 : decode cX11_one 29 = .ok (.if_icmp .ne 116, 3) := by decide +kernel
theorem dX11_one_32 : decode cX11_one 32 = .ok (.aload_n 0, 1) := by decide +kernel
theorem dX11_one_33 : decode cX11_one 33 = .ok (.getfield 179, 3) := by decide +kernel
theorem dX11_one_36 : decode cX11_one 36 = .ok (.bipush 6, 2) := by decide +kernel
theorem dX11_one_38 : decode cX11_one 38 = .ok (.if_icmp .ne 8, 3) := by decide +kernel
theorem dX11_one_41 : decode cX11_one 41 = .ok (.aload_n 0, 1) := by decide +kernel
theorem dX11_one_42 : decode cX11_one 42 = .ok (.invokevirtual 182, 3) := by decide +kernel
theorem dX11_one_45 : decode cX11_one 45 = .ok (.ireturn, 1) := by decide +kernel
theorem dX11_one_46 : decode cX11_one 46 = .ok (.aload_n 0, 1) := by decide +kernel
theorem dX11_one_47 : decode cX11_one 47 = .ok (.dup, 1) := by decide +kernel
theorem dX11_one_48 : decode cX11_one 48 = .ok (.getfield 179, 3) := by decide +kernel
theorem dX11_one_51 : decode cX11_one 51 = .ok (.iconst 1, 1) := by decide +kernel
theorem dX11_one_52 : decode cX11_one 52 = .ok (.iadd, 1) := by decide +kernel
theorem dX11_one_53 : decode cX11_one 53 = .ok (.putfield 179, 3) := by decide +kernel
theorem dX11_one_56 : decode cX11_one 56 = .ok (.aload_n 0, 1) := by decide +kernel
theorem dX11_one_57 : decode cX11_one 57 = .ok (.dup, 1) := by decide +kernel
theorem dX11_one_58 : decode cX11_one 58 = .ok (.getfield 145, 3) := by decide +kernel
theorem dX11_one_61 : decode cX11_one 61 = .ok (.iconst 1, 1) := by decide +kernel
theorem dX11_one_62 : decode cX11_one 62 = .ok (.iadd, 1) := by decide +kernel
theorem dX11_one_63 : decode cX11_one 63 = .ok (.putfield 145, 3) := by decide +kernel
theorem dX11_one_66 : decode cX11_one 66 = .ok (.iload_n 1, 1) := by decide +kernel
theorem dX11_one_67 : decode cX11_one 67 = .ok (.bipush 40, 2) := by decide +kernel
theorem dX11_one_69 : decode cX11_one 69 = .ok (.if_icmp .ne 10, 3) := by decide +kernel
theorem dX11_one_72 : decode cX11_one 72 = .ok (.aload_n 0, 1) := by decide +kernel
theorem dX11_one_73 : decode cX11_one 73 = .ok (.invokevirtual 185, 3) := by decide +kernel
theorem dX11_one_76 : decode cX11_one 76 = .ok (.goto 7, 3) := by decide +kernel
theorem dX11_one_79 : decode cX11_one 79 = .ok (.aload_n 0, 1) := by decide +kernel
theorem dX11_one_80 : decode cX11_one 80 = .ok (.invokevirtual 176, 3) := by decide +kernel
theorem dX11_one_83 : decode cX11_one 83 = .ok (.istore_n 2, 1) := by decide +kernel
theorem dX11_one_84 : decode cX11_one 84 = .ok (.iload_n 1, 1) := by decide +kernel
theorem dX11_one_85 : decode cX11_one 85 = .ok (.bipush 40, 2) := by decide +kernel
theorem dX11_one_87 : decode cX11_one 87 = .ok (.if_icmp .ne 17, 3) := by decide +kernel
theorem dX11_one_90 : decode cX11_one 90 = .ok (.aload_n 0, 1) := by decide +kernel
theorem dX11_one_91 : decode cX11_one 91 = .ok (.bipush 41, 2) := by decide +kernel
theorem dX11_one_93 : decode cX11_one 93 = .ok (.invokevirtual 164, 3) := by decide +kernel
theorem dX11_one_96 : decode cX11_one 96 = .ok (.ifCond .ne 8, 3) := by decide +kernel
theorem dX11_one_99 : decode cX11_one 99 = .ok (.aload_n 0, 1) := by decide +kernel
theorem dX11_one_100 : decode cX11_one 100 = .ok (.invokevirtual 182, 3) := by decide +kernel
theorem dX11_one_103 : decode cX11_one 103 = .ok (.ireturn, 1) := by decide +kernel
theorem dX11_one_104 : decode cX11_one 104 = .ok (.aload_n 0, 1) := by decide +kernel
theorem dX11_one_105 : decode cX11_one 105 = .ok (.dup, 1) := by decide +kernel
theorem dX11_one_106 : decode cX11_one 106 = .ok (.getfield 179, 3) := by decide +kernel
theorem dX11_one_109 : decode cX11_one 109 = .ok (.iconst 1, 1) := by decide +kernel
theorem dX11_one_110 : decode cX11_one 110 = .ok (.isub, 1) := by decide +kernel
theorem dX11_one_111 : decode cX11_one 111 = .ok (.putfield 179, 3) := by decide +kernel
theorem dX11_one_114 : decode cX11_one 114 = .ok (.iload_n 1, 1) := by decide +kernel
theorem dX11_one_115 : decode cX11_one 115 = .ok (.bipush 40, 2) := by decide +kernel
theorem dX11_one_117 : decode cX11_one 117 = .ok (.if_icmp .ne 7, 3) := by decide +kernel
theorem dX11_one_120 : decode cX11_one 120 = .ok (.iload_n 2, 1) := by decide +kernel
theorem dX11_one_121 : decode cX11_one 121 = .ok (.goto 23, 3) := by decide +kernel
theorem dX11_one_124 : decode cX11_one 124 = .ok (.iload_n 1, 1) := by decide +kernel
theorem dX11_one_125 : decode cX11_one 125 = .ok (.bipush 45, 2) := by decide +kernel
theorem dX11_one_127 : decode cX11_one 127 = .ok (.if_icmp .ne 8, 3) := by decide +kernel
theorem dX11_one_130 : decode cX11_one 130 = .ok (.iload_n 2, 1) := by decide +kernel
theorem dX11_one_131 : decode cX11_one 131 = .ok (.ineg, 1) := by decide +kernel
theorem dX11_one_132 : decode cX11_one 132 = .ok (.goto 12, 3) := by decide +kernel
theorem dX11_one_135 : decode cX11_one 135 = .ok (.iload_n 2, 1) := by decide +kernel
theorem dX11_one_136 : decode cX11_one 136 = .ok (.ifCond .ne 7, 3) := by decide +kernel
theorem dX11_one_139 : decode cX11_one 139 = .ok (.iconst 1, 1) := by decide +kernel
theorem dX11_one_140 : decode cX11_one 140 = .ok (.goto 4, 3) := by decide +kernel
theorem dX11_one_143 : decode cX11_one 143 = .ok (.iconst 0, 1) := by decide +kernel
theorem dX11_one_144 : decode cX11_one 144 = .ok (.ireturn, 1) := by decide +kernel
theorem dX11_one_145 : decode cX11_one 145 = .ok (.iload_n 1, 1) := by decide +kernel
theorem dX11_one_146 : decode cX11_one 146 = .ok (.invokestatic 188, 3) := by decide +kernel
theorem dX11_one_149 : decode cX11_one 149 = .ok (.istore_n 2, 1) := by decide +kernel
theorem dX11_one_150 : decode cX11_one 150 = .ok (.iload_n 2, 1) := by decide +kernel
theorem dX11_one_151 : decode cX11_one 151 = .ok (.ifCond .lt 20, 3) := by decide +kernel
theorem dX11_one_154 : decode cX11_one 154 = .ok (.aload_n 0, 1) := by decide +kernel
theorem dX11_one_155 : decode cX11_one 155 = .ok (.dup, 1) := by decide +kernel
theorem dX11_one_156 : decode cX11_one 156 = .ok (.getfield 145, 3) := by decide +kernel
theorem dX11_one_159 : decode cX11_one 159 = .ok (.iconst 1, 1) := by decide +kernel
theorem dX11_one_160 : decode cX11_one 160 = .ok (.iadd, 1) := by decide +kernel
theorem dX11_one_161 : decode cX11_one 161 = .ok (.putfield 145, 3) := by decide +kernel
theorem dX11_one_164 : decode cX11_one 164 = .ok (.aload_n 0, 1) := by decide +kernel
theorem dX11_one_165 : decode cX11_one 165 = .ok (.getfield 28, 3) := by decide +kernel
theorem dX11_one_168 : decode cX11_one 168 = .ok (.iload_n 2, 1) := by decide +kernel
theorem dX11_one_169 : decode cX11_one 169 = .ok (.iaload, 1) := by decide +kernel
theorem dX11_one_170 : decode cX11_one 170 = .ok (.ireturn, 1) := by decide +kernel
theorem dX11_one_171 : decode cX11_one 171 = .ok (.iconst 0, 1) := by decide +kernel
theorem dX11_one_172 : decode cX11_one 172 = .ok (.istore_n 3, 1) := by decide +kernel
theorem dX11_one_173 : decode cX11_one 173 = .ok (.iconst 0, 1) := by decide +kernel
theorem dX11_one_174 : decode cX11_one 174 = .ok (.istore 4, 2) := by decide +kernel
theorem dX11_one_176 : decode cX11_one 176 = .ok (.iload 4, 2) := by decide +kernel
theorem dX11_one_178 : decode cX11_one 178 = .ok (.iconst 4, 1) := by decide +kernel
theorem dX11_one_179 : decode cX11_one 179 = .ok (.if_icmp .ge 50, 3) := by decide +kernel
theorem dX11_one_182 : decode cX11_one 182 = .ok (.aload_n 0, 1) := by decide +kernel
theorem dX11_one_183 : decode cX11_one 183 = .ok (.invokevirtual 157, 3) := by decide +kernel
theorem dX11_one_186 : decode cX11_one 186 = .ok (.bipush 48, 2) := by decide +kernel
theorem dX11_one_188 : decode cX11_one 188 = .ok (.if_icmp .lt 41, 3) := by decide +kernel
theorem dX11_one_191 : decode cX11_one 191 = .ok (.aload_n 0, 1) := by decide +kernel
theorem dX11_one_192 : decode cX11_one 192 = .ok (.invokevirtual 157, 3) := by decide +kernel
theorem dX11_one_195 : decode cX11_one 195 = .ok (.bipush 57, 2) := by decide +kernel
theorem dX11_one_197 : decode cX11_one 197 = .ok (.if_icmp .gt 32, 3) := by decide +kernel
theorem dX11_one_200 : decode cX11_one 200 = .ok (.bipush 10, 2) := by decide +kernel
theorem dX11_one_202 : decode cX11_one 202 = .ok (.iload_n 3, 1) := by decide +kernel
theorem dX11_one_203 : decode cX11_one 203 = .ok (.imul, 1) := by decide +kernel
theorem dX11_one_204 : decode cX11_one 204 = .ok (.aload_n 0, 1) := by decide +kernel
theorem dX11_one_205 : decode cX11_one 205 = .ok (.invokevirtual 157, 3) := by decide +kernel
theorem dX11_one_208 : decode cX11_one 208 = .ok (.iadd, 1) := by decide +kernel
theorem dX11_one_209 : decode cX11_one 209 = .ok (.bipush 48, 2) := by decide +kernel
theorem dX11_one_211 : decode cX11_one 211 = .ok (.isub, 1) := by decide +kernel
theorem dX11_one_212 : decode cX11_one 212 = .ok (.istore_n 3, 1) := by decide +kernel
theorem dX11_one_213 : decode cX11_one 213 = .ok (.iinc 4 1, 3) := by decide +kernel
theorem dX11_one_216 : decode cX11_one 216 = .ok (.aload_n 0, 1) := by decide +kernel
theorem dX11_one_217 : decode cX11_one 217 = .ok (.dup, 1) := by decide +kernel
theorem dX11_one_218 : decode cX11_one 218 = .ok (.getfield 145, 3) := by decide +kernel
theorem dX11_one_221 : decode cX11_one 221 = .ok (.iconst 1, 1) := by decide +kernel
theorem dX11_one_222 : decode cX11_one 222 = .ok (.iadd, 1) := by decide +kernel
theorem dX11_one_223 : decode cX11_one 223 = .ok (.putfield 145, 3) := by decide +kernel
theorem dX11_one_226 : decode cX11_one 226 = .ok (.goto (-50), 3) := by decide +kernel
theorem dX11_one_229 : decode cX11_one 229 = .ok (.iload 4, 2) := by decide +kernel
theorem dX11_one_231 : decode cX11_one 231 = .ok (.ifCond .ne 10, 3) := by decide +kernel
theorem dX11_one_234 : decode cX11_one 234 = .ok (.aload_n 0, 1) := by decide +kernel
theorem dX11_one_235 : decode cX11_one 235 = .ok (.invokevirtual 182, 3) := by decide +kernel
theorem dX11_one_238 : decode cX11_one 238 = .ok (.goto 4, 3) := by decide +kernel
theorem dX11_one_241 : decode cX11_one 241 = .ok (.iload_n 3, 1) := by decide +kernel
theorem dX11_one_242 : decode cX11_one 242 = .ok (.ireturn, 1) := by decide +kernel
def gX11_one_b104 (R0 : mS → Option (Int32 × mS)) (R1 : mS → Option (Int32 × mS)) (R2 : mS → Option (Int32 × mS)) (R3 : mS → Option (Int32 × mS)) (R4 : mS → Option (Int32 × mS)) (R5 : mS → Option (Int32 × mS)) (y1 : Int32) (y2 : Int32) (s : mS) : Option (Int32 × mS) :=
  bnd (pI s iX_opened ((gI s iX_opened) - (nI 1))) fun s8 =>
  if y1 = (nI 40) then
    some (y2, s8)
  else
    if y1 = (nI 45) then
      some (-y2, s8)
    else
      if y2 = 0 then
        some ((nI 1), s8)
      else
        some ((nI 0), s8)

def gX11_one_b83 (R0 : mS → Option (Int32 × mS)) (R1 : mS → Option (Int32 × mS)) (R2 : mS → Option (Int32 × mS)) (R3 : mS → Option (Int32 × mS)) (R4 : mS → Option (Int32 × mS)) (R5 : mS → Option (Int32 × mS)) (y1 : Int32) (z0 : Int32) (s : mS) : Option (Int32 × mS) :=
  bnd z0 fun v7 =>
  if y1 = (nI 40) then
    bP (fX11_takes (nI 41) s) fun r9 s10 =>
    if r9 = 0 then
      bP (fX11_wrong s10) fun r11 s12 =>
      some (r11, s12)
    else
      gX11_one_b104 R0 R1 R2 R3 R4 R5 y1 v7 s10
  else
    gX11_one_b104 R0 R1 R2 R3 R4 R5 y1 v7 s

def gX11_one_b32 (R0 : mS → Option (Int32 × mS)) (R1 : mS → Option (Int32 × mS)) (R2 : mS → Option (Int32 × mS)) (R3 : mS → Option (Int32 × mS)) (R4 : mS → Option (Int32 × mS)) (R5 : mS → Option (Int32 × mS)) (y1 : Int32) (s : mS) : Option (Int32 × mS) :=
  if (gI s iX_opened) = (nI 6) then
    bP (fX11_wrong s) fun r15 s16 =>
    some (r15, s16)
  else
    bnd (pI s iX_opened ((gI s iX_opened) + (nI 1))) fun s3 =>
    bnd (pI s3 iX_at ((gI s3 iX_at) + (nI 1))) fun s4 =>
    if y1 = (nI 40) then
      bP (R0 s4) fun r13 s14 =>
      gX11_one_b83 R0 R1 R2 R3 R4 R5 y1 r13 s14
    else
      bP (R5 s4) fun r5 s6 =>
      gX11_one_b83 R0 R1 R2 R3 R4 R5 y1 r5 s6

def gX11_one_b229 (R0 : mS → Option (Int32 × mS)) (R1 : mS → Option (Int32 × mS)) (R2 : mS → Option (Int32 × mS)) (R3 : mS → Option (Int32 × mS)) (R4 : mS → Option (Int32 × mS)) (R5 : mS → Option (Int32 × mS)) (y3 : Int32) (y4 : Int32) (s : mS) : Option (Int32 × mS) :=
  if y4 = 0 then
    bP (fX11_wrong s) fun r21 s22 =>
    some (r21, s22)
  else
    some (y3, s)

def gX11_one_b176 (R0 : mS → Option (Int32 × mS)) (R1 : mS → Option (Int32 × mS)) (R2 : mS → Option (Int32 × mS)) (R3 : mS → Option (Int32 × mS)) (R4 : mS → Option (Int32 × mS)) (R5 : mS → Option (Int32 × mS)) : Nat → Int32 → Int32 → mS → Option (Int32 × mS)
  | 0, _, _, _ => none
  | k + 1, y3, y4, s =>
    if (nI 4) ≤ y4 then
      gX11_one_b229 R0 R1 R2 R3 R4 R5 y3 y4 s
    else
      bO (fX11_byteAt s) fun r23 =>
      if r23 < (nI 48) then
        gX11_one_b229 R0 R1 R2 R3 R4 R5 y3 y4 s
      else
        bO (fX11_byteAt s) fun r24 =>
        if (nI 57) < r24 then
          gX11_one_b229 R0 R1 R2 R3 R4 R5 y3 y4 s
        else
          bO (fX11_byteAt s) fun r25 =>
          bnd ((((nI 10) * y3) + r25) - (nI 48)) fun v26 =>
          bnd (y4 + (nI 1)) fun v27 =>
          bnd (pI s iX_at ((gI s iX_at) + (nI 1))) fun s28 =>
          gX11_one_b176 R0 R1 R2 R3 R4 R5 k v26 v27 s28

def gX11_one (R0 : mS → Option (Int32 × mS)) (R1 : mS → Option (Int32 × mS)) (R2 : mS → Option (Int32 × mS)) (R3 : mS → Option (Int32 × mS)) (R4 : mS → Option (Int32 × mS)) (R5 : mS → Option (Int32 × mS)) (s : mS) : Option (Int32 × mS) :=
  if (gI s iX_fault) < 0 then
    bO (fX11_byteAt s) fun r1 =>
    bnd r1 fun v2 =>
    if v2 = (nI 33) then
      gX11_one_b32 R0 R1 R2 R3 R4 R5 v2 s
    else
      if v2 = (nI 45) then
        gX11_one_b32 R0 R1 R2 R3 R4 R5 v2 s
      else
        if v2 = (nI 40) then
          gX11_one_b32 R0 R1 R2 R3 R4 R5 v2 s
        else
          bO (fX11_nameOf v2 s) fun r17 =>
          bnd r17 fun v18 =>
          if v18 < 0 then
            bnd (nI 0) fun v19 =>
            bnd (nI 0) fun v20 =>
            gX11_one_b176 R0 R1 R2 R3 R4 R5 mFu v19 v20 s
          else
            bnd (pI s iX_at ((gI s iX_at) + (nI 1))) fun s29 =>
            ldA s29 aX_names 6 v18 fun v30 =>
            some (v30, s29)
  else
    some ((nI 0), s)

set_option maxRecDepth 20000 in
theorem wX11_one_b104 {ρ : mRo} {n d : Nat} {P : mPo} {V : mS → List mE} (hV : mView LX V) {R0 : mS → Option (Int32 × mS)} (hR0 : ∀ {s : mS} {res : (Int32 × mS)} {Q : mPo}, R0 s = some res → Q (some (.int res.1)) (V res.2) → mC ρ (n + d + 2) 158 [.ref qX] (V s) Q) {R1 : mS → Option (Int32 × mS)} (hR1 : ∀ {s : mS} {res : (Int32 × mS)} {Q : mPo}, R1 s = some res → Q (some (.int res.1)) (V res.2) → mC ρ (n + d + 2) 159 [.ref qX] (V s) Q) {R2 : mS → Option (Int32 × mS)} (hR2 : ∀ {s : mS} {res : (Int32 × mS)} {Q : mPo}, R2 s = some res → Q (some (.int res.1)) (V res.2) → mC ρ (n + d + 2) 160 [.ref qX] (V s) Q) {R3 : mS → Option (Int32 × mS)} (hR3 : ∀ {s : mS} {res : (Int32 × mS)} {Q : mPo}, R3 s = some res → Q (some (.int res.1)) (V res.2) → mC ρ (n + d + 2) 161 [.ref qX] (V s) Q) {R4 : mS → Option (Int32 × mS)} (hR4 : ∀ {s : mS} {res : (Int32 × mS)} {Q : mPo}, R4 s = some res → Q (some (.int res.1)) (V res.2) → mC ρ (n + d + 2) 162 [.ref qX] (V s) Q) {R5 : mS → Option (Int32 × mS)} (hR5 : ∀ {s : mS} {res : (Int32 × mS)} {Q : mPo}, R5 s = some res → Q (some (.int res.1)) (V res.2) → mC ρ (n + d + 2) 164 [.ref qX] (V s) Q)  {res : (Int32 × mS)} (hP : P (some (.int res.1)) (V res.2)) (y1 : Int32) (y2 : Int32) (s : mS) (hf : gX11_one_b104 R0 R1 R2 R3 R4 R5 y1 y2 s = some res) : mG ρ (mC ρ (n + d + 2)) 11 5 cX11_one (some .int) P 104 [(0, .ref qX), (1, .int y1), (2, .int y2)] [] (V s) := by
  unfold gX11_one_b104 at hf
  refine e_aload_n 0 dX11_one_104 rfl rfl ?_
  refine e_dup dX11_one_105 rfl ?_
  refine e_geti hV dX11_one_106 rfl lx_X rfl ?_
  refine e_iconst (w := (nI 1)) dX11_one_109 (by decide) ?_
  refine e_isub dX11_one_110 ?_
  refine e_puti hV dX11_one_111 rfl rfl rfl (Or.inl rfl) lx_X rfl hf (fun s8 hf => ?_)
  refine e_iload_n 1 dX11_one_114 rfl rfl ?_
  refine e_bipush (w := (nI 40)) dX11_one_115 (by decide) ?_
  refine e_icmp_ne 124 dX11_one_117 (by decide) hf (fun hf => ?_) (fun hf => ?_)
  · refine e_iload_n 1 dX11_one_124 rfl rfl ?_
    refine e_bipush (w := (nI 45)) dX11_one_125 (by decide) ?_
    refine e_icmp_ne 135 dX11_one_127 (by decide) hf (fun hf => ?_) (fun hf => ?_)
    · refine e_iload_n 2 dX11_one_135 rfl rfl ?_
      refine e_if_ne 143 dX11_one_136 (by decide) hf (fun hf => ?_) (fun hf => ?_)
      · refine e_iconst (w := (nI 0)) dX11_one_143 (by decide) ?_
        obtain rfl := Option.some.inj hf
        exact e_iret dX11_one_144 trivial hP
      · refine e_iconst (w := (nI 1)) dX11_one_139 (by decide) ?_
        refine e_goto 144 dX11_one_140 (by decide) ?_
        obtain rfl := Option.some.inj hf
        exact e_iret dX11_one_144 trivial hP
    · refine e_iload_n 2 dX11_one_130 rfl rfl ?_
      refine e_ineg dX11_one_131 ?_
      refine e_goto 144 dX11_one_132 (by decide) ?_
      obtain rfl := Option.some.inj hf
      exact e_iret dX11_one_144 trivial hP
  · refine e_iload_n 2 dX11_one_120 rfl rfl ?_
    refine e_goto 144 dX11_one_121 (by decide) ?_
    obtain rfl := Option.some.inj hf
    exact e_iret dX11_one_144 trivial hP
set_option maxRecDepth 20000 in
theorem wX11_one_b83 {ρ : mRo} {n d : Nat} {P : mPo} {V : mS → List mE} (hV : mView LX V) {R0 : mS → Option (Int32 × mS)} (hR0 : ∀ {s : mS} {res : (Int32 × mS)} {Q : mPo}, R0 s = some res → Q (some (.int res.1)) (V res.2) → mC ρ (n + d + 2) 158 [.ref qX] (V s) Q) {R1 : mS → Option (Int32 × mS)} (hR1 : ∀ {s : mS} {res : (Int32 × mS)} {Q : mPo}, R1 s = some res → Q (some (.int res.1)) (V res.2) → mC ρ (n + d + 2) 159 [.ref qX] (V s) Q) {R2 : mS → Option (Int32 × mS)} (hR2 : ∀ {s : mS} {res : (Int32 × mS)} {Q : mPo}, R2 s = some res → Q (some (.int res.1)) (V res.2) → mC ρ (n + d + 2) 160 [.ref qX] (V s) Q) {R3 : mS → Option (Int32 × mS)} (hR3 : ∀ {s : mS} {res : (Int32 × mS)} {Q : mPo}, R3 s = some res → Q (some (.int res.1)) (V res.2) → mC ρ (n + d + 2) 161 [.ref qX] (V s) Q) {R4 : mS → Option (Int32 × mS)} (hR4 : ∀ {s : mS} {res : (Int32 × mS)} {Q : mPo}, R4 s = some res → Q (some (.int res.1)) (V res.2) → mC ρ (n + d + 2) 162 [.ref qX] (V s) Q) {R5 : mS → Option (Int32 × mS)} (hR5 : ∀ {s : mS} {res : (Int32 × mS)} {Q : mPo}, R5 s = some res → Q (some (.int res.1)) (V res.2) → mC ρ (n + d + 2) 164 [.ref qX] (V s) Q)  {res : (Int32 × mS)} (hP : P (some (.int res.1)) (V res.2)) (y1 : Int32) (z0 : Int32) (s : mS) (hf : gX11_one_b83 R0 R1 R2 R3 R4 R5 y1 z0 s = some res) : mG ρ (mC ρ (n + d + 2)) 11 5 cX11_one (some .int) P 83 [(0, .ref qX), (1, .int y1)] [.int z0] (V s) := by
  unfold gX11_one_b83 at hf
  refine e_istore_n dX11_one_83 rfl (by decide) hf (fun v7 hf => ?_)
  refine e_iload_n 2 dX11_one_84 rfl rfl ?_
  refine e_bipush (w := (nI 40)) dX11_one_85 (by decide) ?_
  refine e_icmp_ne 104 dX11_one_87 (by decide) hf (fun hf => ?_) (fun hf => ?_)
  · refine e_pick [1, 2, 0] rfl ?_
    exact wX11_one_b104 hV hR0 hR1 hR2 hR3 hR4 hR5 hP y1 v7 s hf
  · refine e_aload_n 1 dX11_one_90 rfl rfl ?_
    refine e_bipush (w := (nI 41)) dX11_one_91 (by decide) ?_
    obtain ⟨r9, s10, hg, hf⟩ := bP_some hf
    refine e_callV (as := [.int (nI 41)]) (v := (some (.int r9))) (s' := s10) hV dX11_one_93 (Or.inl rfl) rfl rfl rfl rfl (Nat.le_of_ble_eq_true rfl) lx_X rfl rfl (fun Q hQ => tX11_takes (d := (n + d)) hV  hg hQ) ?_
    refine e_if_ne 104 dX11_one_96 (by decide) hf (fun hf => ?_) (fun hf => ?_)
    · refine e_pick [1, 2, 0] rfl ?_
      exact wX11_one_b104 hV hR0 hR1 hR2 hR3 hR4 hR5 hP y1 v7 s10 hf
    · refine e_aload_n 1 dX11_one_99 rfl rfl ?_
      obtain ⟨r11, s12, hg, hf⟩ := bP_some hf
      refine e_callV (as := []) (v := (some (.int r11))) (s' := s12) hV dX11_one_100 (Or.inl rfl) rfl rfl rfl rfl (Nat.le_of_ble_eq_true rfl) lx_X rfl rfl (fun Q hQ => tX11_wrong (d := (n + d + 1)) hV  hg hQ) ?_
      obtain rfl := Option.some.inj hf
      exact e_iret dX11_one_103 trivial hP
set_option maxRecDepth 20000 in
theorem wX11_one_b32 {ρ : mRo} {n d : Nat} {P : mPo} {V : mS → List mE} (hV : mView LX V) {R0 : mS → Option (Int32 × mS)} (hR0 : ∀ {s : mS} {res : (Int32 × mS)} {Q : mPo}, R0 s = some res → Q (some (.int res.1)) (V res.2) → mC ρ (n + d + 2) 158 [.ref qX] (V s) Q) {R1 : mS → Option (Int32 × mS)} (hR1 : ∀ {s : mS} {res : (Int32 × mS)} {Q : mPo}, R1 s = some res → Q (some (.int res.1)) (V res.2) → mC ρ (n + d + 2) 159 [.ref qX] (V s) Q) {R2 : mS → Option (Int32 × mS)} (hR2 : ∀ {s : mS} {res : (Int32 × mS)} {Q : mPo}, R2 s = some res → Q (some (.int res.1)) (V res.2) → mC ρ (n + d + 2) 160 [.ref qX] (V s) Q) {R3 : mS → Option (Int32 × mS)} (hR3 : ∀ {s : mS} {res : (Int32 × mS)} {Q : mPo}, R3 s = some res → Q (some (.int res.1)) (V res.2) → mC ρ (n + d + 2) 161 [.ref qX] (V s) Q) {R4 : mS → Option (Int32 × mS)} (hR4 : ∀ {s : mS} {res : (Int32 × mS)} {Q : mPo}, R4 s = some res → Q (some (.int res.1)) (V res.2) → mC ρ (n + d + 2) 162 [.ref qX] (V s) Q) {R5 : mS → Option (Int32 × mS)} (hR5 : ∀ {s : mS} {res : (Int32 × mS)} {Q : mPo}, R5 s = some res → Q (some (.int res.1)) (V res.2) → mC ρ (n + d + 2) 164 [.ref qX] (V s) Q)  {res : (Int32 × mS)} (hP : P (some (.int res.1)) (V res.2)) (y1 : Int32) (s : mS) (hf : gX11_one_b32 R0 R1 R2 R3 R4 R5 y1 s = some res) : mG ρ (mC ρ (n + d + 2)) 11 5 cX11_one (some .int) P 32 [(0, .ref qX), (1, .int y1)] [] (V s) := by
  unfold gX11_one_b32 at hf
  refine e_aload_n 0 dX11_one_32 rfl rfl ?_
  refine e_geti hV dX11_one_33 rfl lx_X rfl ?_
  refine e_bipush (w := (nI 6)) dX11_one_36 (by decide) ?_
  refine e_icmp_ne 46 dX11_one_38 (by decide) hf (fun hf => ?_) (fun hf => ?_)
  · refine e_aload_n 0 dX11_one_46 rfl rfl ?_
    refine e_dup dX11_one_47 rfl ?_
    refine e_geti hV dX11_one_48 rfl lx_X rfl ?_
    refine e_iconst (w := (nI 1)) dX11_one_51 (by decide) ?_
    refine e_iadd dX11_one_52 ?_
    refine e_puti hV dX11_one_53 rfl rfl rfl (Or.inl rfl) lx_X rfl hf (fun s3 hf => ?_)
    refine e_aload_n 0 dX11_one_56 rfl rfl ?_
    refine e_dup dX11_one_57 rfl ?_
    refine e_geti hV dX11_one_58 rfl lx_X rfl ?_
    refine e_iconst (w := (nI 1)) dX11_one_61 (by decide) ?_
    refine e_iadd dX11_one_62 ?_
    refine e_puti hV dX11_one_63 rfl rfl rfl (Or.inl rfl) lx_X rfl hf (fun s4 hf => ?_)
    refine e_iload_n 1 dX11_one_66 rfl rfl ?_
    refine e_bipush (w := (nI 40)) dX11_one_67 (by decide) ?_
    refine e_icmp_ne 79 dX11_one_69 (by decide) hf (fun hf => ?_) (fun hf => ?_)
    · refine e_aload_n 0 dX11_one_79 rfl rfl ?_
      obtain ⟨r5, s6, hg, hf⟩ := bP_some hf
      refine e_callV (as := []) (v := (some (.int r5))) (s' := s6) hV dX11_one_80 (Or.inl rfl) rfl rfl rfl rfl (Nat.le_of_ble_eq_true rfl) lx_X rfl rfl (fun Q hQ => hR5 hg hQ) ?_
      refine e_pick [0, 1] rfl ?_
      exact wX11_one_b83 hV hR0 hR1 hR2 hR3 hR4 hR5 hP y1 r5 s6 hf
    · refine e_aload_n 0 dX11_one_72 rfl rfl ?_
      obtain ⟨r13, s14, hg, hf⟩ := bP_some hf
      refine e_callV (as := []) (v := (some (.int r13))) (s' := s14) hV dX11_one_73 (Or.inl rfl) rfl rfl rfl rfl (Nat.le_of_ble_eq_true rfl) lx_X rfl rfl (fun Q hQ => hR0 hg hQ) ?_
      refine e_goto 83 dX11_one_76 (by decide) ?_
      refine e_pick [0, 1] rfl ?_
      exact wX11_one_b83 hV hR0 hR1 hR2 hR3 hR4 hR5 hP y1 r13 s14 hf
  · refine e_aload_n 0 dX11_one_41 rfl rfl ?_
    obtain ⟨r15, s16, hg, hf⟩ := bP_some hf
    refine e_callV (as := []) (v := (some (.int r15))) (s' := s16) hV dX11_one_42 (Or.inl rfl) rfl rfl rfl rfl (Nat.le_of_ble_eq_true rfl) lx_X rfl rfl (fun Q hQ => tX11_wrong (d := (n + d + 1)) hV  hg hQ) ?_
    obtain rfl := Option.some.inj hf
    exact e_iret dX11_one_45 trivial hP
set_option maxRecDepth 20000 in
theorem wX11_one_b229 {ρ : mRo} {n d : Nat} {P : mPo} {V : mS → List mE} (hV : mView LX V) {R0 : mS → Option (Int32 × mS)} (hR0 : ∀ {s : mS} {res : (Int32 × mS)} {Q : mPo}, R0 s = some res → Q (some (.int res.1)) (V res.2) → mC ρ (n + d + 2) 158 [.ref qX] (V s) Q) {R1 : mS → Option (Int32 × mS)} (hR1 : ∀ {s : mS} {res : (Int32 × mS)} {Q : mPo}, R1 s = some res → Q (some (.int res.1)) (V res.2) → mC ρ (n + d + 2) 159 [.ref qX] (V s) Q) {R2 : mS → Option (Int32 × mS)} (hR2 : ∀ {s : mS} {res : (Int32 × mS)} {Q : mPo}, R2 s = some res → Q (some (.int res.1)) (V res.2) → mC ρ (n + d + 2) 160 [.ref qX] (V s) Q) {R3 : mS → Option (Int32 × mS)} (hR3 : ∀ {s : mS} {res : (Int32 × mS)} {Q : mPo}, R3 s = some res → Q (some (.int res.1)) (V res.2) → mC ρ (n + d + 2) 161 [.ref qX] (V s) Q) {R4 : mS → Option (Int32 × mS)} (hR4 : ∀ {s : mS} {res : (Int32 × mS)} {Q : mPo}, R4 s = some res → Q (some (.int res.1)) (V res.2) → mC ρ (n + d + 2) 162 [.ref qX] (V s) Q) {R5 : mS → Option (Int32 × mS)} (hR5 : ∀ {s : mS} {res : (Int32 × mS)} {Q : mPo}, R5 s = some res → Q (some (.int res.1)) (V res.2) → mC ρ (n + d + 2) 164 [.ref qX] (V s) Q)  {res : (Int32 × mS)} (hP : P (some (.int res.1)) (V res.2)) (y3 : Int32) (y4 : Int32) (s : mS) (hf : gX11_one_b229 R0 R1 R2 R3 R4 R5 y3 y4 s = some res) : mG ρ (mC ρ (n + d + 2)) 11 5 cX11_one (some .int) P 229 [(0, .ref qX), (3, .int y3), (4, .int y4)] [] (V s) := by
  unfold gX11_one_b229 at hf
  refine e_iload 2 dX11_one_229 rfl ?_
  refine e_if_ne 241 dX11_one_231 (by decide) hf (fun hf => ?_) (fun hf => ?_)
  · refine e_iload_n 1 dX11_one_241 rfl rfl ?_
    obtain rfl := Option.some.inj hf
    exact e_iret dX11_one_242 trivial hP
  · refine e_aload_n 0 dX11_one_234 rfl rfl ?_
    obtain ⟨r21, s22, hg, hf⟩ := bP_some hf
    refine e_callV (as := []) (v := (some (.int r21))) (s' := s22) hV dX11_one_235 (Or.inl rfl) rfl rfl rfl rfl (Nat.le_of_ble_eq_true rfl) lx_X rfl rfl (fun Q hQ => tX11_wrong (d := (n + d + 1)) hV  hg hQ) ?_
    refine e_goto 242 dX11_one_238 (by decide) ?_
    obtain rfl := Option.some.inj hf
    exact e_iret dX11_one_242 trivial hP
set_option maxRecDepth 20000 in
theorem wX11_one_b176 {ρ : mRo} {n d : Nat} {P : mPo} {V : mS → List mE} (hV : mView LX V) {R0 : mS → Option (Int32 × mS)} (hR0 : ∀ {s : mS} {res : (Int32 × mS)} {Q : mPo}, R0 s = some res → Q (some (.int res.1)) (V res.2) → mC ρ (n + d + 2) 158 [.ref qX] (V s) Q) {R1 : mS → Option (Int32 × mS)} (hR1 : ∀ {s : mS} {res : (Int32 × mS)} {Q : mPo}, R1 s = some res → Q (some (.int res.1)) (V res.2) → mC ρ (n + d + 2) 159 [.ref qX] (V s) Q) {R2 : mS → Option (Int32 × mS)} (hR2 : ∀ {s : mS} {res : (Int32 × mS)} {Q : mPo}, R2 s = some res → Q (some (.int res.1)) (V res.2) → mC ρ (n + d + 2) 160 [.ref qX] (V s) Q) {R3 : mS → Option (Int32 × mS)} (hR3 : ∀ {s : mS} {res : (Int32 × mS)} {Q : mPo}, R3 s = some res → Q (some (.int res.1)) (V res.2) → mC ρ (n + d + 2) 161 [.ref qX] (V s) Q) {R4 : mS → Option (Int32 × mS)} (hR4 : ∀ {s : mS} {res : (Int32 × mS)} {Q : mPo}, R4 s = some res → Q (some (.int res.1)) (V res.2) → mC ρ (n + d + 2) 162 [.ref qX] (V s) Q) {R5 : mS → Option (Int32 × mS)} (hR5 : ∀ {s : mS} {res : (Int32 × mS)} {Q : mPo}, R5 s = some res → Q (some (.int res.1)) (V res.2) → mC ρ (n + d + 2) 164 [.ref qX] (V s) Q)  {res : (Int32 × mS)} (hP : P (some (.int res.1)) (V res.2)) : ∀ (k : Nat) (y3 : Int32) (y4 : Int32) (s : mS), gX11_one_b176 R0 R1 R2 R3 R4 R5 k y3 y4 s = some res → mG ρ (mC ρ (n + d + 2)) 11 5 cX11_one (some .int) P 176 [(0, .ref qX), (3, .int y3), (4, .int y4)] [] (V s) := by
  intro k
  induction k with
  | zero => intro y3 y4 s hf; rw [gX11_one_b176] at hf; cases hf
  | succ k ih =>
    intro y3 y4 s hf
    rw [gX11_one_b176] at hf
    refine e_iload 2 dX11_one_176 rfl ?_
    refine e_iconst (w := (nI 4)) dX11_one_178 (by decide) ?_
    refine e_icmp_ge 229 dX11_one_179 (by decide) hf (fun hf => ?_) (fun hf => ?_)
    · refine e_pick [0, 1, 2] rfl ?_
      exact wX11_one_b229 hV hR0 hR1 hR2 hR3 hR4 hR5 hP y3 y4 s hf
    · refine e_aload_n 0 dX11_one_182 rfl rfl ?_
      obtain ⟨r23, hg, hf⟩ := bO_some hf
      refine e_callV (as := []) (v := (some (.int r23))) (s' := s) hV dX11_one_183 (Or.inl rfl) rfl rfl rfl rfl (Nat.le_of_ble_eq_true rfl) lx_X rfl rfl (fun Q hQ => tX11_byteAt (d := (n + d + 1)) hV  hg hQ) ?_
      refine e_bipush (w := (nI 48)) dX11_one_186 (by decide) ?_
      refine e_icmp_lt 229 dX11_one_188 (by decide) hf (fun hf => ?_) (fun hf => ?_)
      · refine e_pick [0, 1, 2] rfl ?_
        exact wX11_one_b229 hV hR0 hR1 hR2 hR3 hR4 hR5 hP y3 y4 s hf
      · refine e_aload_n 0 dX11_one_191 rfl rfl ?_
        obtain ⟨r24, hg, hf⟩ := bO_some hf
        refine e_callV (as := []) (v := (some (.int r24))) (s' := s) hV dX11_one_192 (Or.inl rfl) rfl rfl rfl rfl (Nat.le_of_ble_eq_true rfl) lx_X rfl rfl (fun Q hQ => tX11_byteAt (d := (n + d + 1)) hV  hg hQ) ?_
        refine e_bipush (w := (nI 57)) dX11_one_195 (by decide) ?_
        refine e_icmp_gt 229 dX11_one_197 (by decide) hf (fun hf => ?_) (fun hf => ?_)
        · refine e_pick [0, 1, 2] rfl ?_
          exact wX11_one_b229 hV hR0 hR1 hR2 hR3 hR4 hR5 hP y3 y4 s hf
        · refine e_bipush (w := (nI 10)) dX11_one_200 (by decide) ?_
          refine e_iload_n 1 dX11_one_202 rfl rfl ?_
          refine e_imul dX11_one_203 ?_
          refine e_aload_n 0 dX11_one_204 rfl rfl ?_
          obtain ⟨r25, hg, hf⟩ := bO_some hf
          refine e_callV (as := []) (v := (some (.int r25))) (s' := s) hV dX11_one_205 (Or.inl rfl) rfl rfl rfl rfl (Nat.le_of_ble_eq_true rfl) lx_X rfl rfl (fun Q hQ => tX11_byteAt (d := (n + d + 1)) hV  hg hQ) ?_
          refine e_iadd dX11_one_208 ?_
          refine e_bipush (w := (nI 48)) dX11_one_209 (by decide) ?_
          refine e_isub dX11_one_211 ?_
          refine e_istore_n dX11_one_212 rfl (by decide) hf (fun v26 hf => ?_)
          refine e_iinc 2 dX11_one_213 (by decide) rfl hf (fun v27 hf => ?_)
          refine e_aload_n 2 dX11_one_216 rfl rfl ?_
          refine e_dup dX11_one_217 rfl ?_
          refine e_geti hV dX11_one_218 rfl lx_X rfl ?_
          refine e_iconst (w := (nI 1)) dX11_one_221 (by decide) ?_
          refine e_iadd dX11_one_222 ?_
          refine e_puti hV dX11_one_223 rfl rfl rfl (Or.inl rfl) lx_X rfl hf (fun s28 hf => ?_)
          refine e_goto 176 dX11_one_226 (by decide) ?_
          refine e_pick [2, 1, 0] rfl ?_
          exact ih v26 v27 s28 hf
set_option maxRecDepth 20000 in
theorem uX11_one {ρ : mRo} {n d : Nat} {P : mPo} {V : mS → List mE} (hV : mView LX V) {R0 : mS → Option (Int32 × mS)} (hR0 : ∀ {s : mS} {res : (Int32 × mS)} {Q : mPo}, R0 s = some res → Q (some (.int res.1)) (V res.2) → mC ρ (n + d + 2) 158 [.ref qX] (V s) Q) {R1 : mS → Option (Int32 × mS)} (hR1 : ∀ {s : mS} {res : (Int32 × mS)} {Q : mPo}, R1 s = some res → Q (some (.int res.1)) (V res.2) → mC ρ (n + d + 2) 159 [.ref qX] (V s) Q) {R2 : mS → Option (Int32 × mS)} (hR2 : ∀ {s : mS} {res : (Int32 × mS)} {Q : mPo}, R2 s = some res → Q (some (.int res.1)) (V res.2) → mC ρ (n + d + 2) 160 [.ref qX] (V s) Q) {R3 : mS → Option (Int32 × mS)} (hR3 : ∀ {s : mS} {res : (Int32 × mS)} {Q : mPo}, R3 s = some res → Q (some (.int res.1)) (V res.2) → mC ρ (n + d + 2) 161 [.ref qX] (V s) Q) {R4 : mS → Option (Int32 × mS)} (hR4 : ∀ {s : mS} {res : (Int32 × mS)} {Q : mPo}, R4 s = some res → Q (some (.int res.1)) (V res.2) → mC ρ (n + d + 2) 162 [.ref qX] (V s) Q) {R5 : mS → Option (Int32 × mS)} (hR5 : ∀ {s : mS} {res : (Int32 × mS)} {Q : mPo}, R5 s = some res → Q (some (.int res.1)) (V res.2) → mC ρ (n + d + 2) 164 [.ref qX] (V s) Q)  {s : mS} {res : (Int32 × mS)} (hf : gX11_one R0 R1 R2 R3 R4 R5 s = some res) (hP : P (some (.int res.1)) (V res.2)) : mC ρ (n + d + 2 + 1) 164 [.ref qX] (V s) P := by
  refine ⟨_, rfl, Nat.le_of_ble_eq_true rfl, by decide, ?_⟩
  show mG ρ (mC ρ (n + d + 2)) 11 5 cX11_one (some .int) P 0 [(0, .ref qX)] [] (V s)
  unfold gX11_one at hf
  refine e_aload_n 0 dX11_one_0 rfl rfl ?_
  refine e_geti hV dX11_one_1 rfl lx_X rfl ?_
  refine e_if_lt 9 dX11_one_4 (by decide) hf (fun hf => ?_) (fun hf => ?_)
  · refine e_aload_n 0 dX11_one_9 rfl rfl ?_
    obtain ⟨r1, hg, hf⟩ := bO_some hf
    refine e_callV (as := []) (v := (some (.int r1))) (s' := s) hV dX11_one_10 (Or.inl rfl) rfl rfl rfl rfl (Nat.le_of_ble_eq_true rfl) lx_X rfl rfl (fun Q hQ => tX11_byteAt (d := (n + d + 1)) hV  hg hQ) ?_
    refine e_istore_n dX11_one_13 rfl (by decide) hf (fun v2 hf => ?_)
    refine e_iload_n 0 dX11_one_14 rfl rfl ?_
    refine e_bipush (w := (nI 33)) dX11_one_15 (by decide) ?_
    refine e_icmp_eq 32 dX11_one_17 (by decide) hf (fun hf => ?_) (fun hf => ?_)
    · refine e_pick [1, 0] rfl ?_
      exact wX11_one_b32 hV hR0 hR1 hR2 hR3 hR4 hR5 hP v2 s hf
    · refine e_iload_n 0 dX11_one_20 rfl rfl ?_
      refine e_bipush (w := (nI 45)) dX11_one_21 (by decide) ?_
      refine e_icmp_eq 32 dX11_one_23 (by decide) hf (fun hf => ?_) (fun hf => ?_)
      · refine e_pick [1, 0] rfl ?_
        exact wX11_one_b32 hV hR0 hR1 hR2 hR3 hR4 hR5 hP v2 s hf
      · refine e_iload_n 0 dX11_one_26 rfl rfl ?_
        refine e_bipush (w := (nI 40)) dX11_one_27 (by decide) ?_
        refine e_icmp_ne 145 dX11_one_29 (by decide) hf (fun hf => ?_) (fun hf => ?_)
        · refine e_iload_n 0 dX11_one_145 rfl rfl ?_
          obtain ⟨r17, hg, hf⟩ := bO_some hf
          refine e_callS (as := [.int v2]) (v := (some (.int r17))) (s' := s) dX11_one_146 rfl rfl rfl rfl rfl (Nat.le_of_ble_eq_true rfl) (fun Q hQ => tX11_nameOf (d := (n + d + 1)) hV  hg hQ) ?_
          refine e_istore_n dX11_one_149 rfl (by decide) hf (fun v18 hf => ?_)
          refine e_iload_n 0 dX11_one_150 rfl rfl ?_
          refine e_if_lt 171 dX11_one_151 (by decide) hf (fun hf => ?_) (fun hf => ?_)
          · refine e_iconst (w := (nI 0)) dX11_one_171 (by decide) ?_
            refine e_istore_n dX11_one_172 rfl (by decide) hf (fun v19 hf => ?_)
            refine e_iconst (w := (nI 0)) dX11_one_173 (by decide) ?_
            refine e_istore dX11_one_174 (by decide) hf (fun v20 hf => ?_)
            refine e_pick [4, 1, 0] rfl ?_
            exact wX11_one_b176 hV hR0 hR1 hR2 hR3 hR4 hR5 hP mFu v19 v20 s hf
          · refine e_aload_n 2 dX11_one_154 rfl rfl ?_
            refine e_dup dX11_one_155 rfl ?_
            refine e_geti hV dX11_one_156 rfl lx_X rfl ?_
            refine e_iconst (w := (nI 1)) dX11_one_159 (by decide) ?_
            refine e_iadd dX11_one_160 ?_
            refine e_puti hV dX11_one_161 rfl rfl rfl (Or.inl rfl) lx_X rfl hf (fun s29 hf => ?_)
            refine e_aload_n 2 dX11_one_164 rfl rfl ?_
            refine e_getr hV dX11_one_165 rfl lx_X rfl ?_
            refine e_iload_n 0 dX11_one_168 rfl rfl ?_
            refine e_iald hV dX11_one_169 lx_X_names hf (fun v30 hf => ?_)
            obtain rfl := Option.some.inj hf
            exact e_iret dX11_one_170 trivial hP
        · refine e_pick [1, 0] rfl ?_
          exact wX11_one_b32 hV hR0 hR1 hR2 hR3 hR4 hR5 hP v2 s hf
  · refine e_iconst (w := (nI 0)) dX11_one_7 (by decide) ?_
    obtain rfl := Option.some.inj hf
    exact e_iret dX11_one_8 trivial hP

theorem dX11_product_0 : decode cX11_product 0 = .ok (.aload_n 0, 1) := by decide +kernel
theorem dX11_product_1 : decode cX11_product 1 = .ok (.invokevirtual 176, 3) := by decide +kernel
theorem dX11_product_4 : decode cX11_product 4 = .ok (.istore_n 1, 1) := by decide +kernel
theorem dX11_product_5 : decode cX11_product 5 = .ok (.aload_n 0, 1) := by decide +kernel
theorem dX11_product_6 : decode cX11_product 6 = .ok (.invokevirtual 157, 3) := by decide +kernel
theorem dX11_product_9 : decode cX11_product 9 = .ok (.istore_n 2, 1) := by decide +kernel
theorem dX11_product_10 : decode cX11_product 10 = .ok (.aload_n 0, 1) := by decide +kernel
theorem dX11_product_11 : decode cX11_product 11 = .ok (.getfield 154, 3) := by decide +kernel
theorem dX11_product_14 : decode cX11_product 14 = .ok (.ifCond .ge 80, 3) := by decide +kernel
theorem dX11_product_17 : decode cX11_product 17 = .ok (.iload_n 2, 1) := by decide +kernel
theorem dX11_product_18 : decode cX11_product 18 = .ok (.bipush 42, 2) := by decide +kernel
theorem dX11_product_20 : decode cX11_product 20 = .ok (.if_icmp .eq 15, 3) := by decide +kernel
theorem dX11_product_23 : decode cX11_product 23 = .ok (.iload_n 2, 1) := by decide +kernel
theorem dX11_product_24 : decode cX11_product 24 = .ok (.bipush 47, 2) := by decide +kernel
theorem dX11_product_26 : decode cX11_product 26 = .ok (.if_icmp .eq 9, 3) := by decide +kernel
theorem dX11_product_29 : decode cX11_product 29 = .ok (.iload_n 2, 1) := by decide +kernel
theorem dX11_product_30 : decode cX11_product 30 = .ok (.bipush 37, 2) := by decide +kernel
theorem dX11_product_32 : decode cX11_product 32 = .ok (.if_icmp .ne 62, 3) := by decide +kernel
theorem dX11_product_35 : decode cX11_product 35 = .ok (.aload_n 0, 1) := by decide +kernel
theorem dX11_product_36 : decode cX11_product 36 = .ok (.dup, 1) := by decide +kernel
theorem dX11_product_37 : decode cX11_product 37 = .ok (.getfield 145, 3) := by decide +kernel
theorem dX11_product_40 : decode cX11_product 40 = .ok (.iconst 1, 1) := by decide +kernel
theorem dX11_product_41 : decode cX11_product 41 = .ok (.iadd, 1) := by decide +kernel
theorem dX11_product_42 : decode cX11_product 42 = .ok (.putfield 145, 3) := by decide +kernel
theorem dX11_product_45 : decode cX11_product 45 = .ok (.aload_n 0, 1) := by decide +kernel
theorem dX11_product_46 : decode cX11_product 46 = .ok (.invokevirtual 176, 3) := by decide +kernel
theorem dX11_product_49 : decode cX11_product 49 = .ok (.istore_n 3, 1) := by decide +kernel
theorem dX11_product_50 : decode cX11_product 50 = .ok (.iload_n 2, 1) := by decide +kernel
theorem dX11_product_51 : decode cX11_product 51 = .ok (.bipush 42, 2) := by decide +kernel
theorem dX11_product_53 : decode cX11_product 53 = .ok (.if_icmp .ne 9, 3) := by decide +kernel
theorem dX11_product_56 : decode cX11_product 56 = .ok (.iload_n 1, 1) := by decide +kernel
theorem dX11_product_57 : decode cX11_product 57 = .ok (.iload_n 3, 1) := by decide +kernel
theorem dX11_product_58 : decode cX11_product 58 = .ok (.imul, 1) := by decide +kernel
theorem dX11_product_59 : decode cX11_product 59 = .ok (.goto 26, 3) := by decide +kernel
theorem dX11_product_62 : decode cX11_product 62 = .ok (.iload_n 3, 1) := by decide +kernel
theorem dX11_product_63 : decode cX11_product 63 = .ok (.ifCond .ne 7, 3) := by decide +kernel
theorem dX11_product_66 : decode cX11_product 66 = .ok (.iconst 0, 1) := by decide +kernel
theorem dX11_product_67 : decode cX11_product 67 = .ok (.goto 18, 3) := by decide +kernel
theorem dX11_product_70 : decode cX11_product 70 = .ok (.iload_n 2, 1) := by decide +kernel
theorem dX11_product_71 : decode cX11_product 71 = .ok (.bipush 47, 2) := by decide +kernel
theorem dX11_product_73 : decode cX11_product 73 = .ok (.if_icmp .ne 9, 3) := by decide +kernel
theorem dX11_product_76 : decode cX11_product 76 = .ok (.iload_n 1, 1) := by decide +kernel
theorem dX11_product_77 : decode cX11_product 77 = .ok (.iload_n 3, 1) := by decide +kernel
theorem dX11_product_78 : decode cX11_product 78 = .ok (.idiv, 1) := by decide +kernel
theorem dX11_product_79 : decode cX11_product 79 = .ok (.goto 6, 3) := by decide +kernel
theorem dX11_product_82 : decode cX11_product 82 = .ok (.iload_n 1, 1) := by decide +kernel
theorem dX11_product_83 : decode cX11_product 83 = .ok (.iload_n 3, 1) := by decide +kernel
theorem dX11_product_84 : decode cX11_product 84 = .ok (.irem, 1) := by decide +kernel
theorem dX11_product_85 : decode cX11_product 85 = .ok (.istore_n 1, 1) := by decide +kernel
theorem dX11_product_86 : decode cX11_product 86 = .ok (.aload_n 0, 1) := by decide +kernel
theorem dX11_product_87 : decode cX11_product 87 = .ok (.invokevirtual 157, 3) := by decide +kernel
theorem dX11_product_90 : decode cX11_product 90 = .ok (.istore_n 2, 1) := by decide +kernel
theorem dX11_product_91 : decode cX11_product 91 = .ok (.goto (-81), 3) := by decide +kernel
theorem dX11_product_94 : decode cX11_product 94 = .ok (.iload_n 1, 1) := by decide +kernel
theorem dX11_product_95 : decode cX11_product 95 = .ok (.ireturn, 1) := by decide +kernel
def gX11_product_b85 (R0 : mS → Option (Int32 × mS)) (R1 : mS → Option (Int32 × mS)) (R2 : mS → Option (Int32 × mS)) (R3 : mS → Option (Int32 × mS)) (R4 : mS → Option (Int32 × mS)) (R5 : mS → Option (Int32 × mS)) (K10 : Int32 → Int32 → mS → Option (Int32 × mS)) (z0 : Int32) (s : mS) : Option (Int32 × mS) :=
  bnd z0 fun v11 =>
  bO (fX11_byteAt s) fun r12 =>
  bnd r12 fun v13 =>
  K10 v11 v13 s

def gX11_product_b35 (R0 : mS → Option (Int32 × mS)) (R1 : mS → Option (Int32 × mS)) (R2 : mS → Option (Int32 × mS)) (R3 : mS → Option (Int32 × mS)) (R4 : mS → Option (Int32 × mS)) (R5 : mS → Option (Int32 × mS)) (K10 : Int32 → Int32 → mS → Option (Int32 × mS)) (y1 : Int32) (y2 : Int32) (s : mS) : Option (Int32 × mS) :=
  bnd (pI s iX_at ((gI s iX_at) + (nI 1))) fun s6 =>
  bP (R5 s6) fun r7 s8 =>
  bnd r7 fun v9 =>
  if y2 = (nI 42) then
    gX11_product_b85 R0 R1 R2 R3 R4 R5 K10 (y1 * v9) s8
  else
    if v9 = 0 then
      gX11_product_b85 R0 R1 R2 R3 R4 R5 K10 (nI 0) s8
    else
      if y2 = (nI 47) then
        dvI y1 v9 fun v14 =>
        gX11_product_b85 R0 R1 R2 R3 R4 R5 K10 v14 s8
      else
        rmI y1 v9 fun v10 =>
        gX11_product_b85 R0 R1 R2 R3 R4 R5 K10 v10 s8

def gX11_product_b10 (R0 : mS → Option (Int32 × mS)) (R1 : mS → Option (Int32 × mS)) (R2 : mS → Option (Int32 × mS)) (R3 : mS → Option (Int32 × mS)) (R4 : mS → Option (Int32 × mS)) (R5 : mS → Option (Int32 × mS)) : Nat → Int32 → Int32 → mS → Option (Int32 × mS)
  | 0, _, _, _ => none
  | k + 1, y1, y2, s =>
    if 0 ≤ (gI s iX_fault) then
      some (y1, s)
    else
      if y2 = (nI 42) then
        gX11_product_b35 R0 R1 R2 R3 R4 R5 (fun u0 u1 u2 => gX11_product_b10 R0 R1 R2 R3 R4 R5 k u0 u1 u2) y1 y2 s
      else
        if y2 = (nI 47) then
          gX11_product_b35 R0 R1 R2 R3 R4 R5 (fun u0 u1 u2 => gX11_product_b10 R0 R1 R2 R3 R4 R5 k u0 u1 u2) y1 y2 s
        else
          if y2 = (nI 37) then
            gX11_product_b35 R0 R1 R2 R3 R4 R5 (fun u0 u1 u2 => gX11_product_b10 R0 R1 R2 R3 R4 R5 k u0 u1 u2) y1 y2 s
          else
            some (y1, s)

def gX11_product (R0 : mS → Option (Int32 × mS)) (R1 : mS → Option (Int32 × mS)) (R2 : mS → Option (Int32 × mS)) (R3 : mS → Option (Int32 × mS)) (R4 : mS → Option (Int32 × mS)) (R5 : mS → Option (Int32 × mS)) (s : mS) : Option (Int32 × mS) :=
  bP (R5 s) fun r1 s2 =>
  bnd r1 fun v3 =>
  bO (fX11_byteAt s2) fun r4 =>
  bnd r4 fun v5 =>
  gX11_product_b10 R0 R1 R2 R3 R4 R5 mFu v3 v5 s2

set_option maxRecDepth 20000 in
theorem wX11_product_b85 {ρ : mRo} {n d : Nat} {P : mPo} {V : mS → List mE} (hV : mView LX V) {R0 : mS → Option (Int32 × mS)} (hR0 : ∀ {s : mS} {res : (Int32 × mS)} {Q : mPo}, R0 s = some res → Q (some (.int res.1)) (V res.2) → mC ρ (n + d + 2) 158 [.ref qX] (V s) Q) {R1 : mS → Option (Int32 × mS)} (hR1 : ∀ {s : mS} {res : (Int32 × mS)} {Q : mPo}, R1 s = some res → Q (some (.int res.1)) (V res.2) → mC ρ (n + d + 2) 159 [.ref qX] (V s) Q) {R2 : mS → Option (Int32 × mS)} (hR2 : ∀ {s : mS} {res : (Int32 × mS)} {Q : mPo}, R2 s = some res → Q (some (.int res.1)) (V res.2) → mC ρ (n + d + 2) 160 [.ref qX] (V s) Q) {R3 : mS → Option (Int32 × mS)} (hR3 : ∀ {s : mS} {res : (Int32 × mS)} {Q : mPo}, R3 s = some res → Q (some (.int res.1)) (V res.2) → mC ρ (n + d + 2) 161 [.ref qX] (V s) Q) {R4 : mS → Option (Int32 × mS)} (hR4 : ∀ {s : mS} {res : (Int32 × mS)} {Q : mPo}, R4 s = some res → Q (some (.int res.1)) (V res.2) → mC ρ (n + d + 2) 162 [.ref qX] (V s) Q) {R5 : mS → Option (Int32 × mS)} (hR5 : ∀ {s : mS} {res : (Int32 × mS)} {Q : mPo}, R5 s = some res → Q (some (.int res.1)) (V res.2) → mC ρ (n + d + 2) 164 [.ref qX] (V s) Q)  {res : (Int32 × mS)} {K10 : Int32 → Int32 → mS → Option (Int32 × mS)} (hK10 : ∀ (y1 : Int32) (y2 : Int32) (s : mS), K10 y1 y2 s = some res → mG ρ (mC ρ (n + d + 2)) 11 4 cX11_product (some .int) P 10 [(0, .ref qX), (1, .int y1), (2, .int y2)] [] (V s)) (hP : P (some (.int res.1)) (V res.2)) (z0 : Int32) (s : mS) (hf : gX11_product_b85 R0 R1 R2 R3 R4 R5 K10 z0 s = some res) : mG ρ (mC ρ (n + d + 2)) 11 4 cX11_product (some .int) P 85 [(0, .ref qX)] [.int z0] (V s) := by
  unfold gX11_product_b85 at hf
  refine e_istore_n dX11_product_85 rfl (by decide) hf (fun v11 hf => ?_)
  refine e_aload_n 1 dX11_product_86 rfl rfl ?_
  obtain ⟨r12, hg, hf⟩ := bO_some hf
  refine e_callV (as := []) (v := (some (.int r12))) (s' := s) hV dX11_product_87 (Or.inl rfl) rfl rfl rfl rfl (Nat.le_of_ble_eq_true rfl) lx_X rfl rfl (fun Q hQ => tX11_byteAt (d := (n + d + 1)) hV  hg hQ) ?_
  refine e_istore_n dX11_product_90 rfl (by decide) hf (fun v13 hf => ?_)
  refine e_goto 10 dX11_product_91 (by decide) ?_
  refine e_pick [2, 1, 0] rfl ?_
  exact hK10 v11 v13 s hf
set_option maxRecDepth 20000 in
theorem wX11_product_b35 {ρ : mRo} {n d : Nat} {P : mPo} {V : mS → List mE} (hV : mView LX V) {R0 : mS → Option (Int32 × mS)} (hR0 : ∀ {s : mS} {res : (Int32 × mS)} {Q : mPo}, R0 s = some res → Q (some (.int res.1)) (V res.2) → mC ρ (n + d + 2) 158 [.ref qX] (V s) Q) {R1 : mS → Option (Int32 × mS)} (hR1 : ∀ {s : mS} {res : (Int32 × mS)} {Q : mPo}, R1 s = some res → Q (some (.int res.1)) (V res.2) → mC ρ (n + d + 2) 159 [.ref qX] (V s) Q) {R2 : mS → Option (Int32 × mS)} (hR2 : ∀ {s : mS} {res : (Int32 × mS)} {Q : mPo}, R2 s = some res → Q (some (.int res.1)) (V res.2) → mC ρ (n + d + 2) 160 [.ref qX] (V s) Q) {R3 : mS → Option (Int32 × mS)} (hR3 : ∀ {s : mS} {res : (Int32 × mS)} {Q : mPo}, R3 s = some res → Q (some (.int res.1)) (V res.2) → mC ρ (n + d + 2) 161 [.ref qX] (V s) Q) {R4 : mS → Option (Int32 × mS)} (hR4 : ∀ {s : mS} {res : (Int32 × mS)} {Q : mPo}, R4 s = some res → Q (some (.int res.1)) (V res.2) → mC ρ (n + d + 2) 162 [.ref qX] (V s) Q) {R5 : mS → Option (Int32 × mS)} (hR5 : ∀ {s : mS} {res : (Int32 × mS)} {Q : mPo}, R5 s = some res → Q (some (.int res.1)) (V res.2) → mC ρ (n + d + 2) 164 [.ref qX] (V s) Q)  {res : (Int32 × mS)} {K10 : Int32 → Int32 → mS → Option (Int32 × mS)} (hK10 : ∀ (y1 : Int32) (y2 : Int32) (s : mS), K10 y1 y2 s = some res → mG ρ (mC ρ (n + d + 2)) 11 4 cX11_product (some .int) P 10 [(0, .ref qX), (1, .int y1), (2, .int y2)] [] (V s)) (hP : P (some (.int res.1)) (V res.2)) (y1 : Int32) (y2 : Int32) (s : mS) (hf : gX11_product_b35 R0 R1 R2 R3 R4 R5 K10 y1 y2 s = some res) : mG ρ (mC ρ (n + d + 2)) 11 4 cX11_product (some .int) P 35 [(0, .ref qX), (1, .int y1), (2, .int y2)] [] (V s) := by
  unfold gX11_product_b35 at hf
  refine e_aload_n 0 dX11_product_35 rfl rfl ?_
  refine e_dup dX11_product_36 rfl ?_
  refine e_geti hV dX11_product_37 rfl lx_X rfl ?_
  refine e_iconst (w := (nI 1)) dX11_product_40 (by decide) ?_
  refine e_iadd dX11_product_41 ?_
  refine e_puti hV dX11_product_42 rfl rfl rfl (Or.inl rfl) lx_X rfl hf (fun s6 hf => ?_)
  refine e_aload_n 0 dX11_product_45 rfl rfl ?_
  obtain ⟨r7, s8, hg, hf⟩ := bP_some hf
  refine e_callV (as := []) (v := (some (.int r7))) (s' := s8) hV dX11_product_46 (Or.inl rfl) rfl rfl rfl rfl (Nat.le_of_ble_eq_true rfl) lx_X rfl rfl (fun Q hQ => hR5 hg hQ) ?_
  refine e_istore_n dX11_product_49 rfl (by decide) hf (fun v9 hf => ?_)
  refine e_iload_n 3 dX11_product_50 rfl rfl ?_
  refine e_bipush (w := (nI 42)) dX11_product_51 (by decide) ?_
  refine e_icmp_ne 62 dX11_product_53 (by decide) hf (fun hf => ?_) (fun hf => ?_)
  · refine e_iload_n 0 dX11_product_62 rfl rfl ?_
    refine e_if_ne 70 dX11_product_63 (by decide) hf (fun hf => ?_) (fun hf => ?_)
    · refine e_iload_n 3 dX11_product_70 rfl rfl ?_
      refine e_bipush (w := (nI 47)) dX11_product_71 (by decide) ?_
      refine e_icmp_ne 82 dX11_product_73 (by decide) hf (fun hf => ?_) (fun hf => ?_)
      · refine e_iload_n 2 dX11_product_82 rfl rfl ?_
        refine e_iload_n 0 dX11_product_83 rfl rfl ?_
        refine e_iremb dX11_product_84 hf (fun v10 hf => ?_)
        refine e_pick [1] rfl ?_
        exact wX11_product_b85 hV hR0 hR1 hR2 hR3 hR4 hR5 hK10 hP v10 s8 hf
      · refine e_iload_n 2 dX11_product_76 rfl rfl ?_
        refine e_iload_n 0 dX11_product_77 rfl rfl ?_
        refine e_idivb dX11_product_78 hf (fun v14 hf => ?_)
        refine e_goto 85 dX11_product_79 (by decide) ?_
        refine e_pick [1] rfl ?_
        exact wX11_product_b85 hV hR0 hR1 hR2 hR3 hR4 hR5 hK10 hP v14 s8 hf
    · refine e_iconst (w := (nI 0)) dX11_product_66 (by decide) ?_
      refine e_goto 85 dX11_product_67 (by decide) ?_
      refine e_pick [1] rfl ?_
      exact wX11_product_b85 hV hR0 hR1 hR2 hR3 hR4 hR5 hK10 hP (nI 0) s8 hf
  · refine e_iload_n 2 dX11_product_56 rfl rfl ?_
    refine e_iload_n 0 dX11_product_57 rfl rfl ?_
    refine e_imul dX11_product_58 ?_
    refine e_goto 85 dX11_product_59 (by decide) ?_
    refine e_pick [1] rfl ?_
    exact wX11_product_b85 hV hR0 hR1 hR2 hR3 hR4 hR5 hK10 hP (y1 * v9) s8 hf
set_option maxRecDepth 20000 in
theorem wX11_product_b10 {ρ : mRo} {n d : Nat} {P : mPo} {V : mS → List mE} (hV : mView LX V) {R0 : mS → Option (Int32 × mS)} (hR0 : ∀ {s : mS} {res : (Int32 × mS)} {Q : mPo}, R0 s = some res → Q (some (.int res.1)) (V res.2) → mC ρ (n + d + 2) 158 [.ref qX] (V s) Q) {R1 : mS → Option (Int32 × mS)} (hR1 : ∀ {s : mS} {res : (Int32 × mS)} {Q : mPo}, R1 s = some res → Q (some (.int res.1)) (V res.2) → mC ρ (n + d + 2) 159 [.ref qX] (V s) Q) {R2 : mS → Option (Int32 × mS)} (hR2 : ∀ {s : mS} {res : (Int32 × mS)} {Q : mPo}, R2 s = some res → Q (some (.int res.1)) (V res.2) → mC ρ (n + d + 2) 160 [.ref qX] (V s) Q) {R3 : mS → Option (Int32 × mS)} (hR3 : ∀ {s : mS} {res : (Int32 × mS)} {Q : mPo}, R3 s = some res → Q (some (.int res.1)) (V res.2) → mC ρ (n + d + 2) 161 [.ref qX] (V s) Q) {R4 : mS → Option (Int32 × mS)} (hR4 : ∀ {s : mS} {res : (Int32 × mS)} {Q : mPo}, R4 s = some res → Q (some (.int res.1)) (V res.2) → mC ρ (n + d + 2) 162 [.ref qX] (V s) Q) {R5 : mS → Option (Int32 × mS)} (hR5 : ∀ {s : mS} {res : (Int32 × mS)} {Q : mPo}, R5 s = some res → Q (some (.int res.1)) (V res.2) → mC ρ (n + d + 2) 164 [.ref qX] (V s) Q)  {res : (Int32 × mS)} (hP : P (some (.int res.1)) (V res.2)) : ∀ (k : Nat) (y1 : Int32) (y2 : Int32) (s : mS), gX11_product_b10 R0 R1 R2 R3 R4 R5 k y1 y2 s = some res → mG ρ (mC ρ (n + d + 2)) 11 4 cX11_product (some .int) P 10 [(0, .ref qX), (1, .int y1), (2, .int y2)] [] (V s) := by
  intro k
  induction k with
  | zero => intro y1 y2 s hf; rw [gX11_product_b10] at hf; cases hf
  | succ k ih =>
    intro y1 y2 s hf
    rw [gX11_product_b10] at hf
    refine e_aload_n 0 dX11_product_10 rfl rfl ?_
    refine e_geti hV dX11_product_11 rfl lx_X rfl ?_
    refine e_if_ge 94 dX11_product_14 (by decide) hf (fun hf => ?_) (fun hf => ?_)
    · refine e_iload_n 1 dX11_product_94 rfl rfl ?_
      obtain rfl := Option.some.inj hf
      exact e_iret dX11_product_95 trivial hP
    · refine e_iload_n 2 dX11_product_17 rfl rfl ?_
      refine e_bipush (w := (nI 42)) dX11_product_18 (by decide) ?_
      refine e_icmp_eq 35 dX11_product_20 (by decide) hf (fun hf => ?_) (fun hf => ?_)
      · refine e_pick [0, 1, 2] rfl ?_
        exact wX11_product_b35 hV hR0 hR1 hR2 hR3 hR4 hR5 ih hP y1 y2 s hf
      · refine e_iload_n 2 dX11_product_23 rfl rfl ?_
        refine e_bipush (w := (nI 47)) dX11_product_24 (by decide) ?_
        refine e_icmp_eq 35 dX11_product_26 (by decide) hf (fun hf => ?_) (fun hf => ?_)
        · refine e_pick [0, 1, 2] rfl ?_
          exact wX11_product_b35 hV hR0 hR1 hR2 hR3 hR4 hR5 ih hP y1 y2 s hf
        · refine e_iload_n 2 dX11_product_29 rfl rfl ?_
          refine e_bipush (w := (nI 37)) dX11_product_30 (by decide) ?_
          refine e_icmp_ne 94 dX11_product_32 (by decide) hf (fun hf => ?_) (fun hf => ?_)
          · refine e_iload_n 1 dX11_product_94 rfl rfl ?_
            obtain rfl := Option.some.inj hf
            exact e_iret dX11_product_95 trivial hP
          · refine e_pick [0, 1, 2] rfl ?_
            exact wX11_product_b35 hV hR0 hR1 hR2 hR3 hR4 hR5 ih hP y1 y2 s hf
set_option maxRecDepth 20000 in
theorem uX11_product {ρ : mRo} {n d : Nat} {P : mPo} {V : mS → List mE} (hV : mView LX V) {R0 : mS → Option (Int32 × mS)} (hR0 : ∀ {s : mS} {res : (Int32 × mS)} {Q : mPo}, R0 s = some res → Q (some (.int res.1)) (V res.2) → mC ρ (n + d + 2) 158 [.ref qX] (V s) Q) {R1 : mS → Option (Int32 × mS)} (hR1 : ∀ {s : mS} {res : (Int32 × mS)} {Q : mPo}, R1 s = some res → Q (some (.int res.1)) (V res.2) → mC ρ (n + d + 2) 159 [.ref qX] (V s) Q) {R2 : mS → Option (Int32 × mS)} (hR2 : ∀ {s : mS} {res : (Int32 × mS)} {Q : mPo}, R2 s = some res → Q (some (.int res.1)) (V res.2) → mC ρ (n + d + 2) 160 [.ref qX] (V s) Q) {R3 : mS → Option (Int32 × mS)} (hR3 : ∀ {s : mS} {res : (Int32 × mS)} {Q : mPo}, R3 s = some res → Q (some (.int res.1)) (V res.2) → mC ρ (n + d + 2) 161 [.ref qX] (V s) Q) {R4 : mS → Option (Int32 × mS)} (hR4 : ∀ {s : mS} {res : (Int32 × mS)} {Q : mPo}, R4 s = some res → Q (some (.int res.1)) (V res.2) → mC ρ (n + d + 2) 162 [.ref qX] (V s) Q) {R5 : mS → Option (Int32 × mS)} (hR5 : ∀ {s : mS} {res : (Int32 × mS)} {Q : mPo}, R5 s = some res → Q (some (.int res.1)) (V res.2) → mC ρ (n + d + 2) 164 [.ref qX] (V s) Q)  {s : mS} {res : (Int32 × mS)} (hf : gX11_product R0 R1 R2 R3 R4 R5 s = some res) (hP : P (some (.int res.1)) (V res.2)) : mC ρ (n + d + 2 + 1) 162 [.ref qX] (V s) P := by
  refine ⟨_, rfl, Nat.le_of_ble_eq_true rfl, by decide, ?_⟩
  show mG ρ (mC ρ (n + d + 2)) 11 4 cX11_product (some .int) P 0 [(0, .ref qX)] [] (V s)
  unfold gX11_product at hf
  refine e_aload_n 0 dX11_product_0 rfl rfl ?_
  obtain ⟨r1, s2, hg, hf⟩ := bP_some hf
  refine e_callV (as := []) (v := (some (.int r1))) (s' := s2) hV dX11_product_1 (Or.inl rfl) rfl rfl rfl rfl (Nat.le_of_ble_eq_true rfl) lx_X rfl rfl (fun Q hQ => hR5 hg hQ) ?_
  refine e_istore_n dX11_product_4 rfl (by decide) hf (fun v3 hf => ?_)
  refine e_aload_n 1 dX11_product_5 rfl rfl ?_
  obtain ⟨r4, hg, hf⟩ := bO_some hf
  refine e_callV (as := []) (v := (some (.int r4))) (s' := s2) hV dX11_product_6 (Or.inl rfl) rfl rfl rfl rfl (Nat.le_of_ble_eq_true rfl) lx_X rfl rfl (fun Q hQ => tX11_byteAt (d := (n + d + 1)) hV  hg hQ) ?_
  refine e_istore_n dX11_product_9 rfl (by decide) hf (fun v5 hf => ?_)
  refine e_pick [2, 1, 0] rfl ?_
  exact wX11_product_b10 hV hR0 hR1 hR2 hR3 hR4 hR5 hP mFu v3 v5 s2 hf

theorem dX11_sums_0 : decode cX11_sums 0 = .ok (.aload_n 0, 1) := by decide +kernel
theorem dX11_sums_1 : decode cX11_sums 1 = .ok (.invokevirtual 173, 3) := by decide +kernel
theorem dX11_sums_4 : decode cX11_sums 4 = .ok (.istore_n 1, 1) := by decide +kernel
theorem dX11_sums_5 : decode cX11_sums 5 = .ok (.aload_n 0, 1) := by decide +kernel
theorem dX11_sums_6 : decode cX11_sums 6 = .ok (.getfield 154, 3) := by decide +kernel
theorem dX11_sums_9 : decode cX11_sums 9 = .ok (.ifCond .ge 68, 3) := by decide +kernel
theorem dX11_sums_12 : decode cX11_sums 12 = .ok (.aload_n 0, 1) := by decide +kernel
theorem dX11_sums_13 : decode cX11_sums 13 = .ok (.invokevirtual 157, 3) := by decide +kernel
theorem dX11_sums_16 : decode cX11_sums 16 = .ok (.bipush 43, 2) := by decide +kernel
theorem dX11_sums_18 : decode cX11_sums 18 = .ok (.if_icmp .eq 12, 3) := by decide +kernel
theorem dX11_sums_21 : decode cX11_sums 21 = .ok (.aload_n 0, 1) := by decide +kernel
theorem dX11_sums_22 : decode cX11_sums 22 = .ok (.invokevirtual 157, 3) := by decide +kernel
theorem dX11_sums_25 : decode cX11_sums 25 = .ok (.bipush 45, 2) := by decide +kernel
theorem dX11_sums_27 : decode cX11_sums 27 = .ok (.if_icmp .ne 50, 3) := by decide +kernel
theorem dX11_sums_30 : decode cX11_sums 30 = .ok (.aload_n 0, 1) := by decide +kernel
theorem dX11_sums_31 : decode cX11_sums 31 = .ok (.invokevirtual 157, 3) := by decide +kernel
theorem dX11_sums_34 : decode cX11_sums 34 = .ok (.bipush 43, 2) := by decide +kernel
theorem dX11_sums_36 : decode cX11_sums 36 = .ok (.if_icmp .ne 7, 3) := by decide +kernel
theorem dX11_sums_39 : decode cX11_sums 39 = .ok (.iconst 1, 1) := by decide +kernel
theorem dX11_sums_40 : decode cX11_sums 40 = .ok (.goto 4, 3) := by decide +kernel
theorem dX11_sums_43 : decode cX11_sums 43 = .ok (.iconst 0, 1) := by decide +kernel
theorem dX11_sums_44 : decode cX11_sums 44 = .ok (.istore_n 2, 1) := by decide +kernel
theorem dX11_sums_45 : decode cX11_sums 45 = .ok (.aload_n 0, 1) := by decide +kernel
theorem dX11_sums_46 : decode cX11_sums 46 = .ok (.dup, 1) := by decide +kernel
theorem dX11_sums_47 : decode cX11_sums 47 = .ok (.getfield 145, 3) := by decide +kernel
theorem dX11_sums_50 : decode cX11_sums 50 = .ok (.iconst 1, 1) := by decide +kernel
theorem dX11_sums_51 : decode cX11_sums 51 = .ok (.iadd, 1) := by decide +kernel
theorem dX11_sums_52 : decode cX11_sums 52 = .ok (.putfield 145, 3) := by decide +kernel
theorem dX11_sums_55 : decode cX11_sums 55 = .ok (.aload_n 0, 1) := by decide +kernel
theorem dX11_sums_56 : decode cX11_sums 56 = .ok (.invokevirtual 173, 3) := by decide +kernel
theorem dX11_sums_59 : decode cX11_sums 59 = .ok (.istore_n 3, 1) := by decide +kernel
theorem dX11_sums_60 : decode cX11_sums 60 = .ok (.iload_n 2, 1) := by decide +kernel
theorem dX11_sums_61 : decode cX11_sums 61 = .ok (.ifCond .eq 9, 3) := by decide +kernel
theorem dX11_sums_64 : decode cX11_sums 64 = .ok (.iload_n 1, 1) := by decide +kernel
theorem dX11_sums_65 : decode cX11_sums 65 = .ok (.iload_n 3, 1) := by decide +kernel
theorem dX11_sums_66 : decode cX11_sums 66 = .ok (.iadd, 1) := by decide +kernel
theorem dX11_sums_67 : decode cX11_sums 67 = .ok (.goto 6, 3) := by decide +kernel
theorem dX11_sums_70 : decode cX11_sums 70 = .ok (.iload_n 1, 1) := by decide +kernel
theorem dX11_sums_71 : decode cX11_sums 71 = .ok (.iload_n 3, 1) := by decide +kernel
theorem dX11_sums_72 : decode cX11_sums 72 = .ok (.isub, 1) := by decide +kernel
theorem dX11_sums_73 : decode cX11_sums 73 = .ok (.istore_n 1, 1) := by decide +kernel
theorem dX11_sums_74 : decode cX11_sums 74 = .ok (.goto (-69), 3) := by decide +kernel
theorem dX11_sums_77 : decode cX11_sums 77 = .ok (.iload_n 1, 1) := by decide +kernel
theorem dX11_sums_78 : decode cX11_sums 78 = .ok (.ireturn, 1) := by decide +kernel
def gX11_sums_b73 (R0 : mS → Option (Int32 × mS)) (R1 : mS → Option (Int32 × mS)) (R2 : mS → Option (Int32 × mS)) (R3 : mS → Option (Int32 × mS)) (R4 : mS → Option (Int32 × mS)) (R5 : mS → Option (Int32 × mS)) (K5 : Int32 → mS → Option (Int32 × mS)) (z0 : Int32) (s : mS) : Option (Int32 × mS) :=
  bnd z0 fun v11 =>
  K5 v11 s

def gX11_sums_b44 (R0 : mS → Option (Int32 × mS)) (R1 : mS → Option (Int32 × mS)) (R2 : mS → Option (Int32 × mS)) (R3 : mS → Option (Int32 × mS)) (R4 : mS → Option (Int32 × mS)) (R5 : mS → Option (Int32 × mS)) (K5 : Int32 → mS → Option (Int32 × mS)) (y1 : Int32) (z0 : Int32) (s : mS) : Option (Int32 × mS) :=
  bnd z0 fun v6 =>
  bnd (pI s iX_at ((gI s iX_at) + (nI 1))) fun s7 =>
  bP (R4 s7) fun r8 s9 =>
  bnd r8 fun v10 =>
  if v6 = 0 then
    gX11_sums_b73 R0 R1 R2 R3 R4 R5 K5 (y1 - v10) s9
  else
    gX11_sums_b73 R0 R1 R2 R3 R4 R5 K5 (y1 + v10) s9

def gX11_sums_b30 (R0 : mS → Option (Int32 × mS)) (R1 : mS → Option (Int32 × mS)) (R2 : mS → Option (Int32 × mS)) (R3 : mS → Option (Int32 × mS)) (R4 : mS → Option (Int32 × mS)) (R5 : mS → Option (Int32 × mS)) (K5 : Int32 → mS → Option (Int32 × mS)) (y1 : Int32) (s : mS) : Option (Int32 × mS) :=
  bO (fX11_byteAt s) fun r5 =>
  if r5 = (nI 43) then
    gX11_sums_b44 R0 R1 R2 R3 R4 R5 K5 y1 (nI 1) s
  else
    gX11_sums_b44 R0 R1 R2 R3 R4 R5 K5 y1 (nI 0) s

def gX11_sums_b5 (R0 : mS → Option (Int32 × mS)) (R1 : mS → Option (Int32 × mS)) (R2 : mS → Option (Int32 × mS)) (R3 : mS → Option (Int32 × mS)) (R4 : mS → Option (Int32 × mS)) (R5 : mS → Option (Int32 × mS)) : Nat → Int32 → mS → Option (Int32 × mS)
  | 0, _, _ => none
  | k + 1, y1, s =>
    if 0 ≤ (gI s iX_fault) then
      some (y1, s)
    else
      bO (fX11_byteAt s) fun r4 =>
      if r4 = (nI 43) then
        gX11_sums_b30 R0 R1 R2 R3 R4 R5 (fun u0 u1 => gX11_sums_b5 R0 R1 R2 R3 R4 R5 k u0 u1) y1 s
      else
        bO (fX11_byteAt s) fun r12 =>
        if r12 = (nI 45) then
          gX11_sums_b30 R0 R1 R2 R3 R4 R5 (fun u0 u1 => gX11_sums_b5 R0 R1 R2 R3 R4 R5 k u0 u1) y1 s
        else
          some (y1, s)

def gX11_sums (R0 : mS → Option (Int32 × mS)) (R1 : mS → Option (Int32 × mS)) (R2 : mS → Option (Int32 × mS)) (R3 : mS → Option (Int32 × mS)) (R4 : mS → Option (Int32 × mS)) (R5 : mS → Option (Int32 × mS)) (s : mS) : Option (Int32 × mS) :=
  bP (R4 s) fun r1 s2 =>
  bnd r1 fun v3 =>
  gX11_sums_b5 R0 R1 R2 R3 R4 R5 mFu v3 s2

set_option maxRecDepth 20000 in
theorem wX11_sums_b73 {ρ : mRo} {n d : Nat} {P : mPo} {V : mS → List mE} (hV : mView LX V) {R0 : mS → Option (Int32 × mS)} (hR0 : ∀ {s : mS} {res : (Int32 × mS)} {Q : mPo}, R0 s = some res → Q (some (.int res.1)) (V res.2) → mC ρ (n + d + 2) 158 [.ref qX] (V s) Q) {R1 : mS → Option (Int32 × mS)} (hR1 : ∀ {s : mS} {res : (Int32 × mS)} {Q : mPo}, R1 s = some res → Q (some (.int res.1)) (V res.2) → mC ρ (n + d + 2) 159 [.ref qX] (V s) Q) {R2 : mS → Option (Int32 × mS)} (hR2 : ∀ {s : mS} {res : (Int32 × mS)} {Q : mPo}, R2 s = some res → Q (some (.int res.1)) (V res.2) → mC ρ (n + d + 2) 160 [.ref qX] (V s) Q) {R3 : mS → Option (Int32 × mS)} (hR3 : ∀ {s : mS} {res : (Int32 × mS)} {Q : mPo}, R3 s = some res → Q (some (.int res.1)) (V res.2) → mC ρ (n + d + 2) 161 [.ref qX] (V s) Q) {R4 : mS → Option (Int32 × mS)} (hR4 : ∀ {s : mS} {res : (Int32 × mS)} {Q : mPo}, R4 s = some res → Q (some (.int res.1)) (V res.2) → mC ρ (n + d + 2) 162 [.ref qX] (V s) Q) {R5 : mS → Option (Int32 × mS)} (hR5 : ∀ {s : mS} {res : (Int32 × mS)} {Q : mPo}, R5 s = some res → Q (some (.int res.1)) (V res.2) → mC ρ (n + d + 2) 164 [.ref qX] (V s) Q)  {res : (Int32 × mS)} {K5 : Int32 → mS → Option (Int32 × mS)} (hK5 : ∀ (y1 : Int32) (s : mS), K5 y1 s = some res → mG ρ (mC ρ (n + d + 2)) 11 4 cX11_sums (some .int) P 5 [(0, .ref qX), (1, .int y1)] [] (V s)) (hP : P (some (.int res.1)) (V res.2)) (z0 : Int32) (s : mS) (hf : gX11_sums_b73 R0 R1 R2 R3 R4 R5 K5 z0 s = some res) : mG ρ (mC ρ (n + d + 2)) 11 4 cX11_sums (some .int) P 73 [(0, .ref qX)] [.int z0] (V s) := by
  unfold gX11_sums_b73 at hf
  refine e_istore_n dX11_sums_73 rfl (by decide) hf (fun v11 hf => ?_)
  refine e_goto 5 dX11_sums_74 (by decide) ?_
  refine e_pick [1, 0] rfl ?_
  exact hK5 v11 s hf
set_option maxRecDepth 20000 in
theorem wX11_sums_b44 {ρ : mRo} {n d : Nat} {P : mPo} {V : mS → List mE} (hV : mView LX V) {R0 : mS → Option (Int32 × mS)} (hR0 : ∀ {s : mS} {res : (Int32 × mS)} {Q : mPo}, R0 s = some res → Q (some (.int res.1)) (V res.2) → mC ρ (n + d + 2) 158 [.ref qX] (V s) Q) {R1 : mS → Option (Int32 × mS)} (hR1 : ∀ {s : mS} {res : (Int32 × mS)} {Q : mPo}, R1 s = some res → Q (some (.int res.1)) (V res.2) → mC ρ (n + d + 2) 159 [.ref qX] (V s) Q) {R2 : mS → Option (Int32 × mS)} (hR2 : ∀ {s : mS} {res : (Int32 × mS)} {Q : mPo}, R2 s = some res → Q (some (.int res.1)) (V res.2) → mC ρ (n + d + 2) 160 [.ref qX] (V s) Q) {R3 : mS → Option (Int32 × mS)} (hR3 : ∀ {s : mS} {res : (Int32 × mS)} {Q : mPo}, R3 s = some res → Q (some (.int res.1)) (V res.2) → mC ρ (n + d + 2) 161 [.ref qX] (V s) Q) {R4 : mS → Option (Int32 × mS)} (hR4 : ∀ {s : mS} {res : (Int32 × mS)} {Q : mPo}, R4 s = some res → Q (some (.int res.1)) (V res.2) → mC ρ (n + d + 2) 162 [.ref qX] (V s) Q) {R5 : mS → Option (Int32 × mS)} (hR5 : ∀ {s : mS} {res : (Int32 × mS)} {Q : mPo}, R5 s = some res → Q (some (.int res.1)) (V res.2) → mC ρ (n + d + 2) 164 [.ref qX] (V s) Q)  {res : (Int32 × mS)} {K5 : Int32 → mS → Option (Int32 × mS)} (hK5 : ∀ (y1 : Int32) (s : mS), K5 y1 s = some res → mG ρ (mC ρ (n + d + 2)) 11 4 cX11_sums (some .int) P 5 [(0, .ref qX), (1, .int y1)] [] (V s)) (hP : P (some (.int res.1)) (V res.2)) (y1 : Int32) (z0 : Int32) (s : mS) (hf : gX11_sums_b44 R0 R1 R2 R3 R4 R5 K5 y1 z0 s = some res) : mG ρ (mC ρ (n + d + 2)) 11 4 cX11_sums (some .int) P 44 [(0, .ref qX), (1, .int y1)] [.int z0] (V s) := by
  unfold gX11_sums_b44 at hf
  refine e_istore_n dX11_sums_44 rfl (by decide) hf (fun v6 hf => ?_)
  refine e_aload_n 1 dX11_sums_45 rfl rfl ?_
  refine e_dup dX11_sums_46 rfl ?_
  refine e_geti hV dX11_sums_47 rfl lx_X rfl ?_
  refine e_iconst (w := (nI 1)) dX11_sums_50 (by decide) ?_
  refine e_iadd dX11_sums_51 ?_
  refine e_puti hV dX11_sums_52 rfl rfl rfl (Or.inl rfl) lx_X rfl hf (fun s7 hf => ?_)
  refine e_aload_n 1 dX11_sums_55 rfl rfl ?_
  obtain ⟨r8, s9, hg, hf⟩ := bP_some hf
  refine e_callV (as := []) (v := (some (.int r8))) (s' := s9) hV dX11_sums_56 (Or.inl rfl) rfl rfl rfl rfl (Nat.le_of_ble_eq_true rfl) lx_X rfl rfl (fun Q hQ => hR4 hg hQ) ?_
  refine e_istore_n dX11_sums_59 rfl (by decide) hf (fun v10 hf => ?_)
  refine e_iload_n 1 dX11_sums_60 rfl rfl ?_
  refine e_if_eq 70 dX11_sums_61 (by decide) hf (fun hf => ?_) (fun hf => ?_)
  · refine e_iload_n 3 dX11_sums_70 rfl rfl ?_
    refine e_iload_n 0 dX11_sums_71 rfl rfl ?_
    refine e_isub dX11_sums_72 ?_
    refine e_pick [2] rfl ?_
    exact wX11_sums_b73 hV hR0 hR1 hR2 hR3 hR4 hR5 hK5 hP (y1 - v10) s9 hf
  · refine e_iload_n 3 dX11_sums_64 rfl rfl ?_
    refine e_iload_n 0 dX11_sums_65 rfl rfl ?_
    refine e_iadd dX11_sums_66 ?_
    refine e_goto 73 dX11_sums_67 (by decide) ?_
    refine e_pick [2] rfl ?_
    exact wX11_sums_b73 hV hR0 hR1 hR2 hR3 hR4 hR5 hK5 hP (y1 + v10) s9 hf
set_option maxRecDepth 20000 in
theorem wX11_sums_b30 {ρ : mRo} {n d : Nat} {P : mPo} {V : mS → List mE} (hV : mView LX V) {R0 : mS → Option (Int32 × mS)} (hR0 : ∀ {s : mS} {res : (Int32 × mS)} {Q : mPo}, R0 s = some res → Q (some (.int res.1)) (V res.2) → mC ρ (n + d + 2) 158 [.ref qX] (V s) Q) {R1 : mS → Option (Int32 × mS)} (hR1 : ∀ {s : mS} {res : (Int32 × mS)} {Q : mPo}, R1 s = some res → Q (some (.int res.1)) (V res.2) → mC ρ (n + d + 2) 159 [.ref qX] (V s) Q) {R2 : mS → Option (Int32 × mS)} (hR2 : ∀ {s : mS} {res : (Int32 × mS)} {Q : mPo}, R2 s = some res → Q (some (.int res.1)) (V res.2) → mC ρ (n + d + 2) 160 [.ref qX] (V s) Q) {R3 : mS → Option (Int32 × mS)} (hR3 : ∀ {s : mS} {res : (Int32 × mS)} {Q : mPo}, R3 s = some res → Q (some (.int res.1)) (V res.2) → mC ρ (n + d + 2) 161 [.ref qX] (V s) Q) {R4 : mS → Option (Int32 × mS)} (hR4 : ∀ {s : mS} {res : (Int32 × mS)} {Q : mPo}, R4 s = some res → Q (some (.int res.1)) (V res.2) → mC ρ (n + d + 2) 162 [.ref qX] (V s) Q) {R5 : mS → Option (Int32 × mS)} (hR5 : ∀ {s : mS} {res : (Int32 × mS)} {Q : mPo}, R5 s = some res → Q (some (.int res.1)) (V res.2) → mC ρ (n + d + 2) 164 [.ref qX] (V s) Q)  {res : (Int32 × mS)} {K5 : Int32 → mS → Option (Int32 × mS)} (hK5 : ∀ (y1 : Int32) (s : mS), K5 y1 s = some res → mG ρ (mC ρ (n + d + 2)) 11 4 cX11_sums (some .int) P 5 [(0, .ref qX), (1, .int y1)] [] (V s)) (hP : P (some (.int res.1)) (V res.2)) (y1 : Int32) (s : mS) (hf : gX11_sums_b30 R0 R1 R2 R3 R4 R5 K5 y1 s = some res) : mG ρ (mC ρ (n + d + 2)) 11 4 cX11_sums (some .int) P 30 [(0, .ref qX), (1, .int y1)] [] (V s) := by
  unfold gX11_sums_b30 at hf
  refine e_aload_n 0 dX11_sums_30 rfl rfl ?_
  obtain ⟨r5, hg, hf⟩ := bO_some hf
  refine e_callV (as := []) (v := (some (.int r5))) (s' := s) hV dX11_sums_31 (Or.inl rfl) rfl rfl rfl rfl (Nat.le_of_ble_eq_true rfl) lx_X rfl rfl (fun Q hQ => tX11_byteAt (d := (n + d + 1)) hV  hg hQ) ?_
  refine e_bipush (w := (nI 43)) dX11_sums_34 (by decide) ?_
  refine e_icmp_ne 43 dX11_sums_36 (by decide) hf (fun hf => ?_) (fun hf => ?_)
  · refine e_iconst (w := (nI 0)) dX11_sums_43 (by decide) ?_
    refine e_pick [0, 1] rfl ?_
    exact wX11_sums_b44 hV hR0 hR1 hR2 hR3 hR4 hR5 hK5 hP y1 (nI 0) s hf
  · refine e_iconst (w := (nI 1)) dX11_sums_39 (by decide) ?_
    refine e_goto 44 dX11_sums_40 (by decide) ?_
    refine e_pick [0, 1] rfl ?_
    exact wX11_sums_b44 hV hR0 hR1 hR2 hR3 hR4 hR5 hK5 hP y1 (nI 1) s hf
set_option maxRecDepth 20000 in
theorem wX11_sums_b5 {ρ : mRo} {n d : Nat} {P : mPo} {V : mS → List mE} (hV : mView LX V) {R0 : mS → Option (Int32 × mS)} (hR0 : ∀ {s : mS} {res : (Int32 × mS)} {Q : mPo}, R0 s = some res → Q (some (.int res.1)) (V res.2) → mC ρ (n + d + 2) 158 [.ref qX] (V s) Q) {R1 : mS → Option (Int32 × mS)} (hR1 : ∀ {s : mS} {res : (Int32 × mS)} {Q : mPo}, R1 s = some res → Q (some (.int res.1)) (V res.2) → mC ρ (n + d + 2) 159 [.ref qX] (V s) Q) {R2 : mS → Option (Int32 × mS)} (hR2 : ∀ {s : mS} {res : (Int32 × mS)} {Q : mPo}, R2 s = some res → Q (some (.int res.1)) (V res.2) → mC ρ (n + d + 2) 160 [.ref qX] (V s) Q) {R3 : mS → Option (Int32 × mS)} (hR3 : ∀ {s : mS} {res : (Int32 × mS)} {Q : mPo}, R3 s = some res → Q (some (.int res.1)) (V res.2) → mC ρ (n + d + 2) 161 [.ref qX] (V s) Q) {R4 : mS → Option (Int32 × mS)} (hR4 : ∀ {s : mS} {res : (Int32 × mS)} {Q : mPo}, R4 s = some res → Q (some (.int res.1)) (V res.2) → mC ρ (n + d + 2) 162 [.ref qX] (V s) Q) {R5 : mS → Option (Int32 × mS)} (hR5 : ∀ {s : mS} {res : (Int32 × mS)} {Q : mPo}, R5 s = some res → Q (some (.int res.1)) (V res.2) → mC ρ (n + d + 2) 164 [.ref qX] (V s) Q)  {res : (Int32 × mS)} (hP : P (some (.int res.1)) (V res.2)) : ∀ (k : Nat) (y1 : Int32) (s : mS), gX11_sums_b5 R0 R1 R2 R3 R4 R5 k y1 s = some res → mG ρ (mC ρ (n + d + 2)) 11 4 cX11_sums (some .int) P 5 [(0, .ref qX), (1, .int y1)] [] (V s) := by
  intro k
  induction k with
  | zero => intro y1 s hf; rw [gX11_sums_b5] at hf; cases hf
  | succ k ih =>
    intro y1 s hf
    rw [gX11_sums_b5] at hf
    refine e_aload_n 0 dX11_sums_5 rfl rfl ?_
    refine e_geti hV dX11_sums_6 rfl lx_X rfl ?_
    refine e_if_ge 77 dX11_sums_9 (by decide) hf (fun hf => ?_) (fun hf => ?_)
    · refine e_iload_n 1 dX11_sums_77 rfl rfl ?_
      obtain rfl := Option.some.inj hf
      exact e_iret dX11_sums_78 trivial hP
    · refine e_aload_n 0 dX11_sums_12 rfl rfl ?_
      obtain ⟨r4, hg, hf⟩ := bO_some hf
      refine e_callV (as := []) (v := (some (.int r4))) (s' := s) hV dX11_sums_13 (Or.inl rfl) rfl rfl rfl rfl (Nat.le_of_ble_eq_true rfl) lx_X rfl rfl (fun Q hQ => tX11_byteAt (d := (n + d + 1)) hV  hg hQ) ?_
      refine e_bipush (w := (nI 43)) dX11_sums_16 (by decide) ?_
      refine e_icmp_eq 30 dX11_sums_18 (by decide) hf (fun hf => ?_) (fun hf => ?_)
      · refine e_pick [0, 1] rfl ?_
        exact wX11_sums_b30 hV hR0 hR1 hR2 hR3 hR4 hR5 ih hP y1 s hf
      · refine e_aload_n 0 dX11_sums_21 rfl rfl ?_
        obtain ⟨r12, hg, hf⟩ := bO_some hf
        refine e_callV (as := []) (v := (some (.int r12))) (s' := s) hV dX11_sums_22 (Or.inl rfl) rfl rfl rfl rfl (Nat.le_of_ble_eq_true rfl) lx_X rfl rfl (fun Q hQ => tX11_byteAt (d := (n + d + 1)) hV  hg hQ) ?_
        refine e_bipush (w := (nI 45)) dX11_sums_25 (by decide) ?_
        refine e_icmp_ne 77 dX11_sums_27 (by decide) hf (fun hf => ?_) (fun hf => ?_)
        · refine e_iload_n 1 dX11_sums_77 rfl rfl ?_
          obtain rfl := Option.some.inj hf
          exact e_iret dX11_sums_78 trivial hP
        · refine e_pick [0, 1] rfl ?_
          exact wX11_sums_b30 hV hR0 hR1 hR2 hR3 hR4 hR5 ih hP y1 s hf
set_option maxRecDepth 20000 in
theorem uX11_sums {ρ : mRo} {n d : Nat} {P : mPo} {V : mS → List mE} (hV : mView LX V) {R0 : mS → Option (Int32 × mS)} (hR0 : ∀ {s : mS} {res : (Int32 × mS)} {Q : mPo}, R0 s = some res → Q (some (.int res.1)) (V res.2) → mC ρ (n + d + 2) 158 [.ref qX] (V s) Q) {R1 : mS → Option (Int32 × mS)} (hR1 : ∀ {s : mS} {res : (Int32 × mS)} {Q : mPo}, R1 s = some res → Q (some (.int res.1)) (V res.2) → mC ρ (n + d + 2) 159 [.ref qX] (V s) Q) {R2 : mS → Option (Int32 × mS)} (hR2 : ∀ {s : mS} {res : (Int32 × mS)} {Q : mPo}, R2 s = some res → Q (some (.int res.1)) (V res.2) → mC ρ (n + d + 2) 160 [.ref qX] (V s) Q) {R3 : mS → Option (Int32 × mS)} (hR3 : ∀ {s : mS} {res : (Int32 × mS)} {Q : mPo}, R3 s = some res → Q (some (.int res.1)) (V res.2) → mC ρ (n + d + 2) 161 [.ref qX] (V s) Q) {R4 : mS → Option (Int32 × mS)} (hR4 : ∀ {s : mS} {res : (Int32 × mS)} {Q : mPo}, R4 s = some res → Q (some (.int res.1)) (V res.2) → mC ρ (n + d + 2) 162 [.ref qX] (V s) Q) {R5 : mS → Option (Int32 × mS)} (hR5 : ∀ {s : mS} {res : (Int32 × mS)} {Q : mPo}, R5 s = some res → Q (some (.int res.1)) (V res.2) → mC ρ (n + d + 2) 164 [.ref qX] (V s) Q)  {s : mS} {res : (Int32 × mS)} (hf : gX11_sums R0 R1 R2 R3 R4 R5 s = some res) (hP : P (some (.int res.1)) (V res.2)) : mC ρ (n + d + 2 + 1) 161 [.ref qX] (V s) P := by
  refine ⟨_, rfl, Nat.le_of_ble_eq_true rfl, by decide, ?_⟩
  show mG ρ (mC ρ (n + d + 2)) 11 4 cX11_sums (some .int) P 0 [(0, .ref qX)] [] (V s)
  unfold gX11_sums at hf
  refine e_aload_n 0 dX11_sums_0 rfl rfl ?_
  obtain ⟨r1, s2, hg, hf⟩ := bP_some hf
  refine e_callV (as := []) (v := (some (.int r1))) (s' := s2) hV dX11_sums_1 (Or.inl rfl) rfl rfl rfl rfl (Nat.le_of_ble_eq_true rfl) lx_X rfl rfl (fun Q hQ => hR4 hg hQ) ?_
  refine e_istore_n dX11_sums_4 rfl (by decide) hf (fun v3 hf => ?_)
  refine e_pick [1, 0] rfl ?_
  exact wX11_sums_b5 hV hR0 hR1 hR2 hR3 hR4 hR5 hP mFu v3 s2 hf

theorem dX11_compared_0 : decode cX11_compared 0 = .ok (.aload_n 0, 1) := by decide +kernel
theorem dX11_compared_1 : decode cX11_compared 1 = .ok (.invokevirtual 170, 3) := by decide +kernel
theorem dX11_compared_4 : decode cX11_compared 4 = .ok (.istore_n 1, 1) := by decide +kernel
theorem dX11_compared_5 : decode cX11_compared 5 = .ok (.aload_n 0, 1) := by decide +kernel
theorem dX11_compared_6 : decode cX11_compared 6 = .ok (.invokevirtual 157, 3) := by decide +kernel
theorem dX11_compared_9 : decode cX11_compared 9 = .ok (.istore_n 2, 1) := by decide +kernel
theorem dX11_compared_10 : decode cX11_compared 10 = .ok (.aload_n 0, 1) := by decide +kernel
theorem dX11_compared_11 : decode cX11_compared 11 = .ok (.getfield 154, 3) := by decide +kernel
theorem dX11_compared_14 : decode cX11_compared 14 = .ok (.ifCond .ge 21, 3) := by decide +kernel
theorem dX11_compared_17 : decode cX11_compared 17 = .ok (.iload_n 2, 1) := by decide +kernel
theorem dX11_compared_18 : decode cX11_compared 18 = .ok (.bipush 60, 2) := by decide +kernel
theorem dX11_compared_20 : decode cX11_compared 20 = .ok (.if_icmp .eq 17, 3) := by decide +kernel
theorem dX11_compared_23 : decode cX11_compared 23 = .ok (.iload_n 2, 1) := by decide +kernel
theorem dX11_compared_24 : decode cX11_compared 24 = .ok (.bipush 61, 2) := by decide +kernel
theorem dX11_compared_26 : decode cX11_compared 26 = .ok (.if_icmp .eq 11, 3) := by decide +kernel
theorem dX11_compared_29 : decode cX11_compared 29 = .ok (.iload_n 2, 1) := by decide +kernel
theorem dX11_compared_30 : decode cX11_compared 30 = .ok (.bipush 62, 2) := by decide +kernel
theorem dX11_compared_32 : decode cX11_compared 32 = .ok (.if_icmp .eq 5, 3) := by decide +kernel
theorem dX11_compared_35 : decode cX11_compared 35 = .ok (.iload_n 1, 1) := by decide +kernel
theorem dX11_compared_36 : decode cX11_compared 36 = .ok (.ireturn, 1) := by decide +kernel
theorem dX11_compared_37 : decode cX11_compared 37 = .ok (.aload_n 0, 1) := by decide +kernel
theorem dX11_compared_38 : decode cX11_compared 38 = .ok (.dup, 1) := by decide +kernel
theorem dX11_compared_39 : decode cX11_compared 39 = .ok (.getfield 145, 3) := by decide +kernel
theorem dX11_compared_42 : decode cX11_compared 42 = .ok (.iconst 1, 1) := by decide +kernel
theorem dX11_compared_43 : decode cX11_compared 43 = .ok (.iadd, 1) := by decide +kernel
theorem dX11_compared_44 : decode cX11_compared 44 = .ok (.putfield 145, 3) := by decide +kernel
theorem dX11_compared_47 : decode cX11_compared 47 = .ok (.aload_n 0, 1) := by decide +kernel
theorem dX11_compared_48 : decode cX11_compared 48 = .ok (.invokevirtual 170, 3) := by decide +kernel
theorem dX11_compared_51 : decode cX11_compared 51 = .ok (.istore_n 3, 1) := by decide +kernel
theorem dX11_compared_52 : decode cX11_compared 52 = .ok (.iload_n 2, 1) := by decide +kernel
theorem dX11_compared_53 : decode cX11_compared 53 = .ok (.bipush 60, 2) := by decide +kernel
theorem dX11_compared_55 : decode cX11_compared 55 = .ok (.if_icmp .ne 11, 3) := by decide +kernel
theorem dX11_compared_58 : decode cX11_compared 58 = .ok (.iload_n 1, 1) := by decide +kernel
theorem dX11_compared_59 : decode cX11_compared 59 = .ok (.iload_n 3, 1) := by decide +kernel
theorem dX11_compared_60 : decode cX11_compared 60 = .ok (.if_icmp .ge 29, 3) := by decide +kernel
theorem dX11_compared_63 : decode cX11_compared 63 = .ok (.goto 22, 3) := by decide +kernel
theorem dX11_compared_66 : decode cX11_compared 66 = .ok (.iload_n 2, 1) := by decide +kernel
theorem dX11_compared_67 : decode cX11_compared 67 = .ok (.bipush 61, 2) := by decide +kernel
theorem dX11_compared_69 : decode cX11_compared 69 = .ok (.if_icmp .ne 11, 3) := by decide +kernel
theorem dX11_compared_72 : decode cX11_compared 72 = .ok (.iload_n 1, 1) := by decide +kernel
theorem dX11_compared_73 : decode cX11_compared 73 = .ok (.iload_n 3, 1) := by decide +kernel
theorem dX11_compared_74 : decode cX11_compared 74 = .ok (.if_icmp .ne 15, 3) := by decide +kernel
theorem dX11_compared_77 : decode cX11_compared 77 = .ok (.goto 8, 3) := by decide +kernel
theorem dX11_compared_80 : decode cX11_compared 80 = .ok (.iload_n 1, 1) := by decide +kernel
theorem dX11_compared_81 : decode cX11_compared 81 = .ok (.iload_n 3, 1) := by decide +kernel
theorem dX11_compared_82 : decode cX11_compared 82 = .ok (.if_icmp .le 7, 3) := by decide +kernel
theorem dX11_compared_85 : decode cX11_compared 85 = .ok (.iconst 1, 1) := by decide +kernel
theorem dX11_compared_86 : decode cX11_compared 86 = .ok (.goto 4, 3) := by decide +kernel
theorem dX11_compared_89 : decode cX11_compared 89 = .ok (.iconst 0, 1) := by decide +kernel
theorem dX11_compared_90 : decode cX11_compared 90 = .ok (.ireturn, 1) := by decide +kernel
def gX11_compared_b85 (R0 : mS → Option (Int32 × mS)) (R1 : mS → Option (Int32 × mS)) (R2 : mS → Option (Int32 × mS)) (R3 : mS → Option (Int32 × mS)) (R4 : mS → Option (Int32 × mS)) (R5 : mS → Option (Int32 × mS)) (s : mS) : Option (Int32 × mS) :=
  some ((nI 1), s)

def gX11_compared_b37 (R0 : mS → Option (Int32 × mS)) (R1 : mS → Option (Int32 × mS)) (R2 : mS → Option (Int32 × mS)) (R3 : mS → Option (Int32 × mS)) (R4 : mS → Option (Int32 × mS)) (R5 : mS → Option (Int32 × mS)) (y1 : Int32) (y2 : Int32) (s : mS) : Option (Int32 × mS) :=
  bnd (pI s iX_at ((gI s iX_at) + (nI 1))) fun s6 =>
  bP (R3 s6) fun r7 s8 =>
  bnd r7 fun v9 =>
  if y2 = (nI 60) then
    if v9 ≤ y1 then
      some ((nI 0), s8)
    else
      gX11_compared_b85 R0 R1 R2 R3 R4 R5 s8
  else
    if y2 = (nI 61) then
      if y1 = v9 then
        gX11_compared_b85 R0 R1 R2 R3 R4 R5 s8
      else
        some ((nI 0), s8)
    else
      if y1 ≤ v9 then
        some ((nI 0), s8)
      else
        gX11_compared_b85 R0 R1 R2 R3 R4 R5 s8

def gX11_compared (R0 : mS → Option (Int32 × mS)) (R1 : mS → Option (Int32 × mS)) (R2 : mS → Option (Int32 × mS)) (R3 : mS → Option (Int32 × mS)) (R4 : mS → Option (Int32 × mS)) (R5 : mS → Option (Int32 × mS)) (s : mS) : Option (Int32 × mS) :=
  bP (R3 s) fun r1 s2 =>
  bnd r1 fun v3 =>
  bO (fX11_byteAt s2) fun r4 =>
  bnd r4 fun v5 =>
  if 0 ≤ (gI s2 iX_fault) then
    some (v3, s2)
  else
    if v5 = (nI 60) then
      gX11_compared_b37 R0 R1 R2 R3 R4 R5 v3 v5 s2
    else
      if v5 = (nI 61) then
        gX11_compared_b37 R0 R1 R2 R3 R4 R5 v3 v5 s2
      else
        if v5 = (nI 62) then
          gX11_compared_b37 R0 R1 R2 R3 R4 R5 v3 v5 s2
        else
          some (v3, s2)

set_option maxRecDepth 20000 in
theorem wX11_compared_b85 {ρ : mRo} {n d : Nat} {P : mPo} {V : mS → List mE} (hV : mView LX V) {R0 : mS → Option (Int32 × mS)} (hR0 : ∀ {s : mS} {res : (Int32 × mS)} {Q : mPo}, R0 s = some res → Q (some (.int res.1)) (V res.2) → mC ρ (n + d + 2) 158 [.ref qX] (V s) Q) {R1 : mS → Option (Int32 × mS)} (hR1 : ∀ {s : mS} {res : (Int32 × mS)} {Q : mPo}, R1 s = some res → Q (some (.int res.1)) (V res.2) → mC ρ (n + d + 2) 159 [.ref qX] (V s) Q) {R2 : mS → Option (Int32 × mS)} (hR2 : ∀ {s : mS} {res : (Int32 × mS)} {Q : mPo}, R2 s = some res → Q (some (.int res.1)) (V res.2) → mC ρ (n + d + 2) 160 [.ref qX] (V s) Q) {R3 : mS → Option (Int32 × mS)} (hR3 : ∀ {s : mS} {res : (Int32 × mS)} {Q : mPo}, R3 s = some res → Q (some (.int res.1)) (V res.2) → mC ρ (n + d + 2) 161 [.ref qX] (V s) Q) {R4 : mS → Option (Int32 × mS)} (hR4 : ∀ {s : mS} {res : (Int32 × mS)} {Q : mPo}, R4 s = some res → Q (some (.int res.1)) (V res.2) → mC ρ (n + d + 2) 162 [.ref qX] (V s) Q) {R5 : mS → Option (Int32 × mS)} (hR5 : ∀ {s : mS} {res : (Int32 × mS)} {Q : mPo}, R5 s = some res → Q (some (.int res.1)) (V res.2) → mC ρ (n + d + 2) 164 [.ref qX] (V s) Q)  {res : (Int32 × mS)} (hP : P (some (.int res.1)) (V res.2)) (s : mS) (hf : gX11_compared_b85 R0 R1 R2 R3 R4 R5 s = some res) : mG ρ (mC ρ (n + d + 2)) 11 4 cX11_compared (some .int) P 85 [] [] (V s) := by
  unfold gX11_compared_b85 at hf
  refine e_iconst (w := (nI 1)) dX11_compared_85 (by decide) ?_
  refine e_goto 90 dX11_compared_86 (by decide) ?_
  obtain rfl := Option.some.inj hf
  exact e_iret dX11_compared_90 trivial hP
set_option maxRecDepth 20000 in
theorem wX11_compared_b37 {ρ : mRo} {n d : Nat} {P : mPo} {V : mS → List mE} (hV : mView LX V) {R0 : mS → Option (Int32 × mS)} (hR0 : ∀ {s : mS} {res : (Int32 × mS)} {Q : mPo}, R0 s = some res → Q (some (.int res.1)) (V res.2) → mC ρ (n + d + 2) 158 [.ref qX] (V s) Q) {R1 : mS → Option (Int32 × mS)} (hR1 : ∀ {s : mS} {res : (Int32 × mS)} {Q : mPo}, R1 s = some res → Q (some (.int res.1)) (V res.2) → mC ρ (n + d + 2) 159 [.ref qX] (V s) Q) {R2 : mS → Option (Int32 × mS)} (hR2 : ∀ {s : mS} {res : (Int32 × mS)} {Q : mPo}, R2 s = some res → Q (some (.int res.1)) (V res.2) → mC ρ (n + d + 2) 160 [.ref qX] (V s) Q) {R3 : mS → Option (Int32 × mS)} (hR3 : ∀ {s : mS} {res : (Int32 × mS)} {Q : mPo}, R3 s = some res → Q (some (.int res.1)) (V res.2) → mC ρ (n + d + 2) 161 [.ref qX] (V s) Q) {R4 : mS → Option (Int32 × mS)} (hR4 : ∀ {s : mS} {res : (Int32 × mS)} {Q : mPo}, R4 s = some res → Q (some (.int res.1)) (V res.2) → mC ρ (n + d + 2) 162 [.ref qX] (V s) Q) {R5 : mS → Option (Int32 × mS)} (hR5 : ∀ {s : mS} {res : (Int32 × mS)} {Q : mPo}, R5 s = some res → Q (some (.int res.1)) (V res.2) → mC ρ (n + d + 2) 164 [.ref qX] (V s) Q)  {res : (Int32 × mS)} (hP : P (some (.int res.1)) (V res.2)) (y1 : Int32) (y2 : Int32) (s : mS) (hf : gX11_compared_b37 R0 R1 R2 R3 R4 R5 y1 y2 s = some res) : mG ρ (mC ρ (n + d + 2)) 11 4 cX11_compared (some .int) P 37 [(0, .ref qX), (1, .int y1), (2, .int y2)] [] (V s) := by
  unfold gX11_compared_b37 at hf
  refine e_aload_n 0 dX11_compared_37 rfl rfl ?_
  refine e_dup dX11_compared_38 rfl ?_
  refine e_geti hV dX11_compared_39 rfl lx_X rfl ?_
  refine e_iconst (w := (nI 1)) dX11_compared_42 (by decide) ?_
  refine e_iadd dX11_compared_43 ?_
  refine e_puti hV dX11_compared_44 rfl rfl rfl (Or.inl rfl) lx_X rfl hf (fun s6 hf => ?_)
  refine e_aload_n 0 dX11_compared_47 rfl rfl ?_
  obtain ⟨r7, s8, hg, hf⟩ := bP_some hf
  refine e_callV (as := []) (v := (some (.int r7))) (s' := s8) hV dX11_compared_48 (Or.inl rfl) rfl rfl rfl rfl (Nat.le_of_ble_eq_true rfl) lx_X rfl rfl (fun Q hQ => hR3 hg hQ) ?_
  refine e_istore_n dX11_compared_51 rfl (by decide) hf (fun v9 hf => ?_)
  refine e_iload_n 3 dX11_compared_52 rfl rfl ?_
  refine e_bipush (w := (nI 60)) dX11_compared_53 (by decide) ?_
  refine e_icmp_ne 66 dX11_compared_55 (by decide) hf (fun hf => ?_) (fun hf => ?_)
  · refine e_iload_n 3 dX11_compared_66 rfl rfl ?_
    refine e_bipush (w := (nI 61)) dX11_compared_67 (by decide) ?_
    refine e_icmp_ne 80 dX11_compared_69 (by decide) hf (fun hf => ?_) (fun hf => ?_)
    · refine e_iload_n 2 dX11_compared_80 rfl rfl ?_
      refine e_iload_n 0 dX11_compared_81 rfl rfl ?_
      refine e_icmp_le 89 dX11_compared_82 (by decide) hf (fun hf => ?_) (fun hf => ?_)
      · refine e_iconst (w := (nI 0)) dX11_compared_89 (by decide) ?_
        obtain rfl := Option.some.inj hf
        exact e_iret dX11_compared_90 trivial hP
      · refine e_pick [] rfl ?_
        exact wX11_compared_b85 hV hR0 hR1 hR2 hR3 hR4 hR5 hP s8 hf
    · refine e_iload_n 2 dX11_compared_72 rfl rfl ?_
      refine e_iload_n 0 dX11_compared_73 rfl rfl ?_
      refine e_icmp_ne 89 dX11_compared_74 (by decide) hf (fun hf => ?_) (fun hf => ?_)
      · refine e_iconst (w := (nI 0)) dX11_compared_89 (by decide) ?_
        obtain rfl := Option.some.inj hf
        exact e_iret dX11_compared_90 trivial hP
      · refine e_goto 85 dX11_compared_77 (by decide) ?_
        refine e_pick [] rfl ?_
        exact wX11_compared_b85 hV hR0 hR1 hR2 hR3 hR4 hR5 hP s8 hf
  · refine e_iload_n 2 dX11_compared_58 rfl rfl ?_
    refine e_iload_n 0 dX11_compared_59 rfl rfl ?_
    refine e_icmp_ge 89 dX11_compared_60 (by decide) hf (fun hf => ?_) (fun hf => ?_)
    · refine e_iconst (w := (nI 0)) dX11_compared_89 (by decide) ?_
      obtain rfl := Option.some.inj hf
      exact e_iret dX11_compared_90 trivial hP
    · refine e_goto 85 dX11_compared_63 (by decide) ?_
      refine e_pick [] rfl ?_
      exact wX11_compared_b85 hV hR0 hR1 hR2 hR3 hR4 hR5 hP s8 hf
set_option maxRecDepth 20000 in
theorem uX11_compared {ρ : mRo} {n d : Nat} {P : mPo} {V : mS → List mE} (hV : mView LX V) {R0 : mS → Option (Int32 × mS)} (hR0 : ∀ {s : mS} {res : (Int32 × mS)} {Q : mPo}, R0 s = some res → Q (some (.int res.1)) (V res.2) → mC ρ (n + d + 2) 158 [.ref qX] (V s) Q) {R1 : mS → Option (Int32 × mS)} (hR1 : ∀ {s : mS} {res : (Int32 × mS)} {Q : mPo}, R1 s = some res → Q (some (.int res.1)) (V res.2) → mC ρ (n + d + 2) 159 [.ref qX] (V s) Q) {R2 : mS → Option (Int32 × mS)} (hR2 : ∀ {s : mS} {res : (Int32 × mS)} {Q : mPo}, R2 s = some res → Q (some (.int res.1)) (V res.2) → mC ρ (n + d + 2) 160 [.ref qX] (V s) Q) {R3 : mS → Option (Int32 × mS)} (hR3 : ∀ {s : mS} {res : (Int32 × mS)} {Q : mPo}, R3 s = some res → Q (some (.int res.1)) (V res.2) → mC ρ (n + d + 2) 161 [.ref qX] (V s) Q) {R4 : mS → Option (Int32 × mS)} (hR4 : ∀ {s : mS} {res : (Int32 × mS)} {Q : mPo}, R4 s = some res → Q (some (.int res.1)) (V res.2) → mC ρ (n + d + 2) 162 [.ref qX] (V s) Q) {R5 : mS → Option (Int32 × mS)} (hR5 : ∀ {s : mS} {res : (Int32 × mS)} {Q : mPo}, R5 s = some res → Q (some (.int res.1)) (V res.2) → mC ρ (n + d + 2) 164 [.ref qX] (V s) Q)  {s : mS} {res : (Int32 × mS)} (hf : gX11_compared R0 R1 R2 R3 R4 R5 s = some res) (hP : P (some (.int res.1)) (V res.2)) : mC ρ (n + d + 2 + 1) 160 [.ref qX] (V s) P := by
  refine ⟨_, rfl, Nat.le_of_ble_eq_true rfl, by decide, ?_⟩
  show mG ρ (mC ρ (n + d + 2)) 11 4 cX11_compared (some .int) P 0 [(0, .ref qX)] [] (V s)
  unfold gX11_compared at hf
  refine e_aload_n 0 dX11_compared_0 rfl rfl ?_
  obtain ⟨r1, s2, hg, hf⟩ := bP_some hf
  refine e_callV (as := []) (v := (some (.int r1))) (s' := s2) hV dX11_compared_1 (Or.inl rfl) rfl rfl rfl rfl (Nat.le_of_ble_eq_true rfl) lx_X rfl rfl (fun Q hQ => hR3 hg hQ) ?_
  refine e_istore_n dX11_compared_4 rfl (by decide) hf (fun v3 hf => ?_)
  refine e_aload_n 1 dX11_compared_5 rfl rfl ?_
  obtain ⟨r4, hg, hf⟩ := bO_some hf
  refine e_callV (as := []) (v := (some (.int r4))) (s' := s2) hV dX11_compared_6 (Or.inl rfl) rfl rfl rfl rfl (Nat.le_of_ble_eq_true rfl) lx_X rfl rfl (fun Q hQ => tX11_byteAt (d := (n + d + 1)) hV  hg hQ) ?_
  refine e_istore_n dX11_compared_9 rfl (by decide) hf (fun v5 hf => ?_)
  refine e_aload_n 2 dX11_compared_10 rfl rfl ?_
  refine e_geti hV dX11_compared_11 rfl lx_X rfl ?_
  refine e_if_ge 35 dX11_compared_14 (by decide) hf (fun hf => ?_) (fun hf => ?_)
  · refine e_iload_n 1 dX11_compared_35 rfl rfl ?_
    obtain rfl := Option.some.inj hf
    exact e_iret dX11_compared_36 trivial hP
  · refine e_iload_n 0 dX11_compared_17 rfl rfl ?_
    refine e_bipush (w := (nI 60)) dX11_compared_18 (by decide) ?_
    refine e_icmp_eq 37 dX11_compared_20 (by decide) hf (fun hf => ?_) (fun hf => ?_)
    · refine e_pick [2, 1, 0] rfl ?_
      exact wX11_compared_b37 hV hR0 hR1 hR2 hR3 hR4 hR5 hP v3 v5 s2 hf
    · refine e_iload_n 0 dX11_compared_23 rfl rfl ?_
      refine e_bipush (w := (nI 61)) dX11_compared_24 (by decide) ?_
      refine e_icmp_eq 37 dX11_compared_26 (by decide) hf (fun hf => ?_) (fun hf => ?_)
      · refine e_pick [2, 1, 0] rfl ?_
        exact wX11_compared_b37 hV hR0 hR1 hR2 hR3 hR4 hR5 hP v3 v5 s2 hf
      · refine e_iload_n 0 dX11_compared_29 rfl rfl ?_
        refine e_bipush (w := (nI 62)) dX11_compared_30 (by decide) ?_
        refine e_icmp_eq 37 dX11_compared_32 (by decide) hf (fun hf => ?_) (fun hf => ?_)
        · refine e_pick [2, 1, 0] rfl ?_
          exact wX11_compared_b37 hV hR0 hR1 hR2 hR3 hR4 hR5 hP v3 v5 s2 hf
        · refine e_iload_n 1 dX11_compared_35 rfl rfl ?_
          obtain rfl := Option.some.inj hf
          exact e_iret dX11_compared_36 trivial hP

theorem dX11_both_0 : decode cX11_both 0 = .ok (.aload_n 0, 1) := by decide +kernel
theorem dX11_both_1 : decode cX11_both 1 = .ok (.invokevirtual 167, 3) := by decide +kernel
theorem dX11_both_4 : decode cX11_both 4 = .ok (.istore_n 1, 1) := by decide +kernel
theorem dX11_both_5 : decode cX11_both 5 = .ok (.aload_n 0, 1) := by decide +kernel
theorem dX11_both_6 : decode cX11_both 6 = .ok (.bipush 38, 2) := by decide +kernel
theorem dX11_both_8 : decode cX11_both 8 = .ok (.invokevirtual 164, 3) := by decide +kernel
theorem dX11_both_11 : decode cX11_both 11 = .ok (.ifCond .eq 25, 3) := by decide +kernel
theorem dX11_both_14 : decode cX11_both 14 = .ok (.aload_n 0, 1) := by decide +kernel
theorem dX11_both_15 : decode cX11_both 15 = .ok (.invokevirtual 167, 3) := by decide +kernel
theorem dX11_both_18 : decode cX11_both 18 = .ok (.istore_n 2, 1) := by decide +kernel
theorem dX11_both_19 : decode cX11_both 19 = .ok (.iload_n 1, 1) := by decide +kernel
theorem dX11_both_20 : decode cX11_both 20 = .ok (.ifCond .eq 11, 3) := by decide +kernel
theorem dX11_both_23 : decode cX11_both 23 = .ok (.iload_n 2, 1) := by decide +kernel
theorem dX11_both_24 : decode cX11_both 24 = .ok (.ifCond .eq 7, 3) := by decide +kernel
theorem dX11_both_27 : decode cX11_both 27 = .ok (.iconst 1, 1) := by decide +kernel
theorem dX11_both_28 : decode cX11_both 28 = .ok (.goto 4, 3) := by decide +kernel
theorem dX11_both_31 : decode cX11_both 31 = .ok (.iconst 0, 1) := by decide +kernel
theorem dX11_both_32 : decode cX11_both 32 = .ok (.istore_n 1, 1) := by decide +kernel
theorem dX11_both_33 : decode cX11_both 33 = .ok (.goto (-28), 3) := by decide +kernel
theorem dX11_both_36 : decode cX11_both 36 = .ok (.iload_n 1, 1) := by decide +kernel
theorem dX11_both_37 : decode cX11_both 37 = .ok (.ireturn, 1) := by decide +kernel
def gX11_both_b32 (R0 : mS → Option (Int32 × mS)) (R1 : mS → Option (Int32 × mS)) (R2 : mS → Option (Int32 × mS)) (R3 : mS → Option (Int32 × mS)) (R4 : mS → Option (Int32 × mS)) (R5 : mS → Option (Int32 × mS)) (K5 : Int32 → mS → Option (Int32 × mS)) (z0 : Int32) (s : mS) : Option (Int32 × mS) :=
  bnd z0 fun v9 =>
  K5 v9 s

def gX11_both_b31 (R0 : mS → Option (Int32 × mS)) (R1 : mS → Option (Int32 × mS)) (R2 : mS → Option (Int32 × mS)) (R3 : mS → Option (Int32 × mS)) (R4 : mS → Option (Int32 × mS)) (R5 : mS → Option (Int32 × mS)) (K5 : Int32 → mS → Option (Int32 × mS)) (s : mS) : Option (Int32 × mS) :=
  gX11_both_b32 R0 R1 R2 R3 R4 R5 K5 (nI 0) s

def gX11_both_b5 (R0 : mS → Option (Int32 × mS)) (R1 : mS → Option (Int32 × mS)) (R2 : mS → Option (Int32 × mS)) (R3 : mS → Option (Int32 × mS)) (R4 : mS → Option (Int32 × mS)) (R5 : mS → Option (Int32 × mS)) : Nat → Int32 → mS → Option (Int32 × mS)
  | 0, _, _ => none
  | k + 1, y1, s =>
    bP (fX11_takes (nI 38) s) fun r4 s5 =>
    if r4 = 0 then
      some (y1, s5)
    else
      bP (R2 s5) fun r6 s7 =>
      bnd r6 fun v8 =>
      if y1 = 0 then
        gX11_both_b31 R0 R1 R2 R3 R4 R5 (fun u0 u1 => gX11_both_b5 R0 R1 R2 R3 R4 R5 k u0 u1) s7
      else
        if v8 = 0 then
          gX11_both_b31 R0 R1 R2 R3 R4 R5 (fun u0 u1 => gX11_both_b5 R0 R1 R2 R3 R4 R5 k u0 u1) s7
        else
          gX11_both_b32 R0 R1 R2 R3 R4 R5 (fun u0 u1 => gX11_both_b5 R0 R1 R2 R3 R4 R5 k u0 u1) (nI 1) s7

def gX11_both (R0 : mS → Option (Int32 × mS)) (R1 : mS → Option (Int32 × mS)) (R2 : mS → Option (Int32 × mS)) (R3 : mS → Option (Int32 × mS)) (R4 : mS → Option (Int32 × mS)) (R5 : mS → Option (Int32 × mS)) (s : mS) : Option (Int32 × mS) :=
  bP (R2 s) fun r1 s2 =>
  bnd r1 fun v3 =>
  gX11_both_b5 R0 R1 R2 R3 R4 R5 mFu v3 s2

set_option maxRecDepth 20000 in
theorem wX11_both_b32 {ρ : mRo} {n d : Nat} {P : mPo} {V : mS → List mE} (hV : mView LX V) {R0 : mS → Option (Int32 × mS)} (hR0 : ∀ {s : mS} {res : (Int32 × mS)} {Q : mPo}, R0 s = some res → Q (some (.int res.1)) (V res.2) → mC ρ (n + d + 2) 158 [.ref qX] (V s) Q) {R1 : mS → Option (Int32 × mS)} (hR1 : ∀ {s : mS} {res : (Int32 × mS)} {Q : mPo}, R1 s = some res → Q (some (.int res.1)) (V res.2) → mC ρ (n + d + 2) 159 [.ref qX] (V s) Q) {R2 : mS → Option (Int32 × mS)} (hR2 : ∀ {s : mS} {res : (Int32 × mS)} {Q : mPo}, R2 s = some res → Q (some (.int res.1)) (V res.2) → mC ρ (n + d + 2) 160 [.ref qX] (V s) Q) {R3 : mS → Option (Int32 × mS)} (hR3 : ∀ {s : mS} {res : (Int32 × mS)} {Q : mPo}, R3 s = some res → Q (some (.int res.1)) (V res.2) → mC ρ (n + d + 2) 161 [.ref qX] (V s) Q) {R4 : mS → Option (Int32 × mS)} (hR4 : ∀ {s : mS} {res : (Int32 × mS)} {Q : mPo}, R4 s = some res → Q (some (.int res.1)) (V res.2) → mC ρ (n + d + 2) 162 [.ref qX] (V s) Q) {R5 : mS → Option (Int32 × mS)} (hR5 : ∀ {s : mS} {res : (Int32 × mS)} {Q : mPo}, R5 s = some res → Q (some (.int res.1)) (V res.2) → mC ρ (n + d + 2) 164 [.ref qX] (V s) Q)  {res : (Int32 × mS)} {K5 : Int32 → mS → Option (Int32 × mS)} (hK5 : ∀ (y1 : Int32) (s : mS), K5 y1 s = some res → mG ρ (mC ρ (n + d + 2)) 11 3 cX11_both (some .int) P 5 [(0, .ref qX), (1, .int y1)] [] (V s)) (hP : P (some (.int res.1)) (V res.2)) (z0 : Int32) (s : mS) (hf : gX11_both_b32 R0 R1 R2 R3 R4 R5 K5 z0 s = some res) : mG ρ (mC ρ (n + d + 2)) 11 3 cX11_both (some .int) P 32 [(0, .ref qX)] [.int z0] (V s) := by
  unfold gX11_both_b32 at hf
  refine e_istore_n dX11_both_32 rfl (by decide) hf (fun v9 hf => ?_)
  refine e_goto 5 dX11_both_33 (by decide) ?_
  refine e_pick [1, 0] rfl ?_
  exact hK5 v9 s hf
set_option maxRecDepth 20000 in
theorem wX11_both_b31 {ρ : mRo} {n d : Nat} {P : mPo} {V : mS → List mE} (hV : mView LX V) {R0 : mS → Option (Int32 × mS)} (hR0 : ∀ {s : mS} {res : (Int32 × mS)} {Q : mPo}, R0 s = some res → Q (some (.int res.1)) (V res.2) → mC ρ (n + d + 2) 158 [.ref qX] (V s) Q) {R1 : mS → Option (Int32 × mS)} (hR1 : ∀ {s : mS} {res : (Int32 × mS)} {Q : mPo}, R1 s = some res → Q (some (.int res.1)) (V res.2) → mC ρ (n + d + 2) 159 [.ref qX] (V s) Q) {R2 : mS → Option (Int32 × mS)} (hR2 : ∀ {s : mS} {res : (Int32 × mS)} {Q : mPo}, R2 s = some res → Q (some (.int res.1)) (V res.2) → mC ρ (n + d + 2) 160 [.ref qX] (V s) Q) {R3 : mS → Option (Int32 × mS)} (hR3 : ∀ {s : mS} {res : (Int32 × mS)} {Q : mPo}, R3 s = some res → Q (some (.int res.1)) (V res.2) → mC ρ (n + d + 2) 161 [.ref qX] (V s) Q) {R4 : mS → Option (Int32 × mS)} (hR4 : ∀ {s : mS} {res : (Int32 × mS)} {Q : mPo}, R4 s = some res → Q (some (.int res.1)) (V res.2) → mC ρ (n + d + 2) 162 [.ref qX] (V s) Q) {R5 : mS → Option (Int32 × mS)} (hR5 : ∀ {s : mS} {res : (Int32 × mS)} {Q : mPo}, R5 s = some res → Q (some (.int res.1)) (V res.2) → mC ρ (n + d + 2) 164 [.ref qX] (V s) Q)  {res : (Int32 × mS)} {K5 : Int32 → mS → Option (Int32 × mS)} (hK5 : ∀ (y1 : Int32) (s : mS), K5 y1 s = some res → mG ρ (mC ρ (n + d + 2)) 11 3 cX11_both (some .int) P 5 [(0, .ref qX), (1, .int y1)] [] (V s)) (hP : P (some (.int res.1)) (V res.2)) (s : mS) (hf : gX11_both_b31 R0 R1 R2 R3 R4 R5 K5 s = some res) : mG ρ (mC ρ (n + d + 2)) 11 3 cX11_both (some .int) P 31 [(0, .ref qX)] [] (V s) := by
  unfold gX11_both_b31 at hf
  refine e_iconst (w := (nI 0)) dX11_both_31 (by decide) ?_
  refine e_pick [0] rfl ?_
  exact wX11_both_b32 hV hR0 hR1 hR2 hR3 hR4 hR5 hK5 hP (nI 0) s hf
set_option maxRecDepth 20000 in
theorem wX11_both_b5 {ρ : mRo} {n d : Nat} {P : mPo} {V : mS → List mE} (hV : mView LX V) {R0 : mS → Option (Int32 × mS)} (hR0 : ∀ {s : mS} {res : (Int32 × mS)} {Q : mPo}, R0 s = some res → Q (some (.int res.1)) (V res.2) → mC ρ (n + d + 2) 158 [.ref qX] (V s) Q) {R1 : mS → Option (Int32 × mS)} (hR1 : ∀ {s : mS} {res : (Int32 × mS)} {Q : mPo}, R1 s = some res → Q (some (.int res.1)) (V res.2) → mC ρ (n + d + 2) 159 [.ref qX] (V s) Q) {R2 : mS → Option (Int32 × mS)} (hR2 : ∀ {s : mS} {res : (Int32 × mS)} {Q : mPo}, R2 s = some res → Q (some (.int res.1)) (V res.2) → mC ρ (n + d + 2) 160 [.ref qX] (V s) Q) {R3 : mS → Option (Int32 × mS)} (hR3 : ∀ {s : mS} {res : (Int32 × mS)} {Q : mPo}, R3 s = some res → Q (some (.int res.1)) (V res.2) → mC ρ (n + d + 2) 161 [.ref qX] (V s) Q) {R4 : mS → Option (Int32 × mS)} (hR4 : ∀ {s : mS} {res : (Int32 × mS)} {Q : mPo}, R4 s = some res → Q (some (.int res.1)) (V res.2) → mC ρ (n + d + 2) 162 [.ref qX] (V s) Q) {R5 : mS → Option (Int32 × mS)} (hR5 : ∀ {s : mS} {res : (Int32 × mS)} {Q : mPo}, R5 s = some res → Q (some (.int res.1)) (V res.2) → mC ρ (n + d + 2) 164 [.ref qX] (V s) Q)  {res : (Int32 × mS)} (hP : P (some (.int res.1)) (V res.2)) : ∀ (k : Nat) (y1 : Int32) (s : mS), gX11_both_b5 R0 R1 R2 R3 R4 R5 k y1 s = some res → mG ρ (mC ρ (n + d + 2)) 11 3 cX11_both (some .int) P 5 [(0, .ref qX), (1, .int y1)] [] (V s) := by
  intro k
  induction k with
  | zero => intro y1 s hf; rw [gX11_both_b5] at hf; cases hf
  | succ k ih =>
    intro y1 s hf
    rw [gX11_both_b5] at hf
    refine e_aload_n 0 dX11_both_5 rfl rfl ?_
    refine e_bipush (w := (nI 38)) dX11_both_6 (by decide) ?_
    obtain ⟨r4, s5, hg, hf⟩ := bP_some hf
    refine e_callV (as := [.int (nI 38)]) (v := (some (.int r4))) (s' := s5) hV dX11_both_8 (Or.inl rfl) rfl rfl rfl rfl (Nat.le_of_ble_eq_true rfl) lx_X rfl rfl (fun Q hQ => tX11_takes (d := (n + d)) hV  hg hQ) ?_
    refine e_if_eq 36 dX11_both_11 (by decide) hf (fun hf => ?_) (fun hf => ?_)
    · refine e_iload_n 1 dX11_both_36 rfl rfl ?_
      obtain rfl := Option.some.inj hf
      exact e_iret dX11_both_37 trivial hP
    · refine e_aload_n 0 dX11_both_14 rfl rfl ?_
      obtain ⟨r6, s7, hg, hf⟩ := bP_some hf
      refine e_callV (as := []) (v := (some (.int r6))) (s' := s7) hV dX11_both_15 (Or.inl rfl) rfl rfl rfl rfl (Nat.le_of_ble_eq_true rfl) lx_X rfl rfl (fun Q hQ => hR2 hg hQ) ?_
      refine e_istore_n dX11_both_18 rfl (by decide) hf (fun v8 hf => ?_)
      refine e_iload_n 2 dX11_both_19 rfl rfl ?_
      refine e_if_eq 31 dX11_both_20 (by decide) hf (fun hf => ?_) (fun hf => ?_)
      · refine e_pick [1] rfl ?_
        exact wX11_both_b31 hV hR0 hR1 hR2 hR3 hR4 hR5 ih hP s7 hf
      · refine e_iload_n 0 dX11_both_23 rfl rfl ?_
        refine e_if_eq 31 dX11_both_24 (by decide) hf (fun hf => ?_) (fun hf => ?_)
        · refine e_pick [1] rfl ?_
          exact wX11_both_b31 hV hR0 hR1 hR2 hR3 hR4 hR5 ih hP s7 hf
        · refine e_iconst (w := (nI 1)) dX11_both_27 (by decide) ?_
          refine e_goto 32 dX11_both_28 (by decide) ?_
          refine e_pick [1] rfl ?_
          exact wX11_both_b32 hV hR0 hR1 hR2 hR3 hR4 hR5 ih hP (nI 1) s7 hf
set_option maxRecDepth 20000 in
theorem uX11_both {ρ : mRo} {n d : Nat} {P : mPo} {V : mS → List mE} (hV : mView LX V) {R0 : mS → Option (Int32 × mS)} (hR0 : ∀ {s : mS} {res : (Int32 × mS)} {Q : mPo}, R0 s = some res → Q (some (.int res.1)) (V res.2) → mC ρ (n + d + 2) 158 [.ref qX] (V s) Q) {R1 : mS → Option (Int32 × mS)} (hR1 : ∀ {s : mS} {res : (Int32 × mS)} {Q : mPo}, R1 s = some res → Q (some (.int res.1)) (V res.2) → mC ρ (n + d + 2) 159 [.ref qX] (V s) Q) {R2 : mS → Option (Int32 × mS)} (hR2 : ∀ {s : mS} {res : (Int32 × mS)} {Q : mPo}, R2 s = some res → Q (some (.int res.1)) (V res.2) → mC ρ (n + d + 2) 160 [.ref qX] (V s) Q) {R3 : mS → Option (Int32 × mS)} (hR3 : ∀ {s : mS} {res : (Int32 × mS)} {Q : mPo}, R3 s = some res → Q (some (.int res.1)) (V res.2) → mC ρ (n + d + 2) 161 [.ref qX] (V s) Q) {R4 : mS → Option (Int32 × mS)} (hR4 : ∀ {s : mS} {res : (Int32 × mS)} {Q : mPo}, R4 s = some res → Q (some (.int res.1)) (V res.2) → mC ρ (n + d + 2) 162 [.ref qX] (V s) Q) {R5 : mS → Option (Int32 × mS)} (hR5 : ∀ {s : mS} {res : (Int32 × mS)} {Q : mPo}, R5 s = some res → Q (some (.int res.1)) (V res.2) → mC ρ (n + d + 2) 164 [.ref qX] (V s) Q)  {s : mS} {res : (Int32 × mS)} (hf : gX11_both R0 R1 R2 R3 R4 R5 s = some res) (hP : P (some (.int res.1)) (V res.2)) : mC ρ (n + d + 2 + 1) 159 [.ref qX] (V s) P := by
  refine ⟨_, rfl, Nat.le_of_ble_eq_true rfl, by decide, ?_⟩
  show mG ρ (mC ρ (n + d + 2)) 11 3 cX11_both (some .int) P 0 [(0, .ref qX)] [] (V s)
  unfold gX11_both at hf
  refine e_aload_n 0 dX11_both_0 rfl rfl ?_
  obtain ⟨r1, s2, hg, hf⟩ := bP_some hf
  refine e_callV (as := []) (v := (some (.int r1))) (s' := s2) hV dX11_both_1 (Or.inl rfl) rfl rfl rfl rfl (Nat.le_of_ble_eq_true rfl) lx_X rfl rfl (fun Q hQ => hR2 hg hQ) ?_
  refine e_istore_n dX11_both_4 rfl (by decide) hf (fun v3 hf => ?_)
  refine e_pick [1, 0] rfl ?_
  exact wX11_both_b5 hV hR0 hR1 hR2 hR3 hR4 hR5 hP mFu v3 s2 hf

theorem dX11_either_0 : decode cX11_either 0 = .ok (.aload_n 0, 1) := by decide +kernel
theorem dX11_either_1 : decode cX11_either 1 = .ok (.invokevirtual 161, 3) := by decide +kernel
theorem dX11_either_4 : decode cX11_either 4 = .ok (.istore_n 1, 1) := by decide +kernel
theorem dX11_either_5 : decode cX11_either 5 = .ok (.aload_n 0, 1) := by decide +kernel
theorem dX11_either_6 : decode cX11_either 6 = .ok (.bipush 124, 2) := by decide +kernel
theorem dX11_either_8 : decode cX11_either 8 = .ok (.invokevirtual 164, 3) := by decide +kernel
theorem dX11_either_11 : decode cX11_either 11 = .ok (.ifCond .eq 25, 3) := by decide +kernel
theorem dX11_either_14 : decode cX11_either 14 = .ok (.aload_n 0, 1) := by decide +kernel
theorem dX11_either_15 : decode cX11_either 15 = .ok (.invokevirtual 161, 3) := by decide +kernel
theorem dX11_either_18 : decode cX11_either 18 = .ok (.istore_n 2, 1) := by decide +kernel
theorem dX11_either_19 : decode cX11_either 19 = .ok (.iload_n 1, 1) := by decide +kernel
theorem dX11_either_20 : decode cX11_either 20 = .ok (.ifCond .ne 7, 3) := by decide +kernel
theorem dX11_either_23 : decode cX11_either 23 = .ok (.iload_n 2, 1) := by decide +kernel
theorem dX11_either_24 : decode cX11_either 24 = .ok (.ifCond .eq 7, 3) := by decide +kernel
theorem dX11_either_27 : decode cX11_either 27 = .ok (.iconst 1, 1) := by decide +kernel
theorem dX11_either_28 : decode cX11_either 28 = .ok (.goto 4, 3) := by decide +kernel
theorem dX11_either_31 : decode cX11_either 31 = .ok (.iconst 0, 1) := by decide +kernel
theorem dX11_either_32 : decode cX11_either 32 = .ok (.istore_n 1, 1) := by decide +kernel
theorem dX11_either_33 : decode cX11_either 33 = .ok (.goto (-28), 3) := by decide +kernel
theorem dX11_either_36 : decode cX11_either 36 = .ok (.iload_n 1, 1) := by decide +kernel
theorem dX11_either_37 : decode cX11_either 37 = .ok (.ireturn, 1) := by decide +kernel
def gX11_either_b32 (R0 : mS → Option (Int32 × mS)) (R1 : mS → Option (Int32 × mS)) (R2 : mS → Option (Int32 × mS)) (R3 : mS → Option (Int32 × mS)) (R4 : mS → Option (Int32 × mS)) (R5 : mS → Option (Int32 × mS)) (K5 : Int32 → mS → Option (Int32 × mS)) (z0 : Int32) (s : mS) : Option (Int32 × mS) :=
  bnd z0 fun v9 =>
  K5 v9 s

def gX11_either_b27 (R0 : mS → Option (Int32 × mS)) (R1 : mS → Option (Int32 × mS)) (R2 : mS → Option (Int32 × mS)) (R3 : mS → Option (Int32 × mS)) (R4 : mS → Option (Int32 × mS)) (R5 : mS → Option (Int32 × mS)) (K5 : Int32 → mS → Option (Int32 × mS)) (s : mS) : Option (Int32 × mS) :=
  gX11_either_b32 R0 R1 R2 R3 R4 R5 K5 (nI 1) s

def gX11_either_b5 (R0 : mS → Option (Int32 × mS)) (R1 : mS → Option (Int32 × mS)) (R2 : mS → Option (Int32 × mS)) (R3 : mS → Option (Int32 × mS)) (R4 : mS → Option (Int32 × mS)) (R5 : mS → Option (Int32 × mS)) : Nat → Int32 → mS → Option (Int32 × mS)
  | 0, _, _ => none
  | k + 1, y1, s =>
    bP (fX11_takes (nI 124) s) fun r4 s5 =>
    if r4 = 0 then
      some (y1, s5)
    else
      bP (R1 s5) fun r6 s7 =>
      bnd r6 fun v8 =>
      if y1 = 0 then
        if v8 = 0 then
          gX11_either_b32 R0 R1 R2 R3 R4 R5 (fun u0 u1 => gX11_either_b5 R0 R1 R2 R3 R4 R5 k u0 u1) (nI 0) s7
        else
          gX11_either_b27 R0 R1 R2 R3 R4 R5 (fun u0 u1 => gX11_either_b5 R0 R1 R2 R3 R4 R5 k u0 u1) s7
      else
        gX11_either_b27 R0 R1 R2 R3 R4 R5 (fun u0 u1 => gX11_either_b5 R0 R1 R2 R3 R4 R5 k u0 u1) s7

def gX11_either (R0 : mS → Option (Int32 × mS)) (R1 : mS → Option (Int32 × mS)) (R2 : mS → Option (Int32 × mS)) (R3 : mS → Option (Int32 × mS)) (R4 : mS → Option (Int32 × mS)) (R5 : mS → Option (Int32 × mS)) (s : mS) : Option (Int32 × mS) :=
  bP (R1 s) fun r1 s2 =>
  bnd r1 fun v3 =>
  gX11_either_b5 R0 R1 R2 R3 R4 R5 mFu v3 s2

set_option maxRecDepth 20000 in
theorem wX11_either_b32 {ρ : mRo} {n d : Nat} {P : mPo} {V : mS → List mE} (hV : mView LX V) {R0 : mS → Option (Int32 × mS)} (hR0 : ∀ {s : mS} {res : (Int32 × mS)} {Q : mPo}, R0 s = some res → Q (some (.int res.1)) (V res.2) → mC ρ (n + d + 2) 158 [.ref qX] (V s) Q) {R1 : mS → Option (Int32 × mS)} (hR1 : ∀ {s : mS} {res : (Int32 × mS)} {Q : mPo}, R1 s = some res → Q (some (.int res.1)) (V res.2) → mC ρ (n + d + 2) 159 [.ref qX] (V s) Q) {R2 : mS → Option (Int32 × mS)} (hR2 : ∀ {s : mS} {res : (Int32 × mS)} {Q : mPo}, R2 s = some res → Q (some (.int res.1)) (V res.2) → mC ρ (n + d + 2) 160 [.ref qX] (V s) Q) {R3 : mS → Option (Int32 × mS)} (hR3 : ∀ {s : mS} {res : (Int32 × mS)} {Q : mPo}, R3 s = some res → Q (some (.int res.1)) (V res.2) → mC ρ (n + d + 2) 161 [.ref qX] (V s) Q) {R4 : mS → Option (Int32 × mS)} (hR4 : ∀ {s : mS} {res : (Int32 × mS)} {Q : mPo}, R4 s = some res → Q (some (.int res.1)) (V res.2) → mC ρ (n + d + 2) 162 [.ref qX] (V s) Q) {R5 : mS → Option (Int32 × mS)} (hR5 : ∀ {s : mS} {res : (Int32 × mS)} {Q : mPo}, R5 s = some res → Q (some (.int res.1)) (V res.2) → mC ρ (n + d + 2) 164 [.ref qX] (V s) Q)  {res : (Int32 × mS)} {K5 : Int32 → mS → Option (Int32 × mS)} (hK5 : ∀ (y1 : Int32) (s : mS), K5 y1 s = some res → mG ρ (mC ρ (n + d + 2)) 11 3 cX11_either (some .int) P 5 [(0, .ref qX), (1, .int y1)] [] (V s)) (hP : P (some (.int res.1)) (V res.2)) (z0 : Int32) (s : mS) (hf : gX11_either_b32 R0 R1 R2 R3 R4 R5 K5 z0 s = some res) : mG ρ (mC ρ (n + d + 2)) 11 3 cX11_either (some .int) P 32 [(0, .ref qX)] [.int z0] (V s) := by
  unfold gX11_either_b32 at hf
  refine e_istore_n dX11_either_32 rfl (by decide) hf (fun v9 hf => ?_)
  refine e_goto 5 dX11_either_33 (by decide) ?_
  refine e_pick [1, 0] rfl ?_
  exact hK5 v9 s hf
set_option maxRecDepth 20000 in
theorem wX11_either_b27 {ρ : mRo} {n d : Nat} {P : mPo} {V : mS → List mE} (hV : mView LX V) {R0 : mS → Option (Int32 × mS)} (hR0 : ∀ {s : mS} {res : (Int32 × mS)} {Q : mPo}, R0 s = some res → Q (some (.int res.1)) (V res.2) → mC ρ (n + d + 2) 158 [.ref qX] (V s) Q) {R1 : mS → Option (Int32 × mS)} (hR1 : ∀ {s : mS} {res : (Int32 × mS)} {Q : mPo}, R1 s = some res → Q (some (.int res.1)) (V res.2) → mC ρ (n + d + 2) 159 [.ref qX] (V s) Q) {R2 : mS → Option (Int32 × mS)} (hR2 : ∀ {s : mS} {res : (Int32 × mS)} {Q : mPo}, R2 s = some res → Q (some (.int res.1)) (V res.2) → mC ρ (n + d + 2) 160 [.ref qX] (V s) Q) {R3 : mS → Option (Int32 × mS)} (hR3 : ∀ {s : mS} {res : (Int32 × mS)} {Q : mPo}, R3 s = some res → Q (some (.int res.1)) (V res.2) → mC ρ (n + d + 2) 161 [.ref qX] (V s) Q) {R4 : mS → Option (Int32 × mS)} (hR4 : ∀ {s : mS} {res : (Int32 × mS)} {Q : mPo}, R4 s = some res → Q (some (.int res.1)) (V res.2) → mC ρ (n + d + 2) 162 [.ref qX] (V s) Q) {R5 : mS → Option (Int32 × mS)} (hR5 : ∀ {s : mS} {res : (Int32 × mS)} {Q : mPo}, R5 s = some res → Q (some (.int res.1)) (V res.2) → mC ρ (n + d + 2) 164 [.ref qX] (V s) Q)  {res : (Int32 × mS)} {K5 : Int32 → mS → Option (Int32 × mS)} (hK5 : ∀ (y1 : Int32) (s : mS), K5 y1 s = some res → mG ρ (mC ρ (n + d + 2)) 11 3 cX11_either (some .int) P 5 [(0, .ref qX), (1, .int y1)] [] (V s)) (hP : P (some (.int res.1)) (V res.2)) (s : mS) (hf : gX11_either_b27 R0 R1 R2 R3 R4 R5 K5 s = some res) : mG ρ (mC ρ (n + d + 2)) 11 3 cX11_either (some .int) P 27 [(0, .ref qX)] [] (V s) := by
  unfold gX11_either_b27 at hf
  refine e_iconst (w := (nI 1)) dX11_either_27 (by decide) ?_
  refine e_goto 32 dX11_either_28 (by decide) ?_
  refine e_pick [0] rfl ?_
  exact wX11_either_b32 hV hR0 hR1 hR2 hR3 hR4 hR5 hK5 hP (nI 1) s hf
set_option maxRecDepth 20000 in
theorem wX11_either_b5 {ρ : mRo} {n d : Nat} {P : mPo} {V : mS → List mE} (hV : mView LX V) {R0 : mS → Option (Int32 × mS)} (hR0 : ∀ {s : mS} {res : (Int32 × mS)} {Q : mPo}, R0 s = some res → Q (some (.int res.1)) (V res.2) → mC ρ (n + d + 2) 158 [.ref qX] (V s) Q) {R1 : mS → Option (Int32 × mS)} (hR1 : ∀ {s : mS} {res : (Int32 × mS)} {Q : mPo}, R1 s = some res → Q (some (.int res.1)) (V res.2) → mC ρ (n + d + 2) 159 [.ref qX] (V s) Q) {R2 : mS → Option (Int32 × mS)} (hR2 : ∀ {s : mS} {res : (Int32 × mS)} {Q : mPo}, R2 s = some res → Q (some (.int res.1)) (V res.2) → mC ρ (n + d + 2) 160 [.ref qX] (V s) Q) {R3 : mS → Option (Int32 × mS)} (hR3 : ∀ {s : mS} {res : (Int32 × mS)} {Q : mPo}, R3 s = some res → Q (some (.int res.1)) (V res.2) → mC ρ (n + d + 2) 161 [.ref qX] (V s) Q) {R4 : mS → Option (Int32 × mS)} (hR4 : ∀ {s : mS} {res : (Int32 × mS)} {Q : mPo}, R4 s = some res → Q (some (.int res.1)) (V res.2) → mC ρ (n + d + 2) 162 [.ref qX] (V s) Q) {R5 : mS → Option (Int32 × mS)} (hR5 : ∀ {s : mS} {res : (Int32 × mS)} {Q : mPo}, R5 s = some res → Q (some (.int res.1)) (V res.2) → mC ρ (n + d + 2) 164 [.ref qX] (V s) Q)  {res : (Int32 × mS)} (hP : P (some (.int res.1)) (V res.2)) : ∀ (k : Nat) (y1 : Int32) (s : mS), gX11_either_b5 R0 R1 R2 R3 R4 R5 k y1 s = some res → mG ρ (mC ρ (n + d + 2)) 11 3 cX11_either (some .int) P 5 [(0, .ref qX), (1, .int y1)] [] (V s) := by
  intro k
  induction k with
  | zero => intro y1 s hf; rw [gX11_either_b5] at hf; cases hf
  | succ k ih =>
    intro y1 s hf
    rw [gX11_either_b5] at hf
    refine e_aload_n 0 dX11_either_5 rfl rfl ?_
    refine e_bipush (w := (nI 124)) dX11_either_6 (by decide) ?_
    obtain ⟨r4, s5, hg, hf⟩ := bP_some hf
    refine e_callV (as := [.int (nI 124)]) (v := (some (.int r4))) (s' := s5) hV dX11_either_8 (Or.inl rfl) rfl rfl rfl rfl (Nat.le_of_ble_eq_true rfl) lx_X rfl rfl (fun Q hQ => tX11_takes (d := (n + d)) hV  hg hQ) ?_
    refine e_if_eq 36 dX11_either_11 (by decide) hf (fun hf => ?_) (fun hf => ?_)
    · refine e_iload_n 1 dX11_either_36 rfl rfl ?_
      obtain rfl := Option.some.inj hf
      exact e_iret dX11_either_37 trivial hP
    · refine e_aload_n 0 dX11_either_14 rfl rfl ?_
      obtain ⟨r6, s7, hg, hf⟩ := bP_some hf
      refine e_callV (as := []) (v := (some (.int r6))) (s' := s7) hV dX11_either_15 (Or.inl rfl) rfl rfl rfl rfl (Nat.le_of_ble_eq_true rfl) lx_X rfl rfl (fun Q hQ => hR1 hg hQ) ?_
      refine e_istore_n dX11_either_18 rfl (by decide) hf (fun v8 hf => ?_)
      refine e_iload_n 2 dX11_either_19 rfl rfl ?_
      refine e_if_ne 27 dX11_either_20 (by decide) hf (fun hf => ?_) (fun hf => ?_)
      · refine e_pick [1] rfl ?_
        exact wX11_either_b27 hV hR0 hR1 hR2 hR3 hR4 hR5 ih hP s7 hf
      · refine e_iload_n 0 dX11_either_23 rfl rfl ?_
        refine e_if_eq 31 dX11_either_24 (by decide) hf (fun hf => ?_) (fun hf => ?_)
        · refine e_iconst (w := (nI 0)) dX11_either_31 (by decide) ?_
          refine e_pick [1] rfl ?_
          exact wX11_either_b32 hV hR0 hR1 hR2 hR3 hR4 hR5 ih hP (nI 0) s7 hf
        · refine e_pick [1] rfl ?_
          exact wX11_either_b27 hV hR0 hR1 hR2 hR3 hR4 hR5 ih hP s7 hf
set_option maxRecDepth 20000 in
theorem uX11_either {ρ : mRo} {n d : Nat} {P : mPo} {V : mS → List mE} (hV : mView LX V) {R0 : mS → Option (Int32 × mS)} (hR0 : ∀ {s : mS} {res : (Int32 × mS)} {Q : mPo}, R0 s = some res → Q (some (.int res.1)) (V res.2) → mC ρ (n + d + 2) 158 [.ref qX] (V s) Q) {R1 : mS → Option (Int32 × mS)} (hR1 : ∀ {s : mS} {res : (Int32 × mS)} {Q : mPo}, R1 s = some res → Q (some (.int res.1)) (V res.2) → mC ρ (n + d + 2) 159 [.ref qX] (V s) Q) {R2 : mS → Option (Int32 × mS)} (hR2 : ∀ {s : mS} {res : (Int32 × mS)} {Q : mPo}, R2 s = some res → Q (some (.int res.1)) (V res.2) → mC ρ (n + d + 2) 160 [.ref qX] (V s) Q) {R3 : mS → Option (Int32 × mS)} (hR3 : ∀ {s : mS} {res : (Int32 × mS)} {Q : mPo}, R3 s = some res → Q (some (.int res.1)) (V res.2) → mC ρ (n + d + 2) 161 [.ref qX] (V s) Q) {R4 : mS → Option (Int32 × mS)} (hR4 : ∀ {s : mS} {res : (Int32 × mS)} {Q : mPo}, R4 s = some res → Q (some (.int res.1)) (V res.2) → mC ρ (n + d + 2) 162 [.ref qX] (V s) Q) {R5 : mS → Option (Int32 × mS)} (hR5 : ∀ {s : mS} {res : (Int32 × mS)} {Q : mPo}, R5 s = some res → Q (some (.int res.1)) (V res.2) → mC ρ (n + d + 2) 164 [.ref qX] (V s) Q)  {s : mS} {res : (Int32 × mS)} (hf : gX11_either R0 R1 R2 R3 R4 R5 s = some res) (hP : P (some (.int res.1)) (V res.2)) : mC ρ (n + d + 2 + 1) 158 [.ref qX] (V s) P := by
  refine ⟨_, rfl, Nat.le_of_ble_eq_true rfl, by decide, ?_⟩
  show mG ρ (mC ρ (n + d + 2)) 11 3 cX11_either (some .int) P 0 [(0, .ref qX)] [] (V s)
  unfold gX11_either at hf
  refine e_aload_n 0 dX11_either_0 rfl rfl ?_
  obtain ⟨r1, s2, hg, hf⟩ := bP_some hf
  refine e_callV (as := []) (v := (some (.int r1))) (s' := s2) hV dX11_either_1 (Or.inl rfl) rfl rfl rfl rfl (Nat.le_of_ble_eq_true rfl) lx_X rfl rfl (fun Q hQ => hR1 hg hQ) ?_
  refine e_istore_n dX11_either_4 rfl (by decide) hf (fun v3 hf => ?_)
  refine e_pick [1, 0] rfl ?_
  exact wX11_either_b5 hV hR0 hR1 hR2 hR3 hR4 hR5 hP mFu v3 s2 hf

def sccX11_either : Nat → (mS → Option (Int32 × mS)) × (mS → Option (Int32 × mS)) × (mS → Option (Int32 × mS)) × (mS → Option (Int32 × mS)) × (mS → Option (Int32 × mS)) × (mS → Option (Int32 × mS))
  | 0 => (fun _ => none, fun _ => none, fun _ => none, fun _ => none, fun _ => none, fun _ => none)
  | n + 1 => (gX11_either ((sccX11_either n).1) ((sccX11_either n).2.1) ((sccX11_either n).2.2.1) ((sccX11_either n).2.2.2.1) ((sccX11_either n).2.2.2.2.1) ((sccX11_either n).2.2.2.2.2), gX11_both ((sccX11_either n).1) ((sccX11_either n).2.1) ((sccX11_either n).2.2.1) ((sccX11_either n).2.2.2.1) ((sccX11_either n).2.2.2.2.1) ((sccX11_either n).2.2.2.2.2), gX11_compared ((sccX11_either n).1) ((sccX11_either n).2.1) ((sccX11_either n).2.2.1) ((sccX11_either n).2.2.2.1) ((sccX11_either n).2.2.2.2.1) ((sccX11_either n).2.2.2.2.2), gX11_sums ((sccX11_either n).1) ((sccX11_either n).2.1) ((sccX11_either n).2.2.1) ((sccX11_either n).2.2.2.1) ((sccX11_either n).2.2.2.2.1) ((sccX11_either n).2.2.2.2.2), gX11_product ((sccX11_either n).1) ((sccX11_either n).2.1) ((sccX11_either n).2.2.1) ((sccX11_either n).2.2.2.1) ((sccX11_either n).2.2.2.2.1) ((sccX11_either n).2.2.2.2.2), gX11_one ((sccX11_either n).1) ((sccX11_either n).2.1) ((sccX11_either n).2.2.1) ((sccX11_either n).2.2.2.1) ((sccX11_either n).2.2.2.2.1) ((sccX11_either n).2.2.2.2.2))
theorem tsccX11_either {ρ : mRo} {d : Nat} {V : mS → List mE} (hV : mView LX V) : ∀ n : Nat, (∀ {s : mS} {res : (Int32 × mS)} {Q : mPo}, (sccX11_either n).1 s = some res → Q (some (.int res.1)) (V res.2) → mC ρ (n + d + 2) 158 [.ref qX] (V s) Q) ∧ (∀ {s : mS} {res : (Int32 × mS)} {Q : mPo}, (sccX11_either n).2.1 s = some res → Q (some (.int res.1)) (V res.2) → mC ρ (n + d + 2) 159 [.ref qX] (V s) Q) ∧ (∀ {s : mS} {res : (Int32 × mS)} {Q : mPo}, (sccX11_either n).2.2.1 s = some res → Q (some (.int res.1)) (V res.2) → mC ρ (n + d + 2) 160 [.ref qX] (V s) Q) ∧ (∀ {s : mS} {res : (Int32 × mS)} {Q : mPo}, (sccX11_either n).2.2.2.1 s = some res → Q (some (.int res.1)) (V res.2) → mC ρ (n + d + 2) 161 [.ref qX] (V s) Q) ∧ (∀ {s : mS} {res : (Int32 × mS)} {Q : mPo}, (sccX11_either n).2.2.2.2.1 s = some res → Q (some (.int res.1)) (V res.2) → mC ρ (n + d + 2) 162 [.ref qX] (V s) Q) ∧ (∀ {s : mS} {res : (Int32 × mS)} {Q : mPo}, (sccX11_either n).2.2.2.2.2 s = some res → Q (some (.int res.1)) (V res.2) → mC ρ (n + d + 2) 164 [.ref qX] (V s) Q) := by
  intro n
  induction n with
  | zero => exact ⟨(fun hf _ => nomatch hf), (fun hf _ => nomatch hf), (fun hf _ => nomatch hf), (fun hf _ => nomatch hf), (fun hf _ => nomatch hf), (fun hf _ => nomatch hf)⟩
  | succ n ih =>
    rw [show n + 1 + d + 2 = n + d + 2 + 1 by omega]
    exact ⟨(fun hf hP => uX11_either hV (ih).1 (ih).2.1 (ih).2.2.1 (ih).2.2.2.1 (ih).2.2.2.2.1 (ih).2.2.2.2.2 hf hP), (fun hf hP => uX11_both hV (ih).1 (ih).2.1 (ih).2.2.1 (ih).2.2.2.1 (ih).2.2.2.2.1 (ih).2.2.2.2.2 hf hP), (fun hf hP => uX11_compared hV (ih).1 (ih).2.1 (ih).2.2.1 (ih).2.2.2.1 (ih).2.2.2.2.1 (ih).2.2.2.2.2 hf hP), (fun hf hP => uX11_sums hV (ih).1 (ih).2.1 (ih).2.2.1 (ih).2.2.2.1 (ih).2.2.2.2.1 (ih).2.2.2.2.2 hf hP), (fun hf hP => uX11_product hV (ih).1 (ih).2.1 (ih).2.2.1 (ih).2.2.2.1 (ih).2.2.2.2.1 (ih).2.2.2.2.2 hf hP), (fun hf hP => uX11_one hV (ih).1 (ih).2.1 (ih).2.2.1 (ih).2.2.2.1 (ih).2.2.2.2.1 (ih).2.2.2.2.2 hf hP)⟩
def fX11_either (s : mS) : Option (Int32 × mS) := (sccX11_either 60).1 s
theorem tX11_either {ρ : mRo} {d : Nat} {P : mPo} {V : mS → List mE} (hV : mView LX V) {s : mS} {res : (Int32 × mS)} (hf : fX11_either s = some res) (hP : P (some (.int res.1)) (V res.2)) : mC ρ (d + 62) 158 [.ref qX] (V s) P := by
  rw [show d + 62 = 60 + d + 2 by omega]
  exact (tsccX11_either hV 60).1 hf hP
def fX11_both (s : mS) : Option (Int32 × mS) := (sccX11_either 60).2.1 s
theorem tX11_both {ρ : mRo} {d : Nat} {P : mPo} {V : mS → List mE} (hV : mView LX V) {s : mS} {res : (Int32 × mS)} (hf : fX11_both s = some res) (hP : P (some (.int res.1)) (V res.2)) : mC ρ (d + 62) 159 [.ref qX] (V s) P := by
  rw [show d + 62 = 60 + d + 2 by omega]
  exact (tsccX11_either hV 60).2.1 hf hP
def fX11_compared (s : mS) : Option (Int32 × mS) := (sccX11_either 60).2.2.1 s
theorem tX11_compared {ρ : mRo} {d : Nat} {P : mPo} {V : mS → List mE} (hV : mView LX V) {s : mS} {res : (Int32 × mS)} (hf : fX11_compared s = some res) (hP : P (some (.int res.1)) (V res.2)) : mC ρ (d + 62) 160 [.ref qX] (V s) P := by
  rw [show d + 62 = 60 + d + 2 by omega]
  exact (tsccX11_either hV 60).2.2.1 hf hP
def fX11_sums (s : mS) : Option (Int32 × mS) := (sccX11_either 60).2.2.2.1 s
theorem tX11_sums {ρ : mRo} {d : Nat} {P : mPo} {V : mS → List mE} (hV : mView LX V) {s : mS} {res : (Int32 × mS)} (hf : fX11_sums s = some res) (hP : P (some (.int res.1)) (V res.2)) : mC ρ (d + 62) 161 [.ref qX] (V s) P := by
  rw [show d + 62 = 60 + d + 2 by omega]
  exact (tsccX11_either hV 60).2.2.2.1 hf hP
def fX11_product (s : mS) : Option (Int32 × mS) := (sccX11_either 60).2.2.2.2.1 s
theorem tX11_product {ρ : mRo} {d : Nat} {P : mPo} {V : mS → List mE} (hV : mView LX V) {s : mS} {res : (Int32 × mS)} (hf : fX11_product s = some res) (hP : P (some (.int res.1)) (V res.2)) : mC ρ (d + 62) 162 [.ref qX] (V s) P := by
  rw [show d + 62 = 60 + d + 2 by omega]
  exact (tsccX11_either hV 60).2.2.2.2.1 hf hP
def fX11_one (s : mS) : Option (Int32 × mS) := (sccX11_either 60).2.2.2.2.2 s
theorem tX11_one {ρ : mRo} {d : Nat} {P : mPo} {V : mS → List mE} (hV : mView LX V) {s : mS} {res : (Int32 × mS)} (hf : fX11_one s = some res) (hP : P (some (.int res.1)) (V res.2)) : mC ρ (d + 62) 164 [.ref qX] (V s) P := by
  rw [show d + 62 = 60 + d + 2 by omega]
  exact (tsccX11_either hV 60).2.2.2.2.2 hf hP

theorem dX11_workOut_0 : decode cX11_workOut 0 = .ok (.aload_n 0, 1) := by decide +kernel
theorem dX11_workOut_1 : decode cX11_workOut 1 = .ok (.iload_n 1, 1) := by decide +kernel
theorem dX11_workOut_2 : decode cX11_workOut 2 = .ok (.putfield 151, 3) := by decide +kernel
theorem dX11_workOut_5 : decode cX11_workOut 5 = .ok (.aload_n 0, 1) := by decide +kernel
theorem dX11_workOut_6 : decode cX11_workOut 6 = .ok (.iconst 0, 1) := by decide +kernel
theorem dX11_workOut_7 : decode cX11_workOut 7 = .ok (.putfield 145, 3) := by decide +kernel
theorem dX11_workOut_10 : decode cX11_workOut 10 = .ok (.aload_n 0, 1) := by decide +kernel
theorem dX11_workOut_11 : decode cX11_workOut 11 = .ok (.iload_n 2, 1) := by decide +kernel
theorem dX11_workOut_12 : decode cX11_workOut 12 = .ok (.putfield 148, 3) := by decide +kernel
theorem dX11_workOut_15 : decode cX11_workOut 15 = .ok (.aload_n 0, 1) := by decide +kernel
theorem dX11_workOut_16 : decode cX11_workOut 16 = .ok (.iconst (-1), 1) := by decide +kernel
theorem dX11_workOut_17 : decode cX11_workOut 17 = .ok (.putfield 154, 3) := by decide +kernel
theorem dX11_workOut_20 : decode cX11_workOut 20 = .ok (.aload_n 0, 1) := by decide +kernel
theorem dX11_workOut_21 : decode cX11_workOut 21 = .ok (.iconst 0, 1) := by decide +kernel
theorem dX11_workOut_22 : decode cX11_workOut 22 = .ok (.putfield 179, 3) := by decide +kernel
theorem dX11_workOut_25 : decode cX11_workOut 25 = .ok (.iconst 0, 1) := by decide +kernel
theorem dX11_workOut_26 : decode cX11_workOut 26 = .ok (.istore_n 3, 1) := by decide +kernel
theorem dX11_workOut_27 : decode cX11_workOut 27 = .ok (.iconst 0, 1) := by decide +kernel
theorem dX11_workOut_28 : decode cX11_workOut 28 = .ok (.istore 4, 2) := by decide +kernel
theorem dX11_workOut_30 : decode cX11_workOut 30 = .ok (.iconst 1, 1) := by decide +kernel
theorem dX11_workOut_31 : decode cX11_workOut 31 = .ok (.istore 5, 2) := by decide +kernel
theorem dX11_workOut_33 : decode cX11_workOut 33 = .ok (.iload 5, 2) := by decide +kernel
theorem dX11_workOut_35 : decode cX11_workOut 35 = .ok (.ifCond .eq 72, 3) := by decide +kernel
theorem dX11_workOut_38 : decode cX11_workOut 38 = .ok (.aload_n 0, 1) := by decide +kernel
theorem dX11_workOut_39 : decode cX11_workOut 39 = .ok (.invokevirtual 185, 3) := by decide +kernel
theorem dX11_workOut_42 : decode cX11_workOut 42 = .ok (.istore 6, 2) := by decide +kernel
theorem dX11_workOut_44 : decode cX11_workOut 44 = .ok (.iconst 1, 1) := by decide +kernel
theorem dX11_workOut_45 : decode cX11_workOut 45 = .ok (.istore 7, 2) := by decide +kernel
theorem dX11_workOut_47 : decode cX11_workOut 47 = .ok (.aload_n 0, 1) := by decide +kernel
theorem dX11_workOut_48 : decode cX11_workOut 48 = .ok (.bipush 63, 2) := by decide +kernel
theorem dX11_workOut_50 : decode cX11_workOut 50 = .ok (.invokevirtual 164, 3) := by decide +kernel
theorem dX11_workOut_53 : decode cX11_workOut 53 = .ok (.ifCond .eq 21, 3) := by decide +kernel
theorem dX11_workOut_56 : decode cX11_workOut 56 = .ok (.iload 6, 2) := by decide +kernel
theorem dX11_workOut_58 : decode cX11_workOut 58 = .ok (.ifCond .eq 7, 3) := by decide +kernel
theorem dX11_workOut_61 : decode cX11_workOut 61 = .ok (.iconst 1, 1) := by decide +kernel
theorem dX11_workOut_62 : decode cX11_workOut 62 = .ok (.goto 4, 3) := by decide +kernel
theorem dX11_workOut_65 : decode cX11_workOut 65 = .ok (.iconst 0, 1) := by decide +kernel
theorem dX11_workOut_66 : decode cX11_workOut 66 = .ok (.istore 7, 2) := by decide +kernel
theorem dX11_workOut_68 : decode cX11_workOut 68 = .ok (.aload_n 0, 1) := by decide +kernel
theorem dX11_workOut_69 : decode cX11_workOut 69 = .ok (.invokevirtual 185, 3) := by decide +kernel
theorem dX11_workOut_72 : decode cX11_workOut 72 = .ok (.istore 6, 2) := by decide +kernel
theorem dX11_workOut_74 : decode cX11_workOut 74 = .ok (.aload_n 0, 1) := by decide +kernel
theorem dX11_workOut_75 : decode cX11_workOut 75 = .ok (.getfield 154, 3) := by decide +kernel
theorem dX11_workOut_78 : decode cX11_workOut 78 = .ok (.ifCond .ge 18, 3) := by decide +kernel
theorem dX11_workOut_81 : decode cX11_workOut 81 = .ok (.iload 7, 2) := by decide +kernel
theorem dX11_workOut_83 : decode cX11_workOut 83 = .ok (.ifCond .eq 13, 3) := by decide +kernel
theorem dX11_workOut_86 : decode cX11_workOut 86 = .ok (.iload_n 3, 1) := by decide +kernel
theorem dX11_workOut_87 : decode cX11_workOut 87 = .ok (.ifCond .ne 9, 3) := by decide +kernel
theorem dX11_workOut_90 : decode cX11_workOut 90 = .ok (.iconst 1, 1) := by decide +kernel
theorem dX11_workOut_91 : decode cX11_workOut 91 = .ok (.istore_n 3, 1) := by decide +kernel
theorem dX11_workOut_92 : decode cX11_workOut 92 = .ok (.iload 6, 2) := by decide +kernel
theorem dX11_workOut_94 : decode cX11_workOut 94 = .ok (.istore 4, 2) := by decide +kernel
theorem dX11_workOut_96 : decode cX11_workOut 96 = .ok (.aload_n 0, 1) := by decide +kernel
theorem dX11_workOut_97 : decode cX11_workOut 97 = .ok (.bipush 59, 2) := by decide +kernel
theorem dX11_workOut_99 : decode cX11_workOut 99 = .ok (.invokevirtual 164, 3) := by decide +kernel
theorem dX11_workOut_102 : decode cX11_workOut 102 = .ok (.istore 5, 2) := by decide +kernel
theorem dX11_workOut_104 : decode cX11_workOut 104 = .ok (.goto (-71), 3) := by decide +kernel
theorem dX11_workOut_107 : decode cX11_workOut 107 = .ok (.aload_n 0, 1) := by decide +kernel
theorem dX11_workOut_108 : decode cX11_workOut 108 = .ok (.getfield 154, 3) := by decide +kernel
theorem dX11_workOut_111 : decode cX11_workOut 111 = .ok (.ifCond .ge 19, 3) := by decide +kernel
theorem dX11_workOut_114 : decode cX11_workOut 114 = .ok (.aload_n 0, 1) := by decide +kernel
theorem dX11_workOut_115 : decode cX11_workOut 115 = .ok (.getfield 145, 3) := by decide +kernel
theorem dX11_workOut_118 : decode cX11_workOut 118 = .ok (.aload_n 0, 1) := by decide +kernel
theorem dX11_workOut_119 : decode cX11_workOut 119 = .ok (.getfield 148, 3) := by decide +kernel
theorem dX11_workOut_122 : decode cX11_workOut 122 = .ok (.if_icmp .ge 8, 3) := by decide +kernel
theorem dX11_workOut_125 : decode cX11_workOut 125 = .ok (.aload_n 0, 1) := by decide +kernel
theorem dX11_workOut_126 : decode cX11_workOut 126 = .ok (.invokevirtual 182, 3) := by decide +kernel
theorem dX11_workOut_129 : decode cX11_workOut 129 = .ok (.ireturn, 1) := by decide +kernel
theorem dX11_workOut_130 : decode cX11_workOut 130 = .ok (.iload 4, 2) := by decide +kernel
theorem dX11_workOut_132 : decode cX11_workOut 132 = .ok (.ireturn, 1) := by decide +kernel
def fX11_workOut_b96 (K33 : Int32 → Int32 → Int32 → mS → Option (Int32 × mS)) (y3 : Int32) (y4 : Int32) (s : mS) : Option (Int32 × mS) :=
  bP (fX11_takes (nI 59) s) fun r17 s18 =>
  bnd r17 fun v19 =>
  K33 y3 y4 v19 s18

def fX11_workOut_b74 (K33 : Int32 → Int32 → Int32 → mS → Option (Int32 × mS)) (y3 : Int32) (y4 : Int32) (y6 : Int32) (y7 : Int32) (s : mS) : Option (Int32 × mS) :=
  if 0 ≤ (gI s iX_fault) then
    fX11_workOut_b96 K33 y3 y4 s
  else
    if y7 = 0 then
      fX11_workOut_b96 K33 y3 y4 s
    else
      if y3 = 0 then
        bnd (nI 1) fun v20 =>
        bnd y6 fun v21 =>
        fX11_workOut_b96 K33 v20 v21 s
      else
        fX11_workOut_b96 K33 y3 y4 s

def fX11_workOut_b66 (K33 : Int32 → Int32 → Int32 → mS → Option (Int32 × mS)) (y3 : Int32) (y4 : Int32) (z0 : Int32) (s : mS) : Option (Int32 × mS) :=
  bnd z0 fun v22 =>
  bP (fX11_either s) fun r23 s24 =>
  bnd r23 fun v25 =>
  fX11_workOut_b74 K33 y3 y4 v25 v22 s24

def fX11_workOut_b33 : Nat → Int32 → Int32 → Int32 → mS → Option (Int32 × mS)
  | 0, _, _, _, _ => none
  | k + 1, y3, y4, y5, s =>
    if y5 = 0 then
      if 0 ≤ (gI s iX_fault) then
        some (y4, s)
      else
        if (gI s iX_ends) ≤ (gI s iX_at) then
          some (y4, s)
        else
          bP (fX11_wrong s) fun r9 s10 =>
          some (r9, s10)
    else
      bP (fX11_either s) fun r11 s12 =>
      bnd r11 fun v13 =>
      bnd (nI 1) fun v14 =>
      bP (fX11_takes (nI 63) s12) fun r15 s16 =>
      if r15 = 0 then
        fX11_workOut_b74 (fun u0 u1 u2 u3 => fX11_workOut_b33 k u0 u1 u2 u3) y3 y4 v13 v14 s16
      else
        if v13 = 0 then
          fX11_workOut_b66 (fun u0 u1 u2 u3 => fX11_workOut_b33 k u0 u1 u2 u3) y3 y4 (nI 0) s16
        else
          fX11_workOut_b66 (fun u0 u1 u2 u3 => fX11_workOut_b33 k u0 u1 u2 u3) y3 y4 (nI 1) s16

def fX11_workOut (x1 : Int32) (x2 : Int32) (s : mS) : Option (Int32 × mS) :=
  bnd (pI s iX_base x1) fun s1 =>
  bnd (pI s1 iX_at (nI 0)) fun s2 =>
  bnd (pI s2 iX_ends x2) fun s3 =>
  bnd (pI s3 iX_fault (-1)) fun s4 =>
  bnd (pI s4 iX_opened (nI 0)) fun s5 =>
  bnd (nI 0) fun v6 =>
  bnd (nI 0) fun v7 =>
  bnd (nI 1) fun v8 =>
  fX11_workOut_b33 mFu v6 v7 v8 s5

set_option maxRecDepth 20000 in
theorem wX11_workOut_b96 {ρ : mRo} {d : Nat} {P : mPo} {V : mS → List mE} (hV : mView LX V)  {res : (Int32 × mS)} {K33 : Int32 → Int32 → Int32 → mS → Option (Int32 × mS)} (hK33 : ∀ (y3 : Int32) (y4 : Int32) (y5 : Int32) (s : mS), K33 y3 y4 y5 s = some res → mG ρ (mC ρ (d + 62)) 11 8 cX11_workOut (some .int) P 33 [(0, .ref qX), (3, .int y3), (4, .int y4), (5, .int y5)] [] (V s)) (hP : P (some (.int res.1)) (V res.2)) (y3 : Int32) (y4 : Int32) (s : mS) (hf : fX11_workOut_b96 K33 y3 y4 s = some res) : mG ρ (mC ρ (d + 62)) 11 8 cX11_workOut (some .int) P 96 [(0, .ref qX), (3, .int y3), (4, .int y4)] [] (V s) := by
  unfold fX11_workOut_b96 at hf
  refine e_aload_n 0 dX11_workOut_96 rfl rfl ?_
  refine e_bipush (w := (nI 59)) dX11_workOut_97 (by decide) ?_
  obtain ⟨r17, s18, hg, hf⟩ := bP_some hf
  refine e_callV (as := [.int (nI 59)]) (v := (some (.int r17))) (s' := s18) hV dX11_workOut_99 (Or.inl rfl) rfl rfl rfl rfl (Nat.le_of_ble_eq_true rfl) lx_X rfl rfl (fun Q hQ => tX11_takes (d := (d + 60)) hV  hg hQ) ?_
  refine e_istore dX11_workOut_102 (by decide) hf (fun v19 hf => ?_)
  refine e_goto 33 dX11_workOut_104 (by decide) ?_
  refine e_pick [1, 2, 3, 0] rfl ?_
  exact hK33 y3 y4 v19 s18 hf
set_option maxRecDepth 20000 in
theorem wX11_workOut_b74 {ρ : mRo} {d : Nat} {P : mPo} {V : mS → List mE} (hV : mView LX V)  {res : (Int32 × mS)} {K33 : Int32 → Int32 → Int32 → mS → Option (Int32 × mS)} (hK33 : ∀ (y3 : Int32) (y4 : Int32) (y5 : Int32) (s : mS), K33 y3 y4 y5 s = some res → mG ρ (mC ρ (d + 62)) 11 8 cX11_workOut (some .int) P 33 [(0, .ref qX), (3, .int y3), (4, .int y4), (5, .int y5)] [] (V s)) (hP : P (some (.int res.1)) (V res.2)) (y3 : Int32) (y4 : Int32) (y6 : Int32) (y7 : Int32) (s : mS) (hf : fX11_workOut_b74 K33 y3 y4 y6 y7 s = some res) : mG ρ (mC ρ (d + 62)) 11 8 cX11_workOut (some .int) P 74 [(0, .ref qX), (3, .int y3), (4, .int y4), (6, .int y6), (7, .int y7)] [] (V s) := by
  unfold fX11_workOut_b74 at hf
  refine e_aload_n 0 dX11_workOut_74 rfl rfl ?_
  refine e_geti hV dX11_workOut_75 rfl lx_X rfl ?_
  refine e_if_ge 96 dX11_workOut_78 (by decide) hf (fun hf => ?_) (fun hf => ?_)
  · refine e_pick [0, 1, 2] rfl ?_
    exact wX11_workOut_b96 hV hK33 hP y3 y4 s hf
  · refine e_iload 4 dX11_workOut_81 rfl ?_
    refine e_if_eq 96 dX11_workOut_83 (by decide) hf (fun hf => ?_) (fun hf => ?_)
    · refine e_pick [0, 1, 2] rfl ?_
      exact wX11_workOut_b96 hV hK33 hP y3 y4 s hf
    · refine e_iload_n 1 dX11_workOut_86 rfl rfl ?_
      refine e_if_ne 96 dX11_workOut_87 (by decide) hf (fun hf => ?_) (fun hf => ?_)
      · refine e_pick [0, 1, 2] rfl ?_
        exact wX11_workOut_b96 hV hK33 hP y3 y4 s hf
      · refine e_iconst (w := (nI 1)) dX11_workOut_90 (by decide) ?_
        refine e_istore_n dX11_workOut_91 rfl (by decide) hf (fun v20 hf => ?_)
        refine e_iload 3 dX11_workOut_92 rfl ?_
        refine e_istore dX11_workOut_94 (by decide) hf (fun v21 hf => ?_)
        refine e_pick [2, 1, 0] rfl ?_
        exact wX11_workOut_b96 hV hK33 hP v20 v21 s hf
set_option maxRecDepth 20000 in
theorem wX11_workOut_b66 {ρ : mRo} {d : Nat} {P : mPo} {V : mS → List mE} (hV : mView LX V)  {res : (Int32 × mS)} {K33 : Int32 → Int32 → Int32 → mS → Option (Int32 × mS)} (hK33 : ∀ (y3 : Int32) (y4 : Int32) (y5 : Int32) (s : mS), K33 y3 y4 y5 s = some res → mG ρ (mC ρ (d + 62)) 11 8 cX11_workOut (some .int) P 33 [(0, .ref qX), (3, .int y3), (4, .int y4), (5, .int y5)] [] (V s)) (hP : P (some (.int res.1)) (V res.2)) (y3 : Int32) (y4 : Int32) (z0 : Int32) (s : mS) (hf : fX11_workOut_b66 K33 y3 y4 z0 s = some res) : mG ρ (mC ρ (d + 62)) 11 8 cX11_workOut (some .int) P 66 [(0, .ref qX), (3, .int y3), (4, .int y4)] [.int z0] (V s) := by
  unfold fX11_workOut_b66 at hf
  refine e_istore dX11_workOut_66 (by decide) hf (fun v22 hf => ?_)
  refine e_aload_n 1 dX11_workOut_68 rfl rfl ?_
  obtain ⟨r23, s24, hg, hf⟩ := bP_some hf
  refine e_callV (as := []) (v := (some (.int r23))) (s' := s24) hV dX11_workOut_69 (Or.inl rfl) rfl rfl rfl rfl (Nat.le_of_ble_eq_true rfl) lx_X rfl rfl (fun Q hQ => tX11_either (d := d) hV  hg hQ) ?_
  refine e_istore dX11_workOut_72 (by decide) hf (fun v25 hf => ?_)
  refine e_pick [2, 3, 4, 0, 1] rfl ?_
  exact wX11_workOut_b74 hV hK33 hP y3 y4 v25 v22 s24 hf
set_option maxRecDepth 20000 in
theorem wX11_workOut_b33 {ρ : mRo} {d : Nat} {P : mPo} {V : mS → List mE} (hV : mView LX V)  {res : (Int32 × mS)} (hP : P (some (.int res.1)) (V res.2)) : ∀ (k : Nat) (y3 : Int32) (y4 : Int32) (y5 : Int32) (s : mS), fX11_workOut_b33 k y3 y4 y5 s = some res → mG ρ (mC ρ (d + 62)) 11 8 cX11_workOut (some .int) P 33 [(0, .ref qX), (3, .int y3), (4, .int y4), (5, .int y5)] [] (V s) := by
  intro k
  induction k with
  | zero => intro y3 y4 y5 s hf; rw [fX11_workOut_b33] at hf; cases hf
  | succ k ih =>
    intro y3 y4 y5 s hf
    rw [fX11_workOut_b33] at hf
    refine e_iload 3 dX11_workOut_33 rfl ?_
    refine e_if_eq 107 dX11_workOut_35 (by decide) hf (fun hf => ?_) (fun hf => ?_)
    · refine e_aload_n 0 dX11_workOut_107 rfl rfl ?_
      refine e_geti hV dX11_workOut_108 rfl lx_X rfl ?_
      refine e_if_ge 130 dX11_workOut_111 (by decide) hf (fun hf => ?_) (fun hf => ?_)
      · refine e_iload 2 dX11_workOut_130 rfl ?_
        obtain rfl := Option.some.inj hf
        exact e_iret dX11_workOut_132 trivial hP
      · refine e_aload_n 0 dX11_workOut_114 rfl rfl ?_
        refine e_geti hV dX11_workOut_115 rfl lx_X rfl ?_
        refine e_aload_n 0 dX11_workOut_118 rfl rfl ?_
        refine e_geti hV dX11_workOut_119 rfl lx_X rfl ?_
        refine e_icmp_ge 130 dX11_workOut_122 (by decide) hf (fun hf => ?_) (fun hf => ?_)
        · refine e_iload 2 dX11_workOut_130 rfl ?_
          obtain rfl := Option.some.inj hf
          exact e_iret dX11_workOut_132 trivial hP
        · refine e_aload_n 0 dX11_workOut_125 rfl rfl ?_
          obtain ⟨r9, s10, hg, hf⟩ := bP_some hf
          refine e_callV (as := []) (v := (some (.int r9))) (s' := s10) hV dX11_workOut_126 (Or.inl rfl) rfl rfl rfl rfl (Nat.le_of_ble_eq_true rfl) lx_X rfl rfl (fun Q hQ => tX11_wrong (d := (d + 61)) hV  hg hQ) ?_
          obtain rfl := Option.some.inj hf
          exact e_iret dX11_workOut_129 trivial hP
    · refine e_aload_n 0 dX11_workOut_38 rfl rfl ?_
      obtain ⟨r11, s12, hg, hf⟩ := bP_some hf
      refine e_callV (as := []) (v := (some (.int r11))) (s' := s12) hV dX11_workOut_39 (Or.inl rfl) rfl rfl rfl rfl (Nat.le_of_ble_eq_true rfl) lx_X rfl rfl (fun Q hQ => tX11_either (d := d) hV  hg hQ) ?_
      refine e_istore dX11_workOut_42 (by decide) hf (fun v13 hf => ?_)
      refine e_iconst (w := (nI 1)) dX11_workOut_44 (by decide) ?_
      refine e_istore dX11_workOut_45 (by decide) hf (fun v14 hf => ?_)
      refine e_aload_n 2 dX11_workOut_47 rfl rfl ?_
      refine e_bipush (w := (nI 63)) dX11_workOut_48 (by decide) ?_
      obtain ⟨r15, s16, hg, hf⟩ := bP_some hf
      refine e_callV (as := [.int (nI 63)]) (v := (some (.int r15))) (s' := s16) hV dX11_workOut_50 (Or.inl rfl) rfl rfl rfl rfl (Nat.le_of_ble_eq_true rfl) lx_X rfl rfl (fun Q hQ => tX11_takes (d := (d + 60)) hV  hg hQ) ?_
      refine e_if_eq 74 dX11_workOut_53 (by decide) hf (fun hf => ?_) (fun hf => ?_)
      · refine e_pick [2, 3, 4, 1, 0] rfl ?_
        exact wX11_workOut_b74 hV ih hP y3 y4 v13 v14 s16 hf
      · refine e_iload 1 dX11_workOut_56 rfl ?_
        refine e_if_eq 65 dX11_workOut_58 (by decide) hf (fun hf => ?_) (fun hf => ?_)
        · refine e_iconst (w := (nI 0)) dX11_workOut_65 (by decide) ?_
          refine e_pick [2, 3, 4] rfl ?_
          exact wX11_workOut_b66 hV ih hP y3 y4 (nI 0) s16 hf
        · refine e_iconst (w := (nI 1)) dX11_workOut_61 (by decide) ?_
          refine e_goto 66 dX11_workOut_62 (by decide) ?_
          refine e_pick [2, 3, 4] rfl ?_
          exact wX11_workOut_b66 hV ih hP y3 y4 (nI 1) s16 hf
set_option maxRecDepth 20000 in
theorem tX11_workOut {ρ : mRo} {d : Nat} {P : mPo} {V : mS → List mE} (hV : mView LX V)  {x1 : Int32} {x2 : Int32} {s : mS} {res : (Int32 × mS)} (hf : fX11_workOut x1 x2 s = some res) (hP : P (some (.int res.1)) (V res.2)) : mC ρ (d + 63) 165 [.ref qX, .int x1, .int x2] (V s) P := by
  refine ⟨_, rfl, Nat.le_of_ble_eq_true rfl, by decide, ?_⟩
  show mG ρ (mC ρ (d + 62)) 11 8 cX11_workOut (some .int) P 0 [(0, .ref qX), (1, .int x1), (2, .int x2)] [] (V s)
  unfold fX11_workOut at hf
  refine e_aload_n 0 dX11_workOut_0 rfl rfl ?_
  refine e_iload_n 1 dX11_workOut_1 rfl rfl ?_
  refine e_puti hV dX11_workOut_2 rfl rfl rfl (Or.inl rfl) lx_X rfl hf (fun s1 hf => ?_)
  refine e_aload_n 0 dX11_workOut_5 rfl rfl ?_
  refine e_iconst (w := (nI 0)) dX11_workOut_6 (by decide) ?_
  refine e_puti hV dX11_workOut_7 rfl rfl rfl (Or.inl rfl) lx_X rfl hf (fun s2 hf => ?_)
  refine e_aload_n 0 dX11_workOut_10 rfl rfl ?_
  refine e_iload_n 2 dX11_workOut_11 rfl rfl ?_
  refine e_puti hV dX11_workOut_12 rfl rfl rfl (Or.inl rfl) lx_X rfl hf (fun s3 hf => ?_)
  refine e_aload_n 0 dX11_workOut_15 rfl rfl ?_
  refine e_iconst (w := (-1)) dX11_workOut_16 (by decide) ?_
  refine e_puti hV dX11_workOut_17 rfl rfl rfl (Or.inl rfl) lx_X rfl hf (fun s4 hf => ?_)
  refine e_aload_n 0 dX11_workOut_20 rfl rfl ?_
  refine e_iconst (w := (nI 0)) dX11_workOut_21 (by decide) ?_
  refine e_puti hV dX11_workOut_22 rfl rfl rfl (Or.inl rfl) lx_X rfl hf (fun s5 hf => ?_)
  refine e_iconst (w := (nI 0)) dX11_workOut_25 (by decide) ?_
  refine e_istore_n dX11_workOut_26 rfl (by decide) hf (fun v6 hf => ?_)
  refine e_iconst (w := (nI 0)) dX11_workOut_27 (by decide) ?_
  refine e_istore dX11_workOut_28 (by decide) hf (fun v7 hf => ?_)
  refine e_iconst (w := (nI 1)) dX11_workOut_30 (by decide) ?_
  refine e_istore dX11_workOut_31 (by decide) hf (fun v8 hf => ?_)
  refine e_pick [3, 2, 1, 0] rfl ?_
  exact wX11_workOut_b33 hV hP mFu v6 v7 v8 s5 hf

theorem dX11_law_0 : decode cX11_law 0 = .ok (.aload_n 0, 1) := by decide +kernel
theorem dX11_law_1 : decode cX11_law 1 = .ok (.iconst (-1), 1) := by decide +kernel
theorem dX11_law_2 : decode cX11_law 2 = .ok (.aload_n 0, 1) := by decide +kernel
theorem dX11_law_3 : decode cX11_law 3 = .ok (.getfield 142, 3) := by decide +kernel
theorem dX11_law_6 : decode cX11_law 6 = .ok (.invokevirtual 192, 3) := by decide +kernel
theorem dX11_law_9 : decode cX11_law 9 = .ok (.istore_n 1, 1) := by decide +kernel
theorem dX11_law_10 : decode cX11_law 10 = .ok (.aload_n 0, 1) := by decide +kernel
theorem dX11_law_11 : decode cX11_law 11 = .ok (.getfield 142, 3) := by decide +kernel
theorem dX11_law_14 : decode cX11_law 14 = .ok (.istore_n 2, 1) := by decide +kernel
theorem dX11_law_15 : decode cX11_law 15 = .ok (.aload_n 0, 1) := by decide +kernel
theorem dX11_law_16 : decode cX11_law 16 = .ok (.iconst 0, 1) := by decide +kernel
theorem dX11_law_17 : decode cX11_law 17 = .ok (.putfield 142, 3) := by decide +kernel
theorem dX11_law_20 : decode cX11_law 20 = .ok (.aload_n 0, 1) := by decide +kernel
theorem dX11_law_21 : decode cX11_law 21 = .ok (.getfield 154, 3) := by decide +kernel
theorem dX11_law_24 : decode cX11_law 24 = .ok (.ifCond .lt 11, 3) := by decide +kernel
theorem dX11_law_27 : decode cX11_law 27 = .ok (.bipush (-100), 2) := by decide +kernel
theorem dX11_law_29 : decode cX11_law 29 = .ok (.aload_n 0, 1) := by decide +kernel
theorem dX11_law_30 : decode cX11_law 30 = .ok (.getfield 154, 3) := by decide +kernel
theorem dX11_law_33 : decode cX11_law 33 = .ok (.isub, 1) := by decide +kernel
theorem dX11_law_34 : decode cX11_law 34 = .ok (.ireturn, 1) := by decide +kernel
theorem dX11_law_35 : decode cX11_law 35 = .ok (.iconst 0, 1) := by decide +kernel
theorem dX11_law_36 : decode cX11_law 36 = .ok (.istore_n 3, 1) := by decide +kernel
theorem dX11_law_37 : decode cX11_law 37 = .ok (.iload_n 3, 1) := by decide +kernel
theorem dX11_law_38 : decode cX11_law 38 = .ok (.iload_n 2, 1) := by decide +kernel
theorem dX11_law_39 : decode cX11_law 39 = .ok (.if_icmp .ge 21, 3) := by decide +kernel
theorem dX11_law_42 : decode cX11_law 42 = .ok (.aload_n 0, 1) := by decide +kernel
theorem dX11_law_43 : decode cX11_law 43 = .ok (.getfield 25, 3) := by decide +kernel
theorem dX11_law_46 : decode cX11_law 46 = .ok (.iload_n 3, 1) := by decide +kernel
theorem dX11_law_47 : decode cX11_law 47 = .ok (.aload_n 0, 1) := by decide +kernel
theorem dX11_law_48 : decode cX11_law 48 = .ok (.getfield 22, 3) := by decide +kernel
theorem dX11_law_51 : decode cX11_law 51 = .ok (.iload_n 3, 1) := by decide +kernel
theorem dX11_law_52 : decode cX11_law 52 = .ok (.iaload, 1) := by decide +kernel
theorem dX11_law_53 : decode cX11_law 53 = .ok (.iastore, 1) := by decide +kernel
theorem dX11_law_54 : decode cX11_law 54 = .ok (.iinc 3 1, 3) := by decide +kernel
theorem dX11_law_57 : decode cX11_law 57 = .ok (.goto (-20), 3) := by decide +kernel
theorem dX11_law_60 : decode cX11_law 60 = .ok (.aload_n 0, 1) := by decide +kernel
theorem dX11_law_61 : decode cX11_law 61 = .ok (.iload_n 2, 1) := by decide +kernel
theorem dX11_law_62 : decode cX11_law 62 = .ok (.putfield 81, 3) := by decide +kernel
theorem dX11_law_65 : decode cX11_law 65 = .ok (.iconst 1, 1) := by decide +kernel
theorem dX11_law_66 : decode cX11_law 66 = .ok (.ireturn, 1) := by decide +kernel
def fX11_law_b37 : Nat → Int32 → Int32 → mS → Option (Int32 × mS)
  | 0, _, _, _ => none
  | k + 1, y2, y3, s =>
    if y2 ≤ y3 then
      bnd (pI s iX_textMany y2) fun s7 =>
      some ((nI 1), s7)
    else
      ldA s aX_tape 120 y3 fun v8 =>
      stA s aX_text 120 y3 v8 fun s9 =>
      bnd (y3 + (nI 1)) fun v10 =>
      fX11_law_b37 k y2 v10 s9

def fX11_law (s : mS) : Option (Int32 × mS) :=
  bP (fX11_workOut (-1) (gI s iX_tapeMany) s) fun r1 s2 =>
  bnd r1 fun v3 =>
  bnd (gI s2 iX_tapeMany) fun v4 =>
  bnd (pI s2 iX_tapeMany (nI 0)) fun s5 =>
  if (gI s5 iX_fault) < 0 then
    bnd (nI 0) fun v6 =>
    fX11_law_b37 mFu v4 v6 s5
  else
    some ((-100) - (gI s5 iX_fault), s5)

set_option maxRecDepth 20000 in
theorem wX11_law_b37 {ρ : mRo} {d : Nat} {P : mPo} {V : mS → List mE} (hV : mView LX V)  {res : (Int32 × mS)} (hP : P (some (.int res.1)) (V res.2)) : ∀ (k : Nat) (y2 : Int32) (y3 : Int32) (s : mS), fX11_law_b37 k y2 y3 s = some res → mG ρ (mC ρ (d + 63)) 11 4 cX11_law (some .int) P 37 [(0, .ref qX), (2, .int y2), (3, .int y3)] [] (V s) := by
  intro k
  induction k with
  | zero => intro y2 y3 s hf; rw [fX11_law_b37] at hf; cases hf
  | succ k ih =>
    intro y2 y3 s hf
    rw [fX11_law_b37] at hf
    refine e_iload_n 2 dX11_law_37 rfl rfl ?_
    refine e_iload_n 1 dX11_law_38 rfl rfl ?_
    refine e_icmp_ge 60 dX11_law_39 (by decide) hf (fun hf => ?_) (fun hf => ?_)
    · refine e_aload_n 0 dX11_law_60 rfl rfl ?_
      refine e_iload_n 1 dX11_law_61 rfl rfl ?_
      refine e_puti hV dX11_law_62 rfl rfl rfl (Or.inl rfl) lx_X rfl hf (fun s7 hf => ?_)
      refine e_iconst (w := (nI 1)) dX11_law_65 (by decide) ?_
      obtain rfl := Option.some.inj hf
      exact e_iret dX11_law_66 trivial hP
    · refine e_aload_n 0 dX11_law_42 rfl rfl ?_
      refine e_getr hV dX11_law_43 rfl lx_X rfl ?_
      refine e_iload_n 2 dX11_law_46 rfl rfl ?_
      refine e_aload_n 0 dX11_law_47 rfl rfl ?_
      refine e_getr hV dX11_law_48 rfl lx_X rfl ?_
      refine e_iload_n 2 dX11_law_51 rfl rfl ?_
      refine e_iald hV dX11_law_52 lx_X_tape hf (fun v8 hf => ?_)
      refine e_iast hV dX11_law_53 lx_X_text hf (fun s9 hf => ?_)
      refine e_iinc 2 dX11_law_54 (by decide) rfl hf (fun v10 hf => ?_)
      refine e_goto 37 dX11_law_57 (by decide) ?_
      refine e_pick [1, 2, 0] rfl ?_
      exact ih y2 v10 s9 hf
set_option maxRecDepth 20000 in
theorem tX11_law {ρ : mRo} {d : Nat} {P : mPo} {V : mS → List mE} (hV : mView LX V)  {s : mS} {res : (Int32 × mS)} (hf : fX11_law s = some res) (hP : P (some (.int res.1)) (V res.2)) : mC ρ (d + 64) 166 [.ref qX] (V s) P := by
  refine ⟨_, rfl, Nat.le_of_ble_eq_true rfl, by decide, ?_⟩
  show mG ρ (mC ρ (d + 63)) 11 4 cX11_law (some .int) P 0 [(0, .ref qX)] [] (V s)
  unfold fX11_law at hf
  refine e_aload_n 0 dX11_law_0 rfl rfl ?_
  refine e_iconst (w := (-1)) dX11_law_1 (by decide) ?_
  refine e_aload_n 0 dX11_law_2 rfl rfl ?_
  refine e_geti hV dX11_law_3 rfl lx_X rfl ?_
  obtain ⟨r1, s2, hg, hf⟩ := bP_some hf
  refine e_callV (as := [.int (-1), .int (gI s iX_tapeMany)]) (v := (some (.int r1))) (s' := s2) hV dX11_law_6 (Or.inl rfl) rfl rfl rfl rfl (Nat.le_of_ble_eq_true rfl) lx_X rfl rfl (fun Q hQ => tX11_workOut (d := d) hV  hg hQ) ?_
  refine e_istore_n dX11_law_9 rfl (by decide) hf (fun v3 hf => ?_)
  refine e_aload_n 1 dX11_law_10 rfl rfl ?_
  refine e_geti hV dX11_law_11 rfl lx_X rfl ?_
  refine e_istore_n dX11_law_14 rfl (by decide) hf (fun v4 hf => ?_)
  refine e_aload_n 2 dX11_law_15 rfl rfl ?_
  refine e_iconst (w := (nI 0)) dX11_law_16 (by decide) ?_
  refine e_puti hV dX11_law_17 rfl rfl rfl (Or.inl rfl) lx_X rfl hf (fun s5 hf => ?_)
  refine e_aload_n 2 dX11_law_20 rfl rfl ?_
  refine e_geti hV dX11_law_21 rfl lx_X rfl ?_
  refine e_if_lt 35 dX11_law_24 (by decide) hf (fun hf => ?_) (fun hf => ?_)
  · refine e_iconst (w := (nI 0)) dX11_law_35 (by decide) ?_
    refine e_istore_n dX11_law_36 rfl (by decide) hf (fun v6 hf => ?_)
    refine e_pick [3, 1, 0] rfl ?_
    exact wX11_law_b37 hV hP mFu v4 v6 s5 hf
  · refine e_bipush (w := (-100)) dX11_law_27 (by decide) ?_
    refine e_aload_n 2 dX11_law_29 rfl rfl ?_
    refine e_geti hV dX11_law_30 rfl lx_X rfl ?_
    refine e_isub dX11_law_33 ?_
    obtain rfl := Option.some.inj hf
    exact e_iret dX11_law_34 trivial hP

theorem dX11_begins_0 : decode cX11_begins 0 = .ok (.iconst 0, 1) := by decide +kernel
theorem dX11_begins_1 : decode cX11_begins 1 = .ok (.istore_n 1, 1) := by decide +kernel
theorem dX11_begins_2 : decode cX11_begins 2 = .ok (.iload_n 1, 1) := by decide +kernel
theorem dX11_begins_3 : decode cX11_begins 3 = .ok (.bipush 24, 2) := by decide +kernel
theorem dX11_begins_5 : decode cX11_begins 5 = .ok (.if_icmp .ge 21, 3) := by decide +kernel
theorem dX11_begins_8 : decode cX11_begins 8 = .ok (.aload_n 0, 1) := by decide +kernel
theorem dX11_begins_9 : decode cX11_begins 9 = .ok (.getfield 31, 3) := by decide +kernel
theorem dX11_begins_12 : decode cX11_begins 12 = .ok (.iload_n 1, 1) := by decide +kernel
theorem dX11_begins_13 : decode cX11_begins 13 = .ok (.aload_n 0, 1) := by decide +kernel
theorem dX11_begins_14 : decode cX11_begins 14 = .ok (.getfield 9, 3) := by decide +kernel
theorem dX11_begins_17 : decode cX11_begins 17 = .ok (.iload_n 1, 1) := by decide +kernel
theorem dX11_begins_18 : decode cX11_begins 18 = .ok (.iaload, 1) := by decide +kernel
theorem dX11_begins_19 : decode cX11_begins 19 = .ok (.iastore, 1) := by decide +kernel
theorem dX11_begins_20 : decode cX11_begins 20 = .ok (.iinc 1 1, 3) := by decide +kernel
theorem dX11_begins_23 : decode cX11_begins 23 = .ok (.goto (-21), 3) := by decide +kernel
theorem dX11_begins_26 : decode cX11_begins 26 = .ok (.iconst 0, 1) := by decide +kernel
theorem dX11_begins_27 : decode cX11_begins 27 = .ok (.istore_n 1, 1) := by decide +kernel
theorem dX11_begins_28 : decode cX11_begins 28 = .ok (.iload_n 1, 1) := by decide +kernel
theorem dX11_begins_29 : decode cX11_begins 29 = .ok (.bipush 8, 2) := by decide +kernel
theorem dX11_begins_31 : decode cX11_begins 31 = .ok (.if_icmp .ge 24, 3) := by decide +kernel
theorem dX11_begins_34 : decode cX11_begins 34 = .ok (.aload_n 0, 1) := by decide +kernel
theorem dX11_begins_35 : decode cX11_begins 35 = .ok (.getfield 34, 3) := by decide +kernel
theorem dX11_begins_38 : decode cX11_begins 38 = .ok (.iload_n 1, 1) := by decide +kernel
theorem dX11_begins_39 : decode cX11_begins 39 = .ok (.aload_n 0, 1) := by decide +kernel
theorem dX11_begins_40 : decode cX11_begins 40 = .ok (.getfield 9, 3) := by decide +kernel
theorem dX11_begins_43 : decode cX11_begins 43 = .ok (.bipush 24, 2) := by decide +kernel
theorem dX11_begins_45 : decode cX11_begins 45 = .ok (.iload_n 1, 1) := by decide +kernel
theorem dX11_begins_46 : decode cX11_begins 46 = .ok (.iadd, 1) := by decide +kernel
theorem dX11_begins_47 : decode cX11_begins 47 = .ok (.iaload, 1) := by decide +kernel
theorem dX11_begins_48 : decode cX11_begins 48 = .ok (.iastore, 1) := by decide +kernel
theorem dX11_begins_49 : decode cX11_begins 49 = .ok (.iinc 1 1, 3) := by decide +kernel
theorem dX11_begins_52 : decode cX11_begins 52 = .ok (.goto (-24), 3) := by decide +kernel
theorem dX11_begins_55 : decode cX11_begins 55 = .ok (.aload_n 0, 1) := by decide +kernel
theorem dX11_begins_56 : decode cX11_begins 56 = .ok (.aload_n 0, 1) := by decide +kernel
theorem dX11_begins_57 : decode cX11_begins 57 = .ok (.getfield 9, 3) := by decide +kernel
theorem dX11_begins_60 : decode cX11_begins 60 = .ok (.bipush 64, 2) := by decide +kernel
theorem dX11_begins_62 : decode cX11_begins 62 = .ok (.iaload, 1) := by decide +kernel
theorem dX11_begins_63 : decode cX11_begins 63 = .ok (.putfield 195, 3) := by decide +kernel
theorem dX11_begins_66 : decode cX11_begins 66 = .ok (.return_, 1) := by decide +kernel
def fX11_begins_b28 : Nat → Int32 → mS → Option mS
  | 0, _, _ => none
  | k + 1, y1, s =>
    if (nI 8) ≤ y1 then
      ldA s aX_may 65 (nI 64) fun v3 =>
      bnd (pI s iX_ribbon v3) fun s4 =>
      some s4
    else
      ldA s aX_may 65 ((nI 24) + y1) fun v5 =>
      stA s aX_age 8 y1 v5 fun s6 =>
      bnd (y1 + (nI 1)) fun v7 =>
      fX11_begins_b28 k v7 s6

def fX11_begins_b2 : Nat → Int32 → mS → Option mS
  | 0, _, _ => none
  | k + 1, y1, s =>
    if (nI 24) ≤ y1 then
      bnd (nI 0) fun v2 =>
      fX11_begins_b28 mFu v2 s
    else
      ldA s aX_may 65 y1 fun v8 =>
      stA s aX_pull 24 y1 v8 fun s9 =>
      bnd (y1 + (nI 1)) fun v10 =>
      fX11_begins_b2 k v10 s9

def fX11_begins (s : mS) : Option mS :=
  bnd (nI 0) fun v1 =>
  fX11_begins_b2 mFu v1 s

set_option maxRecDepth 20000 in
theorem wX11_begins_b28 {ρ : mRo} {d : Nat} {P : mPo} {V : mS → List mE} (hV : mView LX V)  {res : mS} (hP : P none (V res)) : ∀ (k : Nat) (y1 : Int32) (s : mS), fX11_begins_b28 k y1 s = some res → mG ρ (mC ρ d) 11 2 cX11_begins none P 28 [(0, .ref qX), (1, .int y1)] [] (V s) := by
  intro k
  induction k with
  | zero => intro y1 s hf; rw [fX11_begins_b28] at hf; cases hf
  | succ k ih =>
    intro y1 s hf
    rw [fX11_begins_b28] at hf
    refine e_iload_n 1 dX11_begins_28 rfl rfl ?_
    refine e_bipush (w := (nI 8)) dX11_begins_29 (by decide) ?_
    refine e_icmp_ge 55 dX11_begins_31 (by decide) hf (fun hf => ?_) (fun hf => ?_)
    · refine e_aload_n 0 dX11_begins_55 rfl rfl ?_
      refine e_aload_n 0 dX11_begins_56 rfl rfl ?_
      refine e_getr hV dX11_begins_57 rfl lx_X rfl ?_
      refine e_bipush (w := (nI 64)) dX11_begins_60 (by decide) ?_
      refine e_iald hV dX11_begins_62 lx_X_may hf (fun v3 hf => ?_)
      refine e_puti hV dX11_begins_63 rfl rfl rfl (Or.inl rfl) lx_X rfl hf (fun s4 hf => ?_)
      obtain rfl := Option.some.inj hf
      exact e_ret dX11_begins_66 rfl hP
    · refine e_aload_n 0 dX11_begins_34 rfl rfl ?_
      refine e_getr hV dX11_begins_35 rfl lx_X rfl ?_
      refine e_iload_n 1 dX11_begins_38 rfl rfl ?_
      refine e_aload_n 0 dX11_begins_39 rfl rfl ?_
      refine e_getr hV dX11_begins_40 rfl lx_X rfl ?_
      refine e_bipush (w := (nI 24)) dX11_begins_43 (by decide) ?_
      refine e_iload_n 1 dX11_begins_45 rfl rfl ?_
      refine e_iadd dX11_begins_46 ?_
      refine e_iald hV dX11_begins_47 lx_X_may hf (fun v5 hf => ?_)
      refine e_iast hV dX11_begins_48 lx_X_age hf (fun s6 hf => ?_)
      refine e_iinc 1 dX11_begins_49 (by decide) rfl hf (fun v7 hf => ?_)
      refine e_goto 28 dX11_begins_52 (by decide) ?_
      refine e_pick [1, 0] rfl ?_
      exact ih v7 s6 hf
set_option maxRecDepth 20000 in
theorem wX11_begins_b2 {ρ : mRo} {d : Nat} {P : mPo} {V : mS → List mE} (hV : mView LX V)  {res : mS} (hP : P none (V res)) : ∀ (k : Nat) (y1 : Int32) (s : mS), fX11_begins_b2 k y1 s = some res → mG ρ (mC ρ d) 11 2 cX11_begins none P 2 [(0, .ref qX), (1, .int y1)] [] (V s) := by
  intro k
  induction k with
  | zero => intro y1 s hf; rw [fX11_begins_b2] at hf; cases hf
  | succ k ih =>
    intro y1 s hf
    rw [fX11_begins_b2] at hf
    refine e_iload_n 1 dX11_begins_2 rfl rfl ?_
    refine e_bipush (w := (nI 24)) dX11_begins_3 (by decide) ?_
    refine e_icmp_ge 26 dX11_begins_5 (by decide) hf (fun hf => ?_) (fun hf => ?_)
    · refine e_iconst (w := (nI 0)) dX11_begins_26 (by decide) ?_
      refine e_istore_n dX11_begins_27 rfl (by decide) hf (fun v2 hf => ?_)
      refine e_pick [1, 0] rfl ?_
      exact wX11_begins_b28 hV hP mFu v2 s hf
    · refine e_aload_n 0 dX11_begins_8 rfl rfl ?_
      refine e_getr hV dX11_begins_9 rfl lx_X rfl ?_
      refine e_iload_n 1 dX11_begins_12 rfl rfl ?_
      refine e_aload_n 0 dX11_begins_13 rfl rfl ?_
      refine e_getr hV dX11_begins_14 rfl lx_X rfl ?_
      refine e_iload_n 1 dX11_begins_17 rfl rfl ?_
      refine e_iald hV dX11_begins_18 lx_X_may hf (fun v8 hf => ?_)
      refine e_iast hV dX11_begins_19 lx_X_pull hf (fun s9 hf => ?_)
      refine e_iinc 1 dX11_begins_20 (by decide) rfl hf (fun v10 hf => ?_)
      refine e_goto 2 dX11_begins_23 (by decide) ?_
      refine e_pick [1, 0] rfl ?_
      exact ih v10 s9 hf
set_option maxRecDepth 20000 in
theorem tX11_begins {ρ : mRo} {d : Nat} {P : mPo} {V : mS → List mE} (hV : mView LX V)  {s : mS} {res : mS} (hf : fX11_begins s = some res) (hP : P none (V res)) : mC ρ (d + 1) 167 [.ref qX] (V s) P := by
  refine ⟨_, rfl, Nat.le_of_ble_eq_true rfl, by decide, ?_⟩
  show mG ρ (mC ρ d) 11 2 cX11_begins none P 0 [(0, .ref qX)] [] (V s)
  unfold fX11_begins at hf
  refine e_iconst (w := (nI 0)) dX11_begins_0 (by decide) ?_
  refine e_istore_n dX11_begins_1 rfl (by decide) hf (fun v1 hf => ?_)
  refine e_pick [1, 0] rfl ?_
  exact wX11_begins_b2 hV hP mFu v1 s hf

theorem dX11_handOf_0 : decode cX11_handOf 0 = .ok (.aload_n 0, 1) := by decide +kernel
theorem dX11_handOf_1 : decode cX11_handOf 1 = .ok (.getfield 9, 3) := by decide +kernel
theorem dX11_handOf_4 : decode cX11_handOf 4 = .ok (.bipush 32, 2) := by decide +kernel
theorem dX11_handOf_6 : decode cX11_handOf 6 = .ok (.iconst 3, 1) := by decide +kernel
theorem dX11_handOf_7 : decode cX11_handOf 7 = .ok (.iload_n 1, 1) := by decide +kernel
theorem dX11_handOf_8 : decode cX11_handOf 8 = .ok (.imul, 1) := by decide +kernel
theorem dX11_handOf_9 : decode cX11_handOf 9 = .ok (.iadd, 1) := by decide +kernel
theorem dX11_handOf_10 : decode cX11_handOf 10 = .ok (.iload_n 2, 1) := by decide +kernel
theorem dX11_handOf_11 : decode cX11_handOf 11 = .ok (.iadd, 1) := by decide +kernel
theorem dX11_handOf_12 : decode cX11_handOf 12 = .ok (.iaload, 1) := by decide +kernel
theorem dX11_handOf_13 : decode cX11_handOf 13 = .ok (.ireturn, 1) := by decide +kernel
def fX11_handOf (x1 : Int32) (x2 : Int32) (s : mS) : Option Int32 :=
  ldA s aX_may 65 (((nI 32) + ((nI 3) * x1)) + x2) fun v1 =>
  some v1

set_option maxRecDepth 20000 in
theorem tX11_handOf {ρ : mRo} {d : Nat} {P : mPo} {V : mS → List mE} (hV : mView LX V)  {x1 : Int32} {x2 : Int32} {s : mS} {res : Int32} (hf : fX11_handOf x1 x2 s = some res) (hP : P (some (.int res)) (V s)) : mC ρ (d + 1) 168 [.ref qX, .int x1, .int x2] (V s) P := by
  refine ⟨_, rfl, Nat.le_of_ble_eq_true rfl, by decide, ?_⟩
  show mG ρ (mC ρ d) 11 3 cX11_handOf (some .int) P 0 [(0, .ref qX), (1, .int x1), (2, .int x2)] [] (V s)
  unfold fX11_handOf at hf
  refine e_aload_n 0 dX11_handOf_0 rfl rfl ?_
  refine e_getr hV dX11_handOf_1 rfl lx_X rfl ?_
  refine e_bipush (w := (nI 32)) dX11_handOf_4 (by decide) ?_
  refine e_iconst (w := (nI 3)) dX11_handOf_6 (by decide) ?_
  refine e_iload_n 1 dX11_handOf_7 rfl rfl ?_
  refine e_imul dX11_handOf_8 ?_
  refine e_iadd dX11_handOf_9 ?_
  refine e_iload_n 2 dX11_handOf_10 rfl rfl ?_
  refine e_iadd dX11_handOf_11 ?_
  refine e_iald hV dX11_handOf_12 lx_X_may hf (fun v1 hf => ?_)
  obtain rfl := Option.some.inj hf
  exact e_iret dX11_handOf_13 trivial hP

theorem dX11_apart_0 : decode cX11_apart 0 = .ok (.iload_n 0, 1) := by decide +kernel
theorem dX11_apart_1 : decode cX11_apart 1 = .ok (.iload_n 1, 1) := by decide +kernel
theorem dX11_apart_2 : decode cX11_apart 2 = .ok (.if_icmp .le 9, 3) := by decide +kernel
theorem dX11_apart_5 : decode cX11_apart 5 = .ok (.iload_n 0, 1) := by decide +kernel
theorem dX11_apart_6 : decode cX11_apart 6 = .ok (.iload_n 1, 1) := by decide +kernel
theorem dX11_apart_7 : decode cX11_apart 7 = .ok (.isub, 1) := by decide +kernel
theorem dX11_apart_8 : decode cX11_apart 8 = .ok (.goto 6, 3) := by decide +kernel
theorem dX11_apart_11 : decode cX11_apart 11 = .ok (.iload_n 1, 1) := by decide +kernel
theorem dX11_apart_12 : decode cX11_apart 12 = .ok (.iload_n 0, 1) := by decide +kernel
theorem dX11_apart_13 : decode cX11_apart 13 = .ok (.isub, 1) := by decide +kernel
theorem dX11_apart_14 : decode cX11_apart 14 = .ok (.ireturn, 1) := by decide +kernel
def fX11_apart (x0 : Int32) (x1 : Int32) (s : mS) : Option Int32 :=
  if x0 ≤ x1 then
    some (x1 - x0)
  else
    some (x0 - x1)

set_option maxRecDepth 20000 in
theorem tX11_apart {ρ : mRo} {d : Nat} {P : mPo} {V : mS → List mE} (hV : mView LX V)  {x0 : Int32} {x1 : Int32} {s : mS} {res : Int32} (hf : fX11_apart x0 x1 s = some res) (hP : P (some (.int res)) (V s)) : mC ρ (d + 1) 169 [.int x0, .int x1] (V s) P := by
  refine ⟨_, rfl, Nat.le_of_ble_eq_true rfl, by decide, ?_⟩
  show mG ρ (mC ρ d) 11 2 cX11_apart (some .int) P 0 [(0, .int x0), (1, .int x1)] [] (V s)
  unfold fX11_apart at hf
  refine e_iload_n 0 dX11_apart_0 rfl rfl ?_
  refine e_iload_n 1 dX11_apart_1 rfl rfl ?_
  refine e_icmp_le 11 dX11_apart_2 (by decide) hf (fun hf => ?_) (fun hf => ?_)
  · refine e_iload_n 1 dX11_apart_11 rfl rfl ?_
    refine e_iload_n 0 dX11_apart_12 rfl rfl ?_
    refine e_isub dX11_apart_13 ?_
    obtain rfl := Option.some.inj hf
    exact e_iret dX11_apart_14 trivial hP
  · refine e_iload_n 0 dX11_apart_5 rfl rfl ?_
    refine e_iload_n 1 dX11_apart_6 rfl rfl ?_
    refine e_isub dX11_apart_7 ?_
    refine e_goto 14 dX11_apart_8 (by decide) ?_
    obtain rfl := Option.some.inj hf
    exact e_iret dX11_apart_14 trivial hP

theorem dX11_nearer_0 : decode cX11_nearer 0 = .ok (.iload_n 0, 1) := by decide +kernel
theorem dX11_nearer_1 : decode cX11_nearer 1 = .ok (.iload_n 1, 1) := by decide +kernel
theorem dX11_nearer_2 : decode cX11_nearer 2 = .ok (.if_icmp .ge 9, 3) := by decide +kernel
theorem dX11_nearer_5 : decode cX11_nearer 5 = .ok (.iload_n 0, 1) := by decide +kernel
theorem dX11_nearer_6 : decode cX11_nearer 6 = .ok (.iconst 1, 1) := by decide +kernel
theorem dX11_nearer_7 : decode cX11_nearer 7 = .ok (.iadd, 1) := by decide +kernel
theorem dX11_nearer_8 : decode cX11_nearer 8 = .ok (.goto 15, 3) := by decide +kernel
theorem dX11_nearer_11 : decode cX11_nearer 11 = .ok (.iload_n 0, 1) := by decide +kernel
theorem dX11_nearer_12 : decode cX11_nearer 12 = .ok (.iload_n 1, 1) := by decide +kernel
theorem dX11_nearer_13 : decode cX11_nearer 13 = .ok (.if_icmp .le 9, 3) := by decide +kernel
theorem dX11_nearer_16 : decode cX11_nearer 16 = .ok (.iload_n 0, 1) := by decide +kernel
theorem dX11_nearer_17 : decode cX11_nearer 17 = .ok (.iconst 1, 1) := by decide +kernel
theorem dX11_nearer_18 : decode cX11_nearer 18 = .ok (.isub, 1) := by decide +kernel
theorem dX11_nearer_19 : decode cX11_nearer 19 = .ok (.goto 4, 3) := by decide +kernel
theorem dX11_nearer_22 : decode cX11_nearer 22 = .ok (.iload_n 0, 1) := by decide +kernel
theorem dX11_nearer_23 : decode cX11_nearer 23 = .ok (.ireturn, 1) := by decide +kernel
def fX11_nearer (x0 : Int32) (x1 : Int32) (s : mS) : Option Int32 :=
  if x1 ≤ x0 then
    if x0 ≤ x1 then
      some x0
    else
      some (x0 - (nI 1))
  else
    some (x0 + (nI 1))

set_option maxRecDepth 20000 in
theorem tX11_nearer {ρ : mRo} {d : Nat} {P : mPo} {V : mS → List mE} (hV : mView LX V)  {x0 : Int32} {x1 : Int32} {s : mS} {res : Int32} (hf : fX11_nearer x0 x1 s = some res) (hP : P (some (.int res)) (V s)) : mC ρ (d + 1) 170 [.int x0, .int x1] (V s) P := by
  refine ⟨_, rfl, Nat.le_of_ble_eq_true rfl, by decide, ?_⟩
  show mG ρ (mC ρ d) 11 2 cX11_nearer (some .int) P 0 [(0, .int x0), (1, .int x1)] [] (V s)
  unfold fX11_nearer at hf
  refine e_iload_n 0 dX11_nearer_0 rfl rfl ?_
  refine e_iload_n 1 dX11_nearer_1 rfl rfl ?_
  refine e_icmp_ge 11 dX11_nearer_2 (by decide) hf (fun hf => ?_) (fun hf => ?_)
  · refine e_iload_n 0 dX11_nearer_11 rfl rfl ?_
    refine e_iload_n 1 dX11_nearer_12 rfl rfl ?_
    refine e_icmp_le 22 dX11_nearer_13 (by decide) hf (fun hf => ?_) (fun hf => ?_)
    · refine e_iload_n 0 dX11_nearer_22 rfl rfl ?_
      obtain rfl := Option.some.inj hf
      exact e_iret dX11_nearer_23 trivial hP
    · refine e_iload_n 0 dX11_nearer_16 rfl rfl ?_
      refine e_iconst (w := (nI 1)) dX11_nearer_17 (by decide) ?_
      refine e_isub dX11_nearer_18 ?_
      refine e_goto 23 dX11_nearer_19 (by decide) ?_
      obtain rfl := Option.some.inj hf
      exact e_iret dX11_nearer_23 trivial hP
  · refine e_iload_n 0 dX11_nearer_5 rfl rfl ?_
    refine e_iconst (w := (nI 1)) dX11_nearer_6 (by decide) ?_
    refine e_iadd dX11_nearer_7 ?_
    refine e_goto 23 dX11_nearer_8 (by decide) ?_
    obtain rfl := Option.some.inj hf
    exact e_iret dX11_nearer_23 trivial hP

theorem dX11_gripOf_0 : decode cX11_gripOf 0 = .ok (.bipush 6, 2) := by decide +kernel
theorem dX11_gripOf_2 : decode cX11_gripOf 2 = .ok (.aload_n 0, 1) := by decide +kernel
theorem dX11_gripOf_3 : decode cX11_gripOf 3 = .ok (.getfield 34, 3) := by decide +kernel
theorem dX11_gripOf_6 : decode cX11_gripOf 6 = .ok (.iload_n 2, 1) := by decide +kernel
theorem dX11_gripOf_7 : decode cX11_gripOf 7 = .ok (.iaload, 1) := by decide +kernel
theorem dX11_gripOf_8 : decode cX11_gripOf 8 = .ok (.bipush 10, 2) := by decide +kernel
theorem dX11_gripOf_10 : decode cX11_gripOf 10 = .ok (.idiv, 1) := by decide +kernel
theorem dX11_gripOf_11 : decode cX11_gripOf 11 = .ok (.iadd, 1) := by decide +kernel
theorem dX11_gripOf_12 : decode cX11_gripOf 12 = .ok (.aload_n 0, 1) := by decide +kernel
theorem dX11_gripOf_13 : decode cX11_gripOf 13 = .ok (.getfield 9, 3) := by decide +kernel
theorem dX11_gripOf_16 : decode cX11_gripOf 16 = .ok (.bipush 56, 2) := by decide +kernel
theorem dX11_gripOf_18 : decode cX11_gripOf 18 = .ok (.iload_n 1, 1) := by decide +kernel
theorem dX11_gripOf_19 : decode cX11_gripOf 19 = .ok (.iadd, 1) := by decide +kernel
theorem dX11_gripOf_20 : decode cX11_gripOf 20 = .ok (.iaload, 1) := by decide +kernel
theorem dX11_gripOf_21 : decode cX11_gripOf 21 = .ok (.iconst 3, 1) := by decide +kernel
theorem dX11_gripOf_22 : decode cX11_gripOf 22 = .ok (.idiv, 1) := by decide +kernel
theorem dX11_gripOf_23 : decode cX11_gripOf 23 = .ok (.isub, 1) := by decide +kernel
theorem dX11_gripOf_24 : decode cX11_gripOf 24 = .ok (.istore 4, 2) := by decide +kernel
theorem dX11_gripOf_26 : decode cX11_gripOf 26 = .ok (.aload_n 0, 1) := by decide +kernel
theorem dX11_gripOf_27 : decode cX11_gripOf 27 = .ok (.getfield 81, 3) := by decide +kernel
theorem dX11_gripOf_30 : decode cX11_gripOf 30 = .ok (.ifCond .lt 90, 3) := by decide +kernel
theorem dX11_gripOf_33 : decode cX11_gripOf 33 = .ok (.aload_n 0, 1) := by decide +kernel
theorem dX11_gripOf_34 : decode cX11_gripOf 34 = .ok (.getfield 28, 3) := by decide +kernel
theorem dX11_gripOf_37 : decode cX11_gripOf 37 = .ok (.iconst 0, 1) := by decide +kernel
theorem dX11_gripOf_38 : decode cX11_gripOf 38 = .ok (.aload_n 0, 1) := by decide +kernel
theorem dX11_gripOf_39 : decode cX11_gripOf 39 = .ok (.getfield 34, 3) := by decide +kernel
theorem dX11_gripOf_42 : decode cX11_gripOf 42 = .ok (.iload_n 2, 1) := by decide +kernel
theorem dX11_gripOf_43 : decode cX11_gripOf 43 = .ok (.iaload, 1) := by decide +kernel
theorem dX11_gripOf_44 : decode cX11_gripOf 44 = .ok (.iastore, 1) := by decide +kernel
theorem dX11_gripOf_45 : decode cX11_gripOf 45 = .ok (.aload_n 0, 1) := by decide +kernel
theorem dX11_gripOf_46 : decode cX11_gripOf 46 = .ok (.getfield 28, 3) := by decide +kernel
theorem dX11_gripOf_49 : decode cX11_gripOf 49 = .ok (.iconst 1, 1) := by decide +kernel
theorem dX11_gripOf_50 : decode cX11_gripOf 50 = .ok (.aload_n 0, 1) := by decide +kernel
theorem dX11_gripOf_51 : decode cX11_gripOf 51 = .ok (.getfield 9, 3) := by decide +kernel
theorem dX11_gripOf_54 : decode cX11_gripOf 54 = .ok (.bipush 56, 2) := by decide +kernel
theorem dX11_gripOf_56 : decode cX11_gripOf 56 = .ok (.iload_n 1, 1) := by decide +kernel
theorem dX11_gripOf_57 : decode cX11_gripOf 57 = .ok (.iadd, 1) := by decide +kernel
theorem dX11_gripOf_58 : decode cX11_gripOf 58 = .ok (.iaload, 1) := by decide +kernel
theorem dX11_gripOf_59 : decode cX11_gripOf 59 = .ok (.iastore, 1) := by decide +kernel
theorem dX11_gripOf_60 : decode cX11_gripOf 60 = .ok (.aload_n 0, 1) := by decide +kernel
theorem dX11_gripOf_61 : decode cX11_gripOf 61 = .ok (.getfield 28, 3) := by decide +kernel
theorem dX11_gripOf_64 : decode cX11_gripOf 64 = .ok (.iconst 2, 1) := by decide +kernel
theorem dX11_gripOf_65 : decode cX11_gripOf 65 = .ok (.iload_n 3, 1) := by decide +kernel
theorem dX11_gripOf_66 : decode cX11_gripOf 66 = .ok (.iastore, 1) := by decide +kernel
theorem dX11_gripOf_67 : decode cX11_gripOf 67 = .ok (.aload_n 0, 1) := by decide +kernel
theorem dX11_gripOf_68 : decode cX11_gripOf 68 = .ok (.getfield 28, 3) := by decide +kernel
theorem dX11_gripOf_71 : decode cX11_gripOf 71 = .ok (.iconst 3, 1) := by decide +kernel
theorem dX11_gripOf_72 : decode cX11_gripOf 72 = .ok (.aload_n 0, 1) := by decide +kernel
theorem dX11_gripOf_73 : decode cX11_gripOf 73 = .ok (.iload_n 1, 1) := by decide +kernel
theorem dX11_gripOf_74 : decode cX11_gripOf 74 = .ok (.iload_n 3, 1) := by decide +kernel
theorem dX11_gripOf_75 : decode cX11_gripOf 75 = .ok (.invokevirtual 198, 3) := by decide +kernel
theorem dX11_gripOf_78 : decode cX11_gripOf 78 = .ok (.aload_n 0, 1) := by decide +kernel
theorem dX11_gripOf_79 : decode cX11_gripOf 79 = .ok (.getfield 31, 3) := by decide +kernel
theorem dX11_gripOf_82 : decode cX11_gripOf 82 = .ok (.iconst 3, 1) := by decide +kernel
theorem dX11_gripOf_83 : decode cX11_gripOf 83 = .ok (.iload_n 2, 1) := by decide +kernel
theorem dX11_gripOf_84 : decode cX11_gripOf 84 = .ok (.imul, 1) := by decide +kernel
theorem dX11_gripOf_85 : decode cX11_gripOf 85 = .ok (.iload_n 3, 1) := by decide +kernel
theorem dX11_gripOf_86 : decode cX11_gripOf 86 = .ok (.iadd, 1) := by decide +kernel
theorem dX11_gripOf_87 : decode cX11_gripOf 87 = .ok (.iaload, 1) := by decide +kernel
theorem dX11_gripOf_88 : decode cX11_gripOf 88 = .ok (.invokestatic 201, 3) := by decide +kernel
theorem dX11_gripOf_91 : decode cX11_gripOf 91 = .ok (.iastore, 1) := by decide +kernel
theorem dX11_gripOf_92 : decode cX11_gripOf 92 = .ok (.aload_n 0, 1) := by decide +kernel
theorem dX11_gripOf_93 : decode cX11_gripOf 93 = .ok (.getfield 28, 3) := by decide +kernel
theorem dX11_gripOf_96 : decode cX11_gripOf 96 = .ok (.iconst 4, 1) := by decide +kernel
theorem dX11_gripOf_97 : decode cX11_gripOf 97 = .ok (.aload_n 0, 1) := by decide +kernel
theorem dX11_gripOf_98 : decode cX11_gripOf 98 = .ok (.getfield 195, 3) := by decide +kernel
theorem dX11_gripOf_101 : decode cX11_gripOf 101 = .ok (.iastore, 1) := by decide +kernel
theorem dX11_gripOf_102 : decode cX11_gripOf 102 = .ok (.aload_n 0, 1) := by decide +kernel
theorem dX11_gripOf_103 : decode cX11_gripOf 103 = .ok (.getfield 28, 3) := by decide +kernel
theorem dX11_gripOf_106 : decode cX11_gripOf 106 = .ok (.iconst 5, 1) := by decide +kernel
theorem dX11_gripOf_107 : decode cX11_gripOf 107 = .ok (.iload_n 2, 1) := by decide +kernel
theorem dX11_gripOf_108 : decode cX11_gripOf 108 = .ok (.iastore, 1) := by decide +kernel
theorem dX11_gripOf_109 : decode cX11_gripOf 109 = .ok (.aload_n 0, 1) := by decide +kernel
theorem dX11_gripOf_110 : decode cX11_gripOf 110 = .ok (.iconst 0, 1) := by decide +kernel
theorem dX11_gripOf_111 : decode cX11_gripOf 111 = .ok (.aload_n 0, 1) := by decide +kernel
theorem dX11_gripOf_112 : decode cX11_gripOf 112 = .ok (.getfield 81, 3) := by decide +kernel
theorem dX11_gripOf_115 : decode cX11_gripOf 115 = .ok (.invokevirtual 192, 3) := by decide +kernel
theorem dX11_gripOf_118 : decode cX11_gripOf 118 = .ok (.istore 4, 2) := by decide +kernel
theorem dX11_gripOf_120 : decode cX11_gripOf 120 = .ok (.iload 4, 2) := by decide +kernel
theorem dX11_gripOf_122 : decode cX11_gripOf 122 = .ok (.ifCond .ge 7, 3) := by decide +kernel
theorem dX11_gripOf_125 : decode cX11_gripOf 125 = .ok (.iconst 0, 1) := by decide +kernel
theorem dX11_gripOf_126 : decode cX11_gripOf 126 = .ok (.goto 17, 3) := by decide +kernel
theorem dX11_gripOf_129 : decode cX11_gripOf 129 = .ok (.iload 4, 2) := by decide +kernel
theorem dX11_gripOf_131 : decode cX11_gripOf 131 = .ok (.bipush 12, 2) := by decide +kernel
theorem dX11_gripOf_133 : decode cX11_gripOf 133 = .ok (.if_icmp .le 8, 3) := by decide +kernel
theorem dX11_gripOf_136 : decode cX11_gripOf 136 = .ok (.bipush 12, 2) := by decide +kernel
theorem dX11_gripOf_138 : decode cX11_gripOf 138 = .ok (.goto 5, 3) := by decide +kernel
theorem dX11_gripOf_141 : decode cX11_gripOf 141 = .ok (.iload 4, 2) := by decide +kernel
theorem dX11_gripOf_143 : decode cX11_gripOf 143 = .ok (.ireturn, 1) := by decide +kernel
def fX11_gripOf_b120 (y4 : Int32) (s : mS) : Option (Int32 × mS) :=
  if 0 ≤ y4 then
    if y4 ≤ (nI 12) then
      some (y4, s)
    else
      some ((nI 12), s)
  else
    some ((nI 0), s)

def fX11_gripOf (x1 : Int32) (x2 : Int32) (x3 : Int32) (s : mS) : Option (Int32 × mS) :=
  ldA s aX_age 8 x2 fun v1 =>
  ldA s aX_may 65 ((nI 56) + x1) fun v2 =>
  bnd (((nI 6) + (v1 / (nI 10))) - (v2 / (nI 3))) fun v3 =>
  if (gI s iX_textMany) < 0 then
    fX11_gripOf_b120 v3 s
  else
    ldA s aX_age 8 x2 fun v4 =>
    stA s aX_names 6 (nI 0) v4 fun s5 =>
    ldA s5 aX_may 65 ((nI 56) + x1) fun v6 =>
    stA s5 aX_names 6 (nI 1) v6 fun s7 =>
    stA s7 aX_names 6 (nI 2) x3 fun s8 =>
    bO (fX11_handOf x1 x3 s8) fun r9 =>
    ldA s8 aX_pull 24 (((nI 3) * x2) + x3) fun v10 =>
    bO (fX11_apart r9 v10 s8) fun r11 =>
    stA s8 aX_names 6 (nI 3) r11 fun s12 =>
    stA s12 aX_names 6 (nI 4) (gI s12 iX_ribbon) fun s13 =>
    stA s13 aX_names 6 (nI 5) x2 fun s14 =>
    bP (fX11_workOut (nI 0) (gI s14 iX_textMany) s14) fun r15 s16 =>
    bnd r15 fun v17 =>
    fX11_gripOf_b120 v17 s16

set_option maxRecDepth 20000 in
theorem wX11_gripOf_b120 {ρ : mRo} {d : Nat} {P : mPo} {V : mS → List mE} (hV : mView LX V)  {res : (Int32 × mS)} (hP : P (some (.int res.1)) (V res.2)) (y4 : Int32) (s : mS) (hf : fX11_gripOf_b120 y4 s = some res) : mG ρ (mC ρ (d + 63)) 11 5 cX11_gripOf (some .int) P 120 [(4, .int y4)] [] (V s) := by
  unfold fX11_gripOf_b120 at hf
  refine e_iload 0 dX11_gripOf_120 rfl ?_
  refine e_if_ge 129 dX11_gripOf_122 (by decide) hf (fun hf => ?_) (fun hf => ?_)
  · refine e_iload 0 dX11_gripOf_129 rfl ?_
    refine e_bipush (w := (nI 12)) dX11_gripOf_131 (by decide) ?_
    refine e_icmp_le 141 dX11_gripOf_133 (by decide) hf (fun hf => ?_) (fun hf => ?_)
    · refine e_iload 0 dX11_gripOf_141 rfl ?_
      obtain rfl := Option.some.inj hf
      exact e_iret dX11_gripOf_143 trivial hP
    · refine e_bipush (w := (nI 12)) dX11_gripOf_136 (by decide) ?_
      refine e_goto 143 dX11_gripOf_138 (by decide) ?_
      obtain rfl := Option.some.inj hf
      exact e_iret dX11_gripOf_143 trivial hP
  · refine e_iconst (w := (nI 0)) dX11_gripOf_125 (by decide) ?_
    refine e_goto 143 dX11_gripOf_126 (by decide) ?_
    obtain rfl := Option.some.inj hf
    exact e_iret dX11_gripOf_143 trivial hP
set_option maxRecDepth 20000 in
theorem tX11_gripOf {ρ : mRo} {d : Nat} {P : mPo} {V : mS → List mE} (hV : mView LX V)  {x1 : Int32} {x2 : Int32} {x3 : Int32} {s : mS} {res : (Int32 × mS)} (hf : fX11_gripOf x1 x2 x3 s = some res) (hP : P (some (.int res.1)) (V res.2)) : mC ρ (d + 64) 171 [.ref qX, .int x1, .int x2, .int x3] (V s) P := by
  refine ⟨_, rfl, Nat.le_of_ble_eq_true rfl, by decide, ?_⟩
  show mG ρ (mC ρ (d + 63)) 11 5 cX11_gripOf (some .int) P 0 [(0, .ref qX), (1, .int x1), (2, .int x2), (3, .int x3)] [] (V s)
  unfold fX11_gripOf at hf
  refine e_bipush (w := (nI 6)) dX11_gripOf_0 (by decide) ?_
  refine e_aload_n 0 dX11_gripOf_2 rfl rfl ?_
  refine e_getr hV dX11_gripOf_3 rfl lx_X rfl ?_
  refine e_iload_n 2 dX11_gripOf_6 rfl rfl ?_
  refine e_iald hV dX11_gripOf_7 lx_X_age hf (fun v1 hf => ?_)
  refine e_bipush (w := (nI 10)) dX11_gripOf_8 (by decide) ?_
  refine e_idiv dX11_gripOf_10 (by decide) ?_
  refine e_iadd dX11_gripOf_11 ?_
  refine e_aload_n 0 dX11_gripOf_12 rfl rfl ?_
  refine e_getr hV dX11_gripOf_13 rfl lx_X rfl ?_
  refine e_bipush (w := (nI 56)) dX11_gripOf_16 (by decide) ?_
  refine e_iload_n 1 dX11_gripOf_18 rfl rfl ?_
  refine e_iadd dX11_gripOf_19 ?_
  refine e_iald hV dX11_gripOf_20 lx_X_may hf (fun v2 hf => ?_)
  refine e_iconst (w := (nI 3)) dX11_gripOf_21 (by decide) ?_
  refine e_idiv dX11_gripOf_22 (by decide) ?_
  refine e_isub dX11_gripOf_23 ?_
  refine e_istore dX11_gripOf_24 (by decide) hf (fun v3 hf => ?_)
  refine e_aload_n 1 dX11_gripOf_26 rfl rfl ?_
  refine e_geti hV dX11_gripOf_27 rfl lx_X rfl ?_
  refine e_if_lt 120 dX11_gripOf_30 (by decide) hf (fun hf => ?_) (fun hf => ?_)
  · refine e_pick [0] rfl ?_
    exact wX11_gripOf_b120 hV hP v3 s hf
  · refine e_aload_n 1 dX11_gripOf_33 rfl rfl ?_
    refine e_getr hV dX11_gripOf_34 rfl lx_X rfl ?_
    refine e_iconst (w := (nI 0)) dX11_gripOf_37 (by decide) ?_
    refine e_aload_n 1 dX11_gripOf_38 rfl rfl ?_
    refine e_getr hV dX11_gripOf_39 rfl lx_X rfl ?_
    refine e_iload_n 3 dX11_gripOf_42 rfl rfl ?_
    refine e_iald hV dX11_gripOf_43 lx_X_age hf (fun v4 hf => ?_)
    refine e_iast hV dX11_gripOf_44 lx_X_names hf (fun s5 hf => ?_)
    refine e_aload_n 1 dX11_gripOf_45 rfl rfl ?_
    refine e_getr hV dX11_gripOf_46 rfl lx_X rfl ?_
    refine e_iconst (w := (nI 1)) dX11_gripOf_49 (by decide) ?_
    refine e_aload_n 1 dX11_gripOf_50 rfl rfl ?_
    refine e_getr hV dX11_gripOf_51 rfl lx_X rfl ?_
    refine e_bipush (w := (nI 56)) dX11_gripOf_54 (by decide) ?_
    refine e_iload_n 2 dX11_gripOf_56 rfl rfl ?_
    refine e_iadd dX11_gripOf_57 ?_
    refine e_iald hV dX11_gripOf_58 lx_X_may hf (fun v6 hf => ?_)
    refine e_iast hV dX11_gripOf_59 lx_X_names hf (fun s7 hf => ?_)
    refine e_aload_n 1 dX11_gripOf_60 rfl rfl ?_
    refine e_getr hV dX11_gripOf_61 rfl lx_X rfl ?_
    refine e_iconst (w := (nI 2)) dX11_gripOf_64 (by decide) ?_
    refine e_iload_n 4 dX11_gripOf_65 rfl rfl ?_
    refine e_iast hV dX11_gripOf_66 lx_X_names hf (fun s8 hf => ?_)
    refine e_aload_n 1 dX11_gripOf_67 rfl rfl ?_
    refine e_getr hV dX11_gripOf_68 rfl lx_X rfl ?_
    refine e_iconst (w := (nI 3)) dX11_gripOf_71 (by decide) ?_
    refine e_aload_n 1 dX11_gripOf_72 rfl rfl ?_
    refine e_iload_n 2 dX11_gripOf_73 rfl rfl ?_
    refine e_iload_n 4 dX11_gripOf_74 rfl rfl ?_
    obtain ⟨r9, hg, hf⟩ := bO_some hf
    refine e_callV (as := [.int x1, .int x3]) (v := (some (.int r9))) (s' := s8) hV dX11_gripOf_75 (Or.inl rfl) rfl rfl rfl rfl (Nat.le_of_ble_eq_true rfl) lx_X rfl rfl (fun Q hQ => tX11_handOf (d := (d + 62)) hV  hg hQ) ?_
    refine e_aload_n 1 dX11_gripOf_78 rfl rfl ?_
    refine e_getr hV dX11_gripOf_79 rfl lx_X rfl ?_
    refine e_iconst (w := (nI 3)) dX11_gripOf_82 (by decide) ?_
    refine e_iload_n 3 dX11_gripOf_83 rfl rfl ?_
    refine e_imul dX11_gripOf_84 ?_
    refine e_iload_n 4 dX11_gripOf_85 rfl rfl ?_
    refine e_iadd dX11_gripOf_86 ?_
    refine e_iald hV dX11_gripOf_87 lx_X_pull hf (fun v10 hf => ?_)
    obtain ⟨r11, hg, hf⟩ := bO_some hf
    refine e_callS (as := [.int r9, .int v10]) (v := (some (.int r11))) (s' := s8) dX11_gripOf_88 rfl rfl rfl rfl rfl (Nat.le_of_ble_eq_true rfl) (fun Q hQ => tX11_apart (d := (d + 62)) hV  hg hQ) ?_
    refine e_iast hV dX11_gripOf_91 lx_X_names hf (fun s12 hf => ?_)
    refine e_aload_n 1 dX11_gripOf_92 rfl rfl ?_
    refine e_getr hV dX11_gripOf_93 rfl lx_X rfl ?_
    refine e_iconst (w := (nI 4)) dX11_gripOf_96 (by decide) ?_
    refine e_aload_n 1 dX11_gripOf_97 rfl rfl ?_
    refine e_geti hV dX11_gripOf_98 rfl lx_X rfl ?_
    refine e_iast hV dX11_gripOf_101 lx_X_names hf (fun s13 hf => ?_)
    refine e_aload_n 1 dX11_gripOf_102 rfl rfl ?_
    refine e_getr hV dX11_gripOf_103 rfl lx_X rfl ?_
    refine e_iconst (w := (nI 5)) dX11_gripOf_106 (by decide) ?_
    refine e_iload_n 3 dX11_gripOf_107 rfl rfl ?_
    refine e_iast hV dX11_gripOf_108 lx_X_names hf (fun s14 hf => ?_)
    refine e_aload_n 1 dX11_gripOf_109 rfl rfl ?_
    refine e_iconst (w := (nI 0)) dX11_gripOf_110 (by decide) ?_
    refine e_aload_n 1 dX11_gripOf_111 rfl rfl ?_
    refine e_geti hV dX11_gripOf_112 rfl lx_X rfl ?_
    obtain ⟨r15, s16, hg, hf⟩ := bP_some hf
    refine e_callV (as := [.int (nI 0), .int (gI s14 iX_textMany)]) (v := (some (.int r15))) (s' := s16) hV dX11_gripOf_115 (Or.inl rfl) rfl rfl rfl rfl (Nat.le_of_ble_eq_true rfl) lx_X rfl rfl (fun Q hQ => tX11_workOut (d := d) hV  hg hQ) ?_
    refine e_istore dX11_gripOf_118 (by decide) hf (fun v17 hf => ?_)
    refine e_pick [0] rfl ?_
    exact wX11_gripOf_b120 hV hP v17 s16 hf

theorem dX11_showsOf_0 : decode cX11_showsOf 0 = .ok (.aload_n 0, 1) := by decide +kernel
theorem dX11_showsOf_1 : decode cX11_showsOf 1 = .ok (.iload_n 1, 1) := by decide +kernel
theorem dX11_showsOf_2 : decode cX11_showsOf 2 = .ok (.iload_n 2, 1) := by decide +kernel
theorem dX11_showsOf_3 : decode cX11_showsOf 3 = .ok (.iload_n 3, 1) := by decide +kernel
theorem dX11_showsOf_4 : decode cX11_showsOf 4 = .ok (.invokevirtual 204, 3) := by decide +kernel
theorem dX11_showsOf_7 : decode cX11_showsOf 7 = .ok (.istore 4, 2) := by decide +kernel
theorem dX11_showsOf_9 : decode cX11_showsOf 9 = .ok (.aload_n 0, 1) := by decide +kernel
theorem dX11_showsOf_10 : decode cX11_showsOf 10 = .ok (.iload_n 1, 1) := by decide +kernel
theorem dX11_showsOf_11 : decode cX11_showsOf 11 = .ok (.iload_n 3, 1) := by decide +kernel
theorem dX11_showsOf_12 : decode cX11_showsOf 12 = .ok (.invokevirtual 198, 3) := by decide +kernel
theorem dX11_showsOf_15 : decode cX11_showsOf 15 = .ok (.bipush 12, 2) := by decide +kernel
theorem dX11_showsOf_17 : decode cX11_showsOf 17 = .ok (.iload 4, 2) := by decide +kernel
theorem dX11_showsOf_19 : decode cX11_showsOf 19 = .ok (.isub, 1) := by decide +kernel
theorem dX11_showsOf_20 : decode cX11_showsOf 20 = .ok (.imul, 1) := by decide +kernel
theorem dX11_showsOf_21 : decode cX11_showsOf 21 = .ok (.aload_n 0, 1) := by decide +kernel
theorem dX11_showsOf_22 : decode cX11_showsOf 22 = .ok (.getfield 31, 3) := by decide +kernel
theorem dX11_showsOf_25 : decode cX11_showsOf 25 = .ok (.iconst 3, 1) := by decide +kernel
theorem dX11_showsOf_26 : decode cX11_showsOf 26 = .ok (.iload_n 2, 1) := by decide +kernel
theorem dX11_showsOf_27 : decode cX11_showsOf 27 = .ok (.imul, 1) := by decide +kernel
theorem dX11_showsOf_28 : decode cX11_showsOf 28 = .ok (.iload_n 3, 1) := by decide +kernel
theorem dX11_showsOf_29 : decode cX11_showsOf 29 = .ok (.iadd, 1) := by decide +kernel
theorem dX11_showsOf_30 : decode cX11_showsOf 30 = .ok (.iaload, 1) := by decide +kernel
theorem dX11_showsOf_31 : decode cX11_showsOf 31 = .ok (.iload 4, 2) := by decide +kernel
theorem dX11_showsOf_33 : decode cX11_showsOf 33 = .ok (.imul, 1) := by decide +kernel
theorem dX11_showsOf_34 : decode cX11_showsOf 34 = .ok (.iadd, 1) := by decide +kernel
theorem dX11_showsOf_35 : decode cX11_showsOf 35 = .ok (.bipush 12, 2) := by decide +kernel
theorem dX11_showsOf_37 : decode cX11_showsOf 37 = .ok (.idiv, 1) := by decide +kernel
theorem dX11_showsOf_38 : decode cX11_showsOf 38 = .ok (.ireturn, 1) := by decide +kernel
def fX11_showsOf (x1 : Int32) (x2 : Int32) (x3 : Int32) (s : mS) : Option (Int32 × mS) :=
  bP (fX11_gripOf x1 x2 x3 s) fun r1 s2 =>
  bnd r1 fun v3 =>
  bO (fX11_handOf x1 x3 s2) fun r4 =>
  ldA s2 aX_pull 24 (((nI 3) * x2) + x3) fun v5 =>
  some (((r4 * ((nI 12) - v3)) + (v5 * v3)) / (nI 12), s2)

set_option maxRecDepth 20000 in
theorem tX11_showsOf {ρ : mRo} {d : Nat} {P : mPo} {V : mS → List mE} (hV : mView LX V)  {x1 : Int32} {x2 : Int32} {x3 : Int32} {s : mS} {res : (Int32 × mS)} (hf : fX11_showsOf x1 x2 x3 s = some res) (hP : P (some (.int res.1)) (V res.2)) : mC ρ (d + 65) 172 [.ref qX, .int x1, .int x2, .int x3] (V s) P := by
  refine ⟨_, rfl, Nat.le_of_ble_eq_true rfl, by decide, ?_⟩
  show mG ρ (mC ρ (d + 64)) 11 5 cX11_showsOf (some .int) P 0 [(0, .ref qX), (1, .int x1), (2, .int x2), (3, .int x3)] [] (V s)
  unfold fX11_showsOf at hf
  refine e_aload_n 0 dX11_showsOf_0 rfl rfl ?_
  refine e_iload_n 1 dX11_showsOf_1 rfl rfl ?_
  refine e_iload_n 2 dX11_showsOf_2 rfl rfl ?_
  refine e_iload_n 3 dX11_showsOf_3 rfl rfl ?_
  obtain ⟨r1, s2, hg, hf⟩ := bP_some hf
  refine e_callV (as := [.int x1, .int x2, .int x3]) (v := (some (.int r1))) (s' := s2) hV dX11_showsOf_4 (Or.inl rfl) rfl rfl rfl rfl (Nat.le_of_ble_eq_true rfl) lx_X rfl rfl (fun Q hQ => tX11_gripOf (d := d) hV  hg hQ) ?_
  refine e_istore dX11_showsOf_7 (by decide) hf (fun v3 hf => ?_)
  refine e_aload_n 1 dX11_showsOf_9 rfl rfl ?_
  refine e_iload_n 2 dX11_showsOf_10 rfl rfl ?_
  refine e_iload_n 4 dX11_showsOf_11 rfl rfl ?_
  obtain ⟨r4, hg, hf⟩ := bO_some hf
  refine e_callV (as := [.int x1, .int x3]) (v := (some (.int r4))) (s' := s2) hV dX11_showsOf_12 (Or.inl rfl) rfl rfl rfl rfl (Nat.le_of_ble_eq_true rfl) lx_X rfl rfl (fun Q hQ => tX11_handOf (d := (d + 63)) hV  hg hQ) ?_
  refine e_bipush (w := (nI 12)) dX11_showsOf_15 (by decide) ?_
  refine e_iload 0 dX11_showsOf_17 rfl ?_
  refine e_isub dX11_showsOf_19 ?_
  refine e_imul dX11_showsOf_20 ?_
  refine e_aload_n 1 dX11_showsOf_21 rfl rfl ?_
  refine e_getr hV dX11_showsOf_22 rfl lx_X rfl ?_
  refine e_iconst (w := (nI 3)) dX11_showsOf_25 (by decide) ?_
  refine e_iload_n 3 dX11_showsOf_26 rfl rfl ?_
  refine e_imul dX11_showsOf_27 ?_
  refine e_iload_n 4 dX11_showsOf_28 rfl rfl ?_
  refine e_iadd dX11_showsOf_29 ?_
  refine e_iald hV dX11_showsOf_30 lx_X_pull hf (fun v5 hf => ?_)
  refine e_iload 0 dX11_showsOf_31 rfl ?_
  refine e_imul dX11_showsOf_33 ?_
  refine e_iadd dX11_showsOf_34 ?_
  refine e_bipush (w := (nI 12)) dX11_showsOf_35 (by decide) ?_
  refine e_idiv dX11_showsOf_37 (by decide) ?_
  obtain rfl := Option.some.inj hf
  exact e_iret dX11_showsOf_38 trivial hP

theorem dX11_codeOf_0 : decode cX11_codeOf 0 = .ok (.sipush 169, 3) := by decide +kernel
theorem dX11_codeOf_3 : decode cX11_codeOf 3 = .ok (.aload_n 0, 1) := by decide +kernel
theorem dX11_codeOf_4 : decode cX11_codeOf 4 = .ok (.iload_n 1, 1) := by decide +kernel
theorem dX11_codeOf_5 : decode cX11_codeOf 5 = .ok (.iload_n 2, 1) := by decide +kernel
theorem dX11_codeOf_6 : decode cX11_codeOf 6 = .ok (.iconst 0, 1) := by decide +kernel
theorem dX11_codeOf_7 : decode cX11_codeOf 7 = .ok (.invokevirtual 208, 3) := by decide +kernel
theorem dX11_codeOf_10 : decode cX11_codeOf 10 = .ok (.imul, 1) := by decide +kernel
theorem dX11_codeOf_11 : decode cX11_codeOf 11 = .ok (.bipush 13, 2) := by decide +kernel
theorem dX11_codeOf_13 : decode cX11_codeOf 13 = .ok (.aload_n 0, 1) := by decide +kernel
theorem dX11_codeOf_14 : decode cX11_codeOf 14 = .ok (.iload_n 1, 1) := by decide +kernel
theorem dX11_codeOf_15 : decode cX11_codeOf 15 = .ok (.iload_n 2, 1) := by decide +kernel
theorem dX11_codeOf_16 : decode cX11_codeOf 16 = .ok (.iconst 1, 1) := by decide +kernel
theorem dX11_codeOf_17 : decode cX11_codeOf 17 = .ok (.invokevirtual 208, 3) := by decide +kernel
theorem dX11_codeOf_20 : decode cX11_codeOf 20 = .ok (.imul, 1) := by decide +kernel
theorem dX11_codeOf_21 : decode cX11_codeOf 21 = .ok (.iadd, 1) := by decide +kernel
theorem dX11_codeOf_22 : decode cX11_codeOf 22 = .ok (.aload_n 0, 1) := by decide +kernel
theorem dX11_codeOf_23 : decode cX11_codeOf 23 = .ok (.iload_n 1, 1) := by decide +kernel
theorem dX11_codeOf_24 : decode cX11_codeOf 24 = .ok (.iload_n 2, 1) := by decide +kernel
theorem dX11_codeOf_25 : decode cX11_codeOf 25 = .ok (.iconst 2, 1) := by decide +kernel
theorem dX11_codeOf_26 : decode cX11_codeOf 26 = .ok (.invokevirtual 208, 3) := by decide +kernel
theorem dX11_codeOf_29 : decode cX11_codeOf 29 = .ok (.iadd, 1) := by decide +kernel
theorem dX11_codeOf_30 : decode cX11_codeOf 30 = .ok (.ireturn, 1) := by decide +kernel
def fX11_codeOf (x1 : Int32) (x2 : Int32) (s : mS) : Option (Int32 × mS) :=
  bP (fX11_showsOf x1 x2 (nI 0) s) fun r1 s2 =>
  bP (fX11_showsOf x1 x2 (nI 1) s2) fun r3 s4 =>
  bP (fX11_showsOf x1 x2 (nI 2) s4) fun r5 s6 =>
  some ((((nI 169) * r1) + ((nI 13) * r3)) + r5, s6)

set_option maxRecDepth 20000 in
theorem tX11_codeOf {ρ : mRo} {d : Nat} {P : mPo} {V : mS → List mE} (hV : mView LX V)  {x1 : Int32} {x2 : Int32} {s : mS} {res : (Int32 × mS)} (hf : fX11_codeOf x1 x2 s = some res) (hP : P (some (.int res.1)) (V res.2)) : mC ρ (d + 66) 173 [.ref qX, .int x1, .int x2] (V s) P := by
  refine ⟨_, rfl, Nat.le_of_ble_eq_true rfl, by decide, ?_⟩
  show mG ρ (mC ρ (d + 65)) 11 3 cX11_codeOf (some .int) P 0 [(0, .ref qX), (1, .int x1), (2, .int x2)] [] (V s)
  unfold fX11_codeOf at hf
  refine e_sipush (w := (nI 169)) dX11_codeOf_0 (by decide) ?_
  refine e_aload_n 0 dX11_codeOf_3 rfl rfl ?_
  refine e_iload_n 1 dX11_codeOf_4 rfl rfl ?_
  refine e_iload_n 2 dX11_codeOf_5 rfl rfl ?_
  refine e_iconst (w := (nI 0)) dX11_codeOf_6 (by decide) ?_
  obtain ⟨r1, s2, hg, hf⟩ := bP_some hf
  refine e_callV (as := [.int x1, .int x2, .int (nI 0)]) (v := (some (.int r1))) (s' := s2) hV dX11_codeOf_7 (Or.inl rfl) rfl rfl rfl rfl (Nat.le_of_ble_eq_true rfl) lx_X rfl rfl (fun Q hQ => tX11_showsOf (d := d) hV  hg hQ) ?_
  refine e_imul dX11_codeOf_10 ?_
  refine e_bipush (w := (nI 13)) dX11_codeOf_11 (by decide) ?_
  refine e_aload_n 0 dX11_codeOf_13 rfl rfl ?_
  refine e_iload_n 1 dX11_codeOf_14 rfl rfl ?_
  refine e_iload_n 2 dX11_codeOf_15 rfl rfl ?_
  refine e_iconst (w := (nI 1)) dX11_codeOf_16 (by decide) ?_
  obtain ⟨r3, s4, hg, hf⟩ := bP_some hf
  refine e_callV (as := [.int x1, .int x2, .int (nI 1)]) (v := (some (.int r3))) (s' := s4) hV dX11_codeOf_17 (Or.inl rfl) rfl rfl rfl rfl (Nat.le_of_ble_eq_true rfl) lx_X rfl rfl (fun Q hQ => tX11_showsOf (d := d) hV  hg hQ) ?_
  refine e_imul dX11_codeOf_20 ?_
  refine e_iadd dX11_codeOf_21 ?_
  refine e_aload_n 0 dX11_codeOf_22 rfl rfl ?_
  refine e_iload_n 1 dX11_codeOf_23 rfl rfl ?_
  refine e_iload_n 2 dX11_codeOf_24 rfl rfl ?_
  refine e_iconst (w := (nI 2)) dX11_codeOf_25 (by decide) ?_
  obtain ⟨r5, s6, hg, hf⟩ := bP_some hf
  refine e_callV (as := [.int x1, .int x2, .int (nI 2)]) (v := (some (.int r5))) (s' := s6) hV dX11_codeOf_26 (Or.inl rfl) rfl rfl rfl rfl (Nat.le_of_ble_eq_true rfl) lx_X rfl rfl (fun Q hQ => tX11_showsOf (d := d) hV  hg hQ) ?_
  refine e_iadd dX11_codeOf_29 ?_
  obtain rfl := Option.some.inj hf
  exact e_iret dX11_codeOf_30 trivial hP
