-- bytecode to functions, by program (wip/gen/decomp.py)
theorem dX10_isNumberOf_0 : decode cX10_isNumberOf 0 = .ok (.iload_n 2, 1) := by decide +kernel
theorem dX10_isNumberOf_1 : decode cX10_isNumberOf 1 = .ok (.ifCond .lt 17, 3) := by decide +kernel
theorem dX10_isNumberOf_4 : decode cX10_isNumberOf 4 = .ok (.iload_n 2, 1) := by decide +kernel
theorem dX10_isNumberOf_5 : decode cX10_isNumberOf 5 = .ok (.iconst 3, 1) := by decide +kernel
theorem dX10_isNumberOf_6 : decode cX10_isNumberOf 6 = .ok (.if_icmp .gt 12, 3) := by decide +kernel
theorem dX10_isNumberOf_9 : decode cX10_isNumberOf 9 = .ok (.aload_n 0, 1) := by decide +kernel
theorem dX10_isNumberOf_10 : decode cX10_isNumberOf 10 = .ok (.getfield 10, 3) := by decide +kernel
theorem dX10_isNumberOf_13 : decode cX10_isNumberOf 13 = .ok (.iload_n 1, 1) := by decide +kernel
theorem dX10_isNumberOf_14 : decode cX10_isNumberOf 14 = .ok (.invokevirtual 174, 3) := by decide +kernel
theorem dX10_isNumberOf_17 : decode cX10_isNumberOf 17 = .ok (.ireturn, 1) := by decide +kernel
theorem dX10_isNumberOf_18 : decode cX10_isNumberOf 18 = .ok (.iload_n 2, 1) := by decide +kernel
theorem dX10_isNumberOf_19 : decode cX10_isNumberOf 19 = .ok (.iconst 4, 1) := by decide +kernel
theorem dX10_isNumberOf_20 : decode cX10_isNumberOf 20 = .ok (.if_icmp .lt 18, 3) := by decide +kernel
theorem dX10_isNumberOf_23 : decode cX10_isNumberOf 23 = .ok (.iload_n 2, 1) := by decide +kernel
theorem dX10_isNumberOf_24 : decode cX10_isNumberOf 24 = .ok (.bipush 7, 2) := by decide +kernel
theorem dX10_isNumberOf_26 : decode cX10_isNumberOf 26 = .ok (.if_icmp .gt 12, 3) := by decide +kernel
theorem dX10_isNumberOf_29 : decode cX10_isNumberOf 29 = .ok (.aload_n 0, 1) := by decide +kernel
theorem dX10_isNumberOf_30 : decode cX10_isNumberOf 30 = .ok (.getfield 22, 3) := by decide +kernel
theorem dX10_isNumberOf_33 : decode cX10_isNumberOf 33 = .ok (.iload_n 1, 1) := by decide +kernel
theorem dX10_isNumberOf_34 : decode cX10_isNumberOf 34 = .ok (.invokevirtual 208, 3) := by decide +kernel
theorem dX10_isNumberOf_37 : decode cX10_isNumberOf 37 = .ok (.ireturn, 1) := by decide +kernel
theorem dX10_isNumberOf_38 : decode cX10_isNumberOf 38 = .ok (.iload_n 2, 1) := by decide +kernel
theorem dX10_isNumberOf_39 : decode cX10_isNumberOf 39 = .ok (.bipush 8, 2) := by decide +kernel
theorem dX10_isNumberOf_41 : decode cX10_isNumberOf 41 = .ok (.if_icmp .ne 11, 3) := by decide +kernel
theorem dX10_isNumberOf_44 : decode cX10_isNumberOf 44 = .ok (.iload_n 1, 1) := by decide +kernel
theorem dX10_isNumberOf_45 : decode cX10_isNumberOf 45 = .ok (.ifCond .ne 7, 3) := by decide +kernel
theorem dX10_isNumberOf_48 : decode cX10_isNumberOf 48 = .ok (.iconst 1, 1) := by decide +kernel
theorem dX10_isNumberOf_49 : decode cX10_isNumberOf 49 = .ok (.goto 4, 3) := by decide +kernel
theorem dX10_isNumberOf_52 : decode cX10_isNumberOf 52 = .ok (.iconst 0, 1) := by decide +kernel
theorem dX10_isNumberOf_53 : decode cX10_isNumberOf 53 = .ok (.ireturn, 1) := by decide +kernel
def fX10_isNumberOf_b38 (y1 : Int32) (y2 : Int32) (s : mS) : Option Int32 :=
  if y2 = 8 then
    if y1 = 0 then
      some 1
    else
      some 0
  else
    some 0

def fX10_isNumberOf_b18 (y1 : Int32) (y2 : Int32) (s : mS) : Option Int32 :=
  if y2 < 4 then
    fX10_isNumberOf_b38 y1 y2 s
  else
    if 7 < y2 then
      fX10_isNumberOf_b38 y1 y2 s
    else
      bO (fX9_has 0 y1 s) fun r1 =>
      rB r1 (some r1)

def fX10_isNumberOf (x1 : Int32) (x2 : Int32) (s : mS) : Option Int32 :=
  if x2 < 0 then
    fX10_isNumberOf_b18 x1 x2 s
  else
    if 3 < x2 then
      fX10_isNumberOf_b18 x1 x2 s
    else
      bO (fX6_has 0 x1 s) fun r2 =>
      rB r2 (some r2)

set_option maxRecDepth 20000 in
theorem wX10_isNumberOf_b38 {ρ : mRo} {d : Nat} {P : mPo} {V : mS → List mE} (hV : mView LC V)  {res : Int32} {s : mS} (hP : P (some (.int res)) (V s)) (y1 : Int32) (y2 : Int32) (hf : fX10_isNumberOf_b38 y1 y2 s = some res) : mG ρ (mC ρ (d + 1)) 10 3 cX10_isNumberOf (some .boolean) P 38 [(1, .int y1), (2, .int y2)] [] (V s) := by
  unfold fX10_isNumberOf_b38 at hf
  refine e_iload_n 1 dX10_isNumberOf_38 rfl rfl ?_
  refine e_bipush (w := 8) dX10_isNumberOf_39 (by decide) ?_
  refine e_icmp_ne 52 dX10_isNumberOf_41 (by decide) hf (fun hf => ?_) (fun hf => ?_)
  · refine e_iconst (w := 0) dX10_isNumberOf_52 (by decide) ?_
    cases hf
    exact e_iret dX10_isNumberOf_53 (Or.inl rfl) hP
  · refine e_iload_n 0 dX10_isNumberOf_44 rfl rfl ?_
    refine e_if_ne 52 dX10_isNumberOf_45 (by decide) hf (fun hf => ?_) (fun hf => ?_)
    · refine e_iconst (w := 0) dX10_isNumberOf_52 (by decide) ?_
      cases hf
      exact e_iret dX10_isNumberOf_53 (Or.inl rfl) hP
    · refine e_iconst (w := 1) dX10_isNumberOf_48 (by decide) ?_
      refine e_goto 53 dX10_isNumberOf_49 (by decide) ?_
      cases hf
      exact e_iret dX10_isNumberOf_53 (Or.inr rfl) hP
set_option maxRecDepth 20000 in
theorem wX10_isNumberOf_b18 {ρ : mRo} {d : Nat} {P : mPo} {V : mS → List mE} (hV : mView LC V)  {res : Int32} {s : mS} (hP : P (some (.int res)) (V s)) (y1 : Int32) (y2 : Int32) (hf : fX10_isNumberOf_b18 y1 y2 s = some res) : mG ρ (mC ρ (d + 1)) 10 3 cX10_isNumberOf (some .boolean) P 18 [(0, .ref qT), (1, .int y1), (2, .int y2)] [] (V s) := by
  unfold fX10_isNumberOf_b18 at hf
  refine e_iload_n 2 dX10_isNumberOf_18 rfl rfl ?_
  refine e_iconst (w := 4) dX10_isNumberOf_19 (by decide) ?_
  refine e_icmp_lt 38 dX10_isNumberOf_20 (by decide) hf (fun hf => ?_) (fun hf => ?_)
  · refine e_pick [1, 2] rfl ?_
    exact wX10_isNumberOf_b38 hV hP y1 y2 hf
  · refine e_iload_n 2 dX10_isNumberOf_23 rfl rfl ?_
    refine e_bipush (w := 7) dX10_isNumberOf_24 (by decide) ?_
    refine e_icmp_gt 38 dX10_isNumberOf_26 (by decide) hf (fun hf => ?_) (fun hf => ?_)
    · refine e_pick [1, 2] rfl ?_
      exact wX10_isNumberOf_b38 hV hP y1 y2 hf
    · refine e_aload_n 0 dX10_isNumberOf_29 rfl rfl ?_
      refine e_getr hV dX10_isNumberOf_30 rfl lc_T rfl ?_
      refine e_iload_n 1 dX10_isNumberOf_33 rfl rfl ?_
      obtain ⟨r1, hg, hf⟩ := bO_some hf
      refine e_callV (as := [.int y1]) (v := (some (.int r1))) (s' := s) hV dX10_isNumberOf_34 (Or.inl rfl) rfl rfl rfl rfl (Nat.le_of_ble_eq_true rfl) (lc_W (by decide)) rfl rfl (fun Q hQ => tX9_has (d := d) hV (by decide) hg hQ) ?_
      obtain ⟨hb0, hf⟩ := rB_some hf
      cases hf
      exact e_iret dX10_isNumberOf_37 hb0 hP
set_option maxRecDepth 20000 in
theorem tX10_isNumberOf {ρ : mRo} {d : Nat} {P : mPo} {V : mS → List mE} (hV : mView LC V)  {x1 : Int32} {x2 : Int32} {s : mS} {res : Int32} (hf : fX10_isNumberOf x1 x2 s = some res) (hP : P (some (.int res)) (V s)) : mC ρ (d + 2) 115 [.ref qT, .int x1, .int x2] (V s) P := by
  refine ⟨_, rfl, Nat.le_of_ble_eq_true rfl, by decide, ?_⟩
  show mG ρ (mC ρ (d + 1)) 10 3 cX10_isNumberOf (some .boolean) P 0 [(0, .ref qT), (1, .int x1), (2, .int x2)] [] (V s)
  unfold fX10_isNumberOf at hf
  refine e_iload_n 2 dX10_isNumberOf_0 rfl rfl ?_
  refine e_if_lt 18 dX10_isNumberOf_1 (by decide) hf (fun hf => ?_) (fun hf => ?_)
  · refine e_pick [0, 1, 2] rfl ?_
    exact wX10_isNumberOf_b18 hV hP x1 x2 hf
  · refine e_iload_n 2 dX10_isNumberOf_4 rfl rfl ?_
    refine e_iconst (w := 3) dX10_isNumberOf_5 (by decide) ?_
    refine e_icmp_gt 18 dX10_isNumberOf_6 (by decide) hf (fun hf => ?_) (fun hf => ?_)
    · refine e_pick [0, 1, 2] rfl ?_
      exact wX10_isNumberOf_b18 hV hP x1 x2 hf
    · refine e_aload_n 0 dX10_isNumberOf_9 rfl rfl ?_
      refine e_getr hV dX10_isNumberOf_10 rfl lc_T rfl ?_
      refine e_iload_n 1 dX10_isNumberOf_13 rfl rfl ?_
      obtain ⟨r2, hg, hf⟩ := bO_some hf
      refine e_callV (as := [.int x1]) (v := (some (.int r2))) (s' := s) hV dX10_isNumberOf_14 (Or.inl rfl) rfl rfl rfl rfl (Nat.le_of_ble_eq_true rfl) (lc_M (by decide)) rfl rfl (fun Q hQ => tX6_has (d := d) hV (by decide) hg hQ) ?_
      obtain ⟨hb0, hf⟩ := rB_some hf
      cases hf
      exact e_iret dX10_isNumberOf_17 hb0 hP

theorem dX10_topOf_0 : decode cX10_topOf 0 = .ok (.iload_n 0, 1) := by decide +kernel
theorem dX10_topOf_1 : decode cX10_topOf 1 = .ok (.iconst 3, 1) := by decide +kernel
theorem dX10_topOf_2 : decode cX10_topOf 2 = .ok (.if_icmp .ne 6, 3) := by decide +kernel
theorem dX10_topOf_5 : decode cX10_topOf 5 = .ok (.bipush 99, 2) := by decide +kernel
theorem dX10_topOf_7 : decode cX10_topOf 7 = .ok (.ireturn, 1) := by decide +kernel
theorem dX10_topOf_8 : decode cX10_topOf 8 = .ok (.iload_n 0, 1) := by decide +kernel
theorem dX10_topOf_9 : decode cX10_topOf 9 = .ok (.bipush 8, 2) := by decide +kernel
theorem dX10_topOf_11 : decode cX10_topOf 11 = .ok (.if_icmp .ne 8, 3) := by decide +kernel
theorem dX10_topOf_14 : decode cX10_topOf 14 = .ok (.bipush 9, 2) := by decide +kernel
theorem dX10_topOf_16 : decode cX10_topOf 16 = .ok (.goto 5, 3) := by decide +kernel
theorem dX10_topOf_19 : decode cX10_topOf 19 = .ok (.bipush 12, 2) := by decide +kernel
theorem dX10_topOf_21 : decode cX10_topOf 21 = .ok (.ireturn, 1) := by decide +kernel
def fX10_topOf (x0 : Int32) (s : mS) : Option Int32 :=
  if x0 = 3 then
    some 99
  else
    if x0 = 8 then
      some 9
    else
      some 12

set_option maxRecDepth 20000 in
theorem tX10_topOf {ρ : mRo} {d : Nat} {P : mPo} {V : mS → List mE} (hV : mView LC V)  {x0 : Int32} {s : mS} {res : Int32} (hf : fX10_topOf x0 s = some res) (hP : P (some (.int res)) (V s)) : mC ρ (d + 1) 116 [.int x0] (V s) P := by
  refine ⟨_, rfl, Nat.le_of_ble_eq_true rfl, by decide, ?_⟩
  show mG ρ (mC ρ d) 10 1 cX10_topOf (some .int) P 0 [(0, .int x0)] [] (V s)
  unfold fX10_topOf at hf
  refine e_iload_n 0 dX10_topOf_0 rfl rfl ?_
  refine e_iconst (w := 3) dX10_topOf_1 (by decide) ?_
  refine e_icmp_ne 8 dX10_topOf_2 (by decide) hf (fun hf => ?_) (fun hf => ?_)
  · refine e_iload_n 0 dX10_topOf_8 rfl rfl ?_
    refine e_bipush (w := 8) dX10_topOf_9 (by decide) ?_
    refine e_icmp_ne 19 dX10_topOf_11 (by decide) hf (fun hf => ?_) (fun hf => ?_)
    · refine e_bipush (w := 12) dX10_topOf_19 (by decide) ?_
      cases hf
      exact e_iret dX10_topOf_21 trivial hP
    · refine e_bipush (w := 9) dX10_topOf_14 (by decide) ?_
      refine e_goto 21 dX10_topOf_16 (by decide) ?_
      cases hf
      exact e_iret dX10_topOf_21 trivial hP
  · refine e_bipush (w := 99) dX10_topOf_5 (by decide) ?_
    cases hf
    exact e_iret dX10_topOf_7 trivial hP

theorem dX10_valueOf_0 : decode cX10_valueOf 0 = .ok (.iload_n 2, 1) := by decide +kernel
theorem dX10_valueOf_1 : decode cX10_valueOf 1 = .ok (.lookupswitch 63 #[(3, 35), (7, 45), (8, 55)], 35) := by decide +kernel
theorem dX10_valueOf_36 : decode cX10_valueOf 36 = .ok (.aload_n 0, 1) := by decide +kernel
theorem dX10_valueOf_37 : decode cX10_valueOf 37 = .ok (.getfield 10, 3) := by decide +kernel
theorem dX10_valueOf_40 : decode cX10_valueOf 40 = .ok (.getfield 184, 3) := by decide +kernel
theorem dX10_valueOf_43 : decode cX10_valueOf 43 = .ok (.iload_n 1, 1) := by decide +kernel
theorem dX10_valueOf_44 : decode cX10_valueOf 44 = .ok (.iaload, 1) := by decide +kernel
theorem dX10_valueOf_45 : decode cX10_valueOf 45 = .ok (.ireturn, 1) := by decide +kernel
theorem dX10_valueOf_46 : decode cX10_valueOf 46 = .ok (.aload_n 0, 1) := by decide +kernel
theorem dX10_valueOf_47 : decode cX10_valueOf 47 = .ok (.getfield 22, 3) := by decide +kernel
theorem dX10_valueOf_50 : decode cX10_valueOf 50 = .ok (.getfield 401, 3) := by decide +kernel
theorem dX10_valueOf_53 : decode cX10_valueOf 53 = .ok (.iload_n 1, 1) := by decide +kernel
theorem dX10_valueOf_54 : decode cX10_valueOf 54 = .ok (.iaload, 1) := by decide +kernel
theorem dX10_valueOf_55 : decode cX10_valueOf 55 = .ok (.ireturn, 1) := by decide +kernel
theorem dX10_valueOf_56 : decode cX10_valueOf 56 = .ok (.aload_n 0, 1) := by decide +kernel
theorem dX10_valueOf_57 : decode cX10_valueOf 57 = .ok (.getfield 10, 3) := by decide +kernel
theorem dX10_valueOf_60 : decode cX10_valueOf 60 = .ok (.getfield 258, 3) := by decide +kernel
theorem dX10_valueOf_63 : decode cX10_valueOf 63 = .ok (.ireturn, 1) := by decide +kernel
theorem dX10_valueOf_64 : decode cX10_valueOf 64 = .ok (.iload_n 2, 1) := by decide +kernel
theorem dX10_valueOf_65 : decode cX10_valueOf 65 = .ok (.iconst 3, 1) := by decide +kernel
theorem dX10_valueOf_66 : decode cX10_valueOf 66 = .ok (.if_icmp .ge 15, 3) := by decide +kernel
theorem dX10_valueOf_69 : decode cX10_valueOf 69 = .ok (.aload_n 0, 1) := by decide +kernel
theorem dX10_valueOf_70 : decode cX10_valueOf 70 = .ok (.getfield 10, 3) := by decide +kernel
theorem dX10_valueOf_73 : decode cX10_valueOf 73 = .ok (.iload_n 1, 1) := by decide +kernel
theorem dX10_valueOf_74 : decode cX10_valueOf 74 = .ok (.iload_n 2, 1) := by decide +kernel
theorem dX10_valueOf_75 : decode cX10_valueOf 75 = .ok (.invokevirtual 187, 3) := by decide +kernel
theorem dX10_valueOf_78 : decode cX10_valueOf 78 = .ok (.goto 14, 3) := by decide +kernel
theorem dX10_valueOf_81 : decode cX10_valueOf 81 = .ok (.aload_n 0, 1) := by decide +kernel
theorem dX10_valueOf_82 : decode cX10_valueOf 82 = .ok (.getfield 22, 3) := by decide +kernel
theorem dX10_valueOf_85 : decode cX10_valueOf 85 = .ok (.iload_n 1, 1) := by decide +kernel
theorem dX10_valueOf_86 : decode cX10_valueOf 86 = .ok (.iload_n 2, 1) := by decide +kernel
theorem dX10_valueOf_87 : decode cX10_valueOf 87 = .ok (.iconst 4, 1) := by decide +kernel
theorem dX10_valueOf_88 : decode cX10_valueOf 88 = .ok (.isub, 1) := by decide +kernel
theorem dX10_valueOf_89 : decode cX10_valueOf 89 = .ok (.invokevirtual 223, 3) := by decide +kernel
theorem dX10_valueOf_92 : decode cX10_valueOf 92 = .ok (.ireturn, 1) := by decide +kernel
def fX10_valueOf (x1 : Int32) (x2 : Int32) (s : mS) : Option Int32 :=
  if x2 = 3 then
    ldA s (aM_ages 0) 8 x1 fun v1 =>
    some v1
  else if x2 = 7 then
    ldA s (aW_touches 0) 8 x1 fun v2 =>
    some v2
  else if x2 = 8 then
    some (gI s (iM_ribbon 0))
  else
    if 3 ≤ x2 then
      bO (fX9_hand 0 x1 (x2 - 4) s) fun r3 =>
      some r3
    else
      bO (fX6_pull 0 x1 x2 s) fun r4 =>
      some r4

set_option maxRecDepth 20000 in
theorem tX10_valueOf {ρ : mRo} {d : Nat} {P : mPo} {V : mS → List mE} (hV : mView LC V)  {x1 : Int32} {x2 : Int32} {s : mS} {res : Int32} (hf : fX10_valueOf x1 x2 s = some res) (hP : P (some (.int res)) (V s)) : mC ρ (d + 2) 117 [.ref qT, .int x1, .int x2] (V s) P := by
  refine ⟨_, rfl, Nat.le_of_ble_eq_true rfl, by decide, ?_⟩
  show mG ρ (mC ρ (d + 1)) 10 3 cX10_valueOf (some .int) P 0 [(0, .ref qT), (1, .int x1), (2, .int x2)] [] (V s)
  unfold fX10_valueOf at hf
  refine e_iload_n 2 dX10_valueOf_0 rfl rfl ?_
  by_cases hc3 : x2 = 3
  · rw [if_pos hc3] at hf
    refine e_look (tgt := 36) (w := 3) dX10_valueOf_1 hc3 (by decide) (by decide) ?_
    refine e_aload_n 0 dX10_valueOf_36 rfl rfl ?_
    refine e_getr hV dX10_valueOf_37 rfl lc_T rfl ?_
    refine e_getr hV dX10_valueOf_40 rfl (lc_M (by decide)) rfl ?_
    refine e_iload_n 1 dX10_valueOf_43 rfl rfl ?_
    refine e_iald hV dX10_valueOf_44 (lc_M_ages (by decide)) hf (fun v1 hf => ?_)
    cases hf
    exact e_iret dX10_valueOf_45 trivial hP
  rw [if_neg hc3] at hf
  by_cases hc7 : x2 = 7
  · rw [if_pos hc7] at hf
    refine e_look (tgt := 46) (w := 7) dX10_valueOf_1 hc7 (by decide) (by decide) ?_
    refine e_aload_n 0 dX10_valueOf_46 rfl rfl ?_
    refine e_getr hV dX10_valueOf_47 rfl lc_T rfl ?_
    refine e_getr hV dX10_valueOf_50 rfl (lc_W (by decide)) rfl ?_
    refine e_iload_n 1 dX10_valueOf_53 rfl rfl ?_
    refine e_iald hV dX10_valueOf_54 (lc_W_touches (by decide)) hf (fun v2 hf => ?_)
    cases hf
    exact e_iret dX10_valueOf_55 trivial hP
  rw [if_neg hc7] at hf
  by_cases hc8 : x2 = 8
  · rw [if_pos hc8] at hf
    refine e_look (tgt := 56) (w := 8) dX10_valueOf_1 hc8 (by decide) (by decide) ?_
    refine e_aload_n 0 dX10_valueOf_56 rfl rfl ?_
    refine e_getr hV dX10_valueOf_57 rfl lc_T rfl ?_
    refine e_geti hV dX10_valueOf_60 rfl (lc_M (by decide)) rfl ?_
    cases hf
    exact e_iret dX10_valueOf_63 trivial hP
  rw [if_neg hc8] at hf
  refine e_lookD (tgt := 64) (ks := [3, 7, 8]) dX10_valueOf_1 (by decide) (by decide) (fun z hz => ?_) ?_
  · simp only [List.mem_cons, List.not_mem_nil, or_false] at hz
    rcases hz with rfl | rfl | rfl
    · exact hc3
    · exact hc7
    · exact hc8
  refine e_iload_n 2 dX10_valueOf_64 rfl rfl ?_
  refine e_iconst (w := 3) dX10_valueOf_65 (by decide) ?_
  refine e_icmp_ge 81 dX10_valueOf_66 (by decide) hf (fun hf => ?_) (fun hf => ?_)
  · refine e_aload_n 0 dX10_valueOf_81 rfl rfl ?_
    refine e_getr hV dX10_valueOf_82 rfl lc_T rfl ?_
    refine e_iload_n 1 dX10_valueOf_85 rfl rfl ?_
    refine e_iload_n 2 dX10_valueOf_86 rfl rfl ?_
    refine e_iconst (w := 4) dX10_valueOf_87 (by decide) ?_
    refine e_isub dX10_valueOf_88 ?_
    obtain ⟨r3, hg, hf⟩ := bO_some hf
    refine e_callV (as := [.int x1, .int (x2 - 4)]) (v := (some (.int r3))) (s' := s) hV dX10_valueOf_89 (Or.inl rfl) rfl rfl rfl rfl (Nat.le_of_ble_eq_true rfl) (lc_W (by decide)) rfl rfl (fun Q hQ => tX9_hand (d := d) hV (by decide) hg hQ) ?_
    cases hf
    exact e_iret dX10_valueOf_92 trivial hP
  · refine e_aload_n 0 dX10_valueOf_69 rfl rfl ?_
    refine e_getr hV dX10_valueOf_70 rfl lc_T rfl ?_
    refine e_iload_n 1 dX10_valueOf_73 rfl rfl ?_
    refine e_iload_n 2 dX10_valueOf_74 rfl rfl ?_
    obtain ⟨r4, hg, hf⟩ := bO_some hf
    refine e_callV (as := [.int x1, .int x2]) (v := (some (.int r4))) (s' := s) hV dX10_valueOf_75 (Or.inl rfl) rfl rfl rfl rfl (Nat.le_of_ble_eq_true rfl) (lc_M (by decide)) rfl rfl (fun Q hQ => tX6_pull (d := d) hV (by decide) hg hQ) ?_
    refine e_goto 92 dX10_valueOf_78 (by decide) ?_
    cases hf
    exact e_iret dX10_valueOf_92 trivial hP

theorem dX10_setValue_0 : decode cX10_setValue 0 = .ok (.iload_n 2, 1) := by decide +kernel
theorem dX10_setValue_1 : decode cX10_setValue 1 = .ok (.iconst 3, 1) := by decide +kernel
theorem dX10_setValue_2 : decode cX10_setValue 2 = .ok (.if_icmp .ge 20, 3) := by decide +kernel
theorem dX10_setValue_5 : decode cX10_setValue 5 = .ok (.aload_n 0, 1) := by decide +kernel
theorem dX10_setValue_6 : decode cX10_setValue 6 = .ok (.getfield 10, 3) := by decide +kernel
theorem dX10_setValue_9 : decode cX10_setValue 9 = .ok (.getfield 404, 3) := by decide +kernel
theorem dX10_setValue_12 : decode cX10_setValue 12 = .ok (.iconst 3, 1) := by decide +kernel
theorem dX10_setValue_13 : decode cX10_setValue 13 = .ok (.iload_n 1, 1) := by decide +kernel
theorem dX10_setValue_14 : decode cX10_setValue 14 = .ok (.imul, 1) := by decide +kernel
theorem dX10_setValue_15 : decode cX10_setValue 15 = .ok (.iload_n 2, 1) := by decide +kernel
theorem dX10_setValue_16 : decode cX10_setValue 16 = .ok (.iadd, 1) := by decide +kernel
theorem dX10_setValue_17 : decode cX10_setValue 17 = .ok (.iload_n 3, 1) := by decide +kernel
theorem dX10_setValue_18 : decode cX10_setValue 18 = .ok (.iastore, 1) := by decide +kernel
theorem dX10_setValue_19 : decode cX10_setValue 19 = .ok (.goto 73, 3) := by decide +kernel
theorem dX10_setValue_22 : decode cX10_setValue 22 = .ok (.iload_n 2, 1) := by decide +kernel
theorem dX10_setValue_23 : decode cX10_setValue 23 = .ok (.iconst 3, 1) := by decide +kernel
theorem dX10_setValue_24 : decode cX10_setValue 24 = .ok (.if_icmp .ne 16, 3) := by decide +kernel
theorem dX10_setValue_27 : decode cX10_setValue 27 = .ok (.aload_n 0, 1) := by decide +kernel
theorem dX10_setValue_28 : decode cX10_setValue 28 = .ok (.getfield 10, 3) := by decide +kernel
theorem dX10_setValue_31 : decode cX10_setValue 31 = .ok (.getfield 184, 3) := by decide +kernel
theorem dX10_setValue_34 : decode cX10_setValue 34 = .ok (.iload_n 1, 1) := by decide +kernel
theorem dX10_setValue_35 : decode cX10_setValue 35 = .ok (.iload_n 3, 1) := by decide +kernel
theorem dX10_setValue_36 : decode cX10_setValue 36 = .ok (.iastore, 1) := by decide +kernel
theorem dX10_setValue_37 : decode cX10_setValue 37 = .ok (.goto 55, 3) := by decide +kernel
theorem dX10_setValue_40 : decode cX10_setValue 40 = .ok (.iload_n 2, 1) := by decide +kernel
theorem dX10_setValue_41 : decode cX10_setValue 41 = .ok (.bipush 7, 2) := by decide +kernel
theorem dX10_setValue_43 : decode cX10_setValue 43 = .ok (.if_icmp .ge 22, 3) := by decide +kernel
theorem dX10_setValue_46 : decode cX10_setValue 46 = .ok (.aload_n 0, 1) := by decide +kernel
theorem dX10_setValue_47 : decode cX10_setValue 47 = .ok (.getfield 22, 3) := by decide +kernel
theorem dX10_setValue_50 : decode cX10_setValue 50 = .ok (.getfield 300, 3) := by decide +kernel
theorem dX10_setValue_53 : decode cX10_setValue 53 = .ok (.iconst 3, 1) := by decide +kernel
theorem dX10_setValue_54 : decode cX10_setValue 54 = .ok (.iload_n 1, 1) := by decide +kernel
theorem dX10_setValue_55 : decode cX10_setValue 55 = .ok (.imul, 1) := by decide +kernel
theorem dX10_setValue_56 : decode cX10_setValue 56 = .ok (.iload_n 2, 1) := by decide +kernel
theorem dX10_setValue_57 : decode cX10_setValue 57 = .ok (.iadd, 1) := by decide +kernel
theorem dX10_setValue_58 : decode cX10_setValue 58 = .ok (.iconst 4, 1) := by decide +kernel
theorem dX10_setValue_59 : decode cX10_setValue 59 = .ok (.isub, 1) := by decide +kernel
theorem dX10_setValue_60 : decode cX10_setValue 60 = .ok (.iload_n 3, 1) := by decide +kernel
theorem dX10_setValue_61 : decode cX10_setValue 61 = .ok (.iastore, 1) := by decide +kernel
theorem dX10_setValue_62 : decode cX10_setValue 62 = .ok (.goto 30, 3) := by decide +kernel
theorem dX10_setValue_65 : decode cX10_setValue 65 = .ok (.iload_n 2, 1) := by decide +kernel
theorem dX10_setValue_66 : decode cX10_setValue 66 = .ok (.bipush 7, 2) := by decide +kernel
theorem dX10_setValue_68 : decode cX10_setValue 68 = .ok (.if_icmp .ne 16, 3) := by decide +kernel
theorem dX10_setValue_71 : decode cX10_setValue 71 = .ok (.aload_n 0, 1) := by decide +kernel
theorem dX10_setValue_72 : decode cX10_setValue 72 = .ok (.getfield 22, 3) := by decide +kernel
theorem dX10_setValue_75 : decode cX10_setValue 75 = .ok (.getfield 401, 3) := by decide +kernel
theorem dX10_setValue_78 : decode cX10_setValue 78 = .ok (.iload_n 1, 1) := by decide +kernel
theorem dX10_setValue_79 : decode cX10_setValue 79 = .ok (.iload_n 3, 1) := by decide +kernel
theorem dX10_setValue_80 : decode cX10_setValue 80 = .ok (.iastore, 1) := by decide +kernel
theorem dX10_setValue_81 : decode cX10_setValue 81 = .ok (.goto 11, 3) := by decide +kernel
theorem dX10_setValue_84 : decode cX10_setValue 84 = .ok (.aload_n 0, 1) := by decide +kernel
theorem dX10_setValue_85 : decode cX10_setValue 85 = .ok (.getfield 10, 3) := by decide +kernel
theorem dX10_setValue_88 : decode cX10_setValue 88 = .ok (.iload_n 3, 1) := by decide +kernel
theorem dX10_setValue_89 : decode cX10_setValue 89 = .ok (.putfield 258, 3) := by decide +kernel
theorem dX10_setValue_92 : decode cX10_setValue 92 = .ok (.return_, 1) := by decide +kernel
def fX10_setValue (x1 : Int32) (x2 : Int32) (x3 : Int32) (s : mS) : Option mS :=
  if 3 ≤ x2 then
    if x2 = 3 then
      stA s (aM_ages 0) 8 x1 x3 fun s4 =>
      some s4
    else
      if 7 ≤ x2 then
        if x2 = 7 then
          stA s (aW_touches 0) 8 x1 x3 fun s2 =>
          some s2
        else
          bnd (pI s (iM_ribbon 0) x3) fun s1 =>
          some s1
      else
        stA s (aW_hands 0) 24 (((3 * x1) + x2) - 4) x3 fun s3 =>
        some s3
  else
    stA s (aM_pulls 0) 24 ((3 * x1) + x2) x3 fun s5 =>
    some s5

set_option maxRecDepth 20000 in
theorem tX10_setValue {ρ : mRo} {d : Nat} {P : mPo} {V : mS → List mE} (hV : mView LC V)  {x1 : Int32} {x2 : Int32} {x3 : Int32} {s : mS} {res : mS} (hf : fX10_setValue x1 x2 x3 s = some res) (hP : P none (V res)) : mC ρ (d + 1) 118 [.ref qT, .int x1, .int x2, .int x3] (V s) P := by
  refine ⟨_, rfl, Nat.le_of_ble_eq_true rfl, by decide, ?_⟩
  show mG ρ (mC ρ d) 10 4 cX10_setValue none P 0 [(0, .ref qT), (1, .int x1), (2, .int x2), (3, .int x3)] [] (V s)
  unfold fX10_setValue at hf
  refine e_iload_n 2 dX10_setValue_0 rfl rfl ?_
  refine e_iconst (w := 3) dX10_setValue_1 (by decide) ?_
  refine e_icmp_ge 22 dX10_setValue_2 (by decide) hf (fun hf => ?_) (fun hf => ?_)
  · refine e_iload_n 2 dX10_setValue_22 rfl rfl ?_
    refine e_iconst (w := 3) dX10_setValue_23 (by decide) ?_
    refine e_icmp_ne 40 dX10_setValue_24 (by decide) hf (fun hf => ?_) (fun hf => ?_)
    · refine e_iload_n 2 dX10_setValue_40 rfl rfl ?_
      refine e_bipush (w := 7) dX10_setValue_41 (by decide) ?_
      refine e_icmp_ge 65 dX10_setValue_43 (by decide) hf (fun hf => ?_) (fun hf => ?_)
      · refine e_iload_n 2 dX10_setValue_65 rfl rfl ?_
        refine e_bipush (w := 7) dX10_setValue_66 (by decide) ?_
        refine e_icmp_ne 84 dX10_setValue_68 (by decide) hf (fun hf => ?_) (fun hf => ?_)
        · refine e_aload_n 0 dX10_setValue_84 rfl rfl ?_
          refine e_getr hV dX10_setValue_85 rfl lc_T rfl ?_
          refine e_iload_n 3 dX10_setValue_88 rfl rfl ?_
          refine e_puti hV dX10_setValue_89 rfl rfl rfl (Or.inl rfl) (lc_M (by decide)) rfl hf (fun s1 hf => ?_)
          cases hf
          exact e_ret dX10_setValue_92 rfl hP
        · refine e_aload_n 0 dX10_setValue_71 rfl rfl ?_
          refine e_getr hV dX10_setValue_72 rfl lc_T rfl ?_
          refine e_getr hV dX10_setValue_75 rfl (lc_W (by decide)) rfl ?_
          refine e_iload_n 1 dX10_setValue_78 rfl rfl ?_
          refine e_iload_n 3 dX10_setValue_79 rfl rfl ?_
          refine e_iast hV dX10_setValue_80 (lc_W_touches (by decide)) hf (fun s2 hf => ?_)
          refine e_goto 92 dX10_setValue_81 (by decide) ?_
          cases hf
          exact e_ret dX10_setValue_92 rfl hP
      · refine e_aload_n 0 dX10_setValue_46 rfl rfl ?_
        refine e_getr hV dX10_setValue_47 rfl lc_T rfl ?_
        refine e_getr hV dX10_setValue_50 rfl (lc_W (by decide)) rfl ?_
        refine e_iconst (w := 3) dX10_setValue_53 (by decide) ?_
        refine e_iload_n 1 dX10_setValue_54 rfl rfl ?_
        refine e_imul dX10_setValue_55 ?_
        refine e_iload_n 2 dX10_setValue_56 rfl rfl ?_
        refine e_iadd dX10_setValue_57 ?_
        refine e_iconst (w := 4) dX10_setValue_58 (by decide) ?_
        refine e_isub dX10_setValue_59 ?_
        refine e_iload_n 3 dX10_setValue_60 rfl rfl ?_
        refine e_iast hV dX10_setValue_61 (lc_W_hands (by decide)) hf (fun s3 hf => ?_)
        refine e_goto 92 dX10_setValue_62 (by decide) ?_
        cases hf
        exact e_ret dX10_setValue_92 rfl hP
    · refine e_aload_n 0 dX10_setValue_27 rfl rfl ?_
      refine e_getr hV dX10_setValue_28 rfl lc_T rfl ?_
      refine e_getr hV dX10_setValue_31 rfl (lc_M (by decide)) rfl ?_
      refine e_iload_n 1 dX10_setValue_34 rfl rfl ?_
      refine e_iload_n 3 dX10_setValue_35 rfl rfl ?_
      refine e_iast hV dX10_setValue_36 (lc_M_ages (by decide)) hf (fun s4 hf => ?_)
      refine e_goto 92 dX10_setValue_37 (by decide) ?_
      cases hf
      exact e_ret dX10_setValue_92 rfl hP
  · refine e_aload_n 0 dX10_setValue_5 rfl rfl ?_
    refine e_getr hV dX10_setValue_6 rfl lc_T rfl ?_
    refine e_getr hV dX10_setValue_9 rfl (lc_M (by decide)) rfl ?_
    refine e_iconst (w := 3) dX10_setValue_12 (by decide) ?_
    refine e_iload_n 1 dX10_setValue_13 rfl rfl ?_
    refine e_imul dX10_setValue_14 ?_
    refine e_iload_n 2 dX10_setValue_15 rfl rfl ?_
    refine e_iadd dX10_setValue_16 ?_
    refine e_iload_n 3 dX10_setValue_17 rfl rfl ?_
    refine e_iast hV dX10_setValue_18 (lc_M_pulls (by decide)) hf (fun s5 hf => ?_)
    refine e_goto 92 dX10_setValue_19 (by decide) ?_
    cases hf
    exact e_ret dX10_setValue_92 rfl hP

theorem dX10_mend_0 : decode cX10_mend 0 = .ok (.aload_n 0, 1) := by decide +kernel
theorem dX10_mend_1 : decode cX10_mend 1 = .ok (.iload_n 1, 1) := by decide +kernel
theorem dX10_mend_2 : decode cX10_mend 2 = .ok (.iload_n 2, 1) := by decide +kernel
theorem dX10_mend_3 : decode cX10_mend 3 = .ok (.invokevirtual 130, 3) := by decide +kernel
theorem dX10_mend_6 : decode cX10_mend 6 = .ok (.ifCond .eq 15, 3) := by decide +kernel
theorem dX10_mend_9 : decode cX10_mend 9 = .ok (.iload_n 3, 1) := by decide +kernel
theorem dX10_mend_10 : decode cX10_mend 10 = .ok (.ifCond .lt 11, 3) := by decide +kernel
theorem dX10_mend_13 : decode cX10_mend 13 = .ok (.iload_n 3, 1) := by decide +kernel
theorem dX10_mend_14 : decode cX10_mend 14 = .ok (.iload_n 2, 1) := by decide +kernel
theorem dX10_mend_15 : decode cX10_mend 15 = .ok (.invokestatic 134, 3) := by decide +kernel
theorem dX10_mend_18 : decode cX10_mend 18 = .ok (.if_icmp .le 5, 3) := by decide +kernel
theorem dX10_mend_21 : decode cX10_mend 21 = .ok (.iconst (-1), 1) := by decide +kernel
theorem dX10_mend_22 : decode cX10_mend 22 = .ok (.ireturn, 1) := by decide +kernel
theorem dX10_mend_23 : decode cX10_mend 23 = .ok (.aload_n 0, 1) := by decide +kernel
theorem dX10_mend_24 : decode cX10_mend 24 = .ok (.iload_n 1, 1) := by decide +kernel
theorem dX10_mend_25 : decode cX10_mend 25 = .ok (.iload_n 2, 1) := by decide +kernel
theorem dX10_mend_26 : decode cX10_mend 26 = .ok (.invokevirtual 137, 3) := by decide +kernel
theorem dX10_mend_29 : decode cX10_mend 29 = .ok (.istore 4, 2) := by decide +kernel
theorem dX10_mend_31 : decode cX10_mend 31 = .ok (.iload 4, 2) := by decide +kernel
theorem dX10_mend_33 : decode cX10_mend 33 = .ok (.iload_n 3, 1) := by decide +kernel
theorem dX10_mend_34 : decode cX10_mend 34 = .ok (.if_icmp .eq 22, 3) := by decide +kernel
theorem dX10_mend_37 : decode cX10_mend 37 = .ok (.aload_n 0, 1) := by decide +kernel
theorem dX10_mend_38 : decode cX10_mend 38 = .ok (.getfield 49, 3) := by decide +kernel
theorem dX10_mend_41 : decode cX10_mend 41 = .ok (.iload_n 1, 1) := by decide +kernel
theorem dX10_mend_42 : decode cX10_mend 42 = .ok (.iload_n 2, 1) := by decide +kernel
theorem dX10_mend_43 : decode cX10_mend 43 = .ok (.iload 4, 2) := by decide +kernel
theorem dX10_mend_45 : decode cX10_mend 45 = .ok (.iload_n 3, 1) := by decide +kernel
theorem dX10_mend_46 : decode cX10_mend 46 = .ok (.invokevirtual 141, 3) := by decide +kernel
theorem dX10_mend_49 : decode cX10_mend 49 = .ok (.aload_n 0, 1) := by decide +kernel
theorem dX10_mend_50 : decode cX10_mend 50 = .ok (.iload_n 1, 1) := by decide +kernel
theorem dX10_mend_51 : decode cX10_mend 51 = .ok (.iload_n 2, 1) := by decide +kernel
theorem dX10_mend_52 : decode cX10_mend 52 = .ok (.iload_n 3, 1) := by decide +kernel
theorem dX10_mend_53 : decode cX10_mend 53 = .ok (.invokevirtual 145, 3) := by decide +kernel
theorem dX10_mend_56 : decode cX10_mend 56 = .ok (.iload 4, 2) := by decide +kernel
theorem dX10_mend_58 : decode cX10_mend 58 = .ok (.ireturn, 1) := by decide +kernel
def fX10_mend (x1 : Int32) (x2 : Int32) (x3 : Int32) (s : mS) : Option (Int32 × mS) :=
  bO (fX10_isNumberOf x1 x2 s) fun r1 =>
  if r1 = 0 then
    some ((-1), s)
  else
    if x3 < 0 then
      some ((-1), s)
    else
      bO (fX10_topOf x2 s) fun r2 =>
      if x3 ≤ r2 then
        bO (fX10_valueOf x1 x2 s) fun r3 =>
        bnd r3 fun v4 =>
        if v4 = x3 then
          some (v4, s)
        else
          bO (fX1_add x1 x2 v4 x3 s) fun s5 =>
          bO (fX10_setValue x1 x2 x3 s5) fun s6 =>
          some (v4, s6)
      else
        some ((-1), s)

set_option maxRecDepth 20000 in
theorem tX10_mend {ρ : mRo} {d : Nat} {P : mPo} {V : mS → List mE} (hV : mView LC V)  {x1 : Int32} {x2 : Int32} {x3 : Int32} {s : mS} {res : (Int32 × mS)} (hf : fX10_mend x1 x2 x3 s = some res) (hP : P (some (.int res.1)) (V res.2)) : mC ρ (d + 3) 67 [.ref qT, .int x1, .int x2, .int x3] (V s) P := by
  refine ⟨_, rfl, Nat.le_of_ble_eq_true rfl, by decide, ?_⟩
  show mG ρ (mC ρ (d + 2)) 10 5 cX10_mend (some .int) P 0 [(0, .ref qT), (1, .int x1), (2, .int x2), (3, .int x3)] [] (V s)
  unfold fX10_mend at hf
  refine e_aload_n 0 dX10_mend_0 rfl rfl ?_
  refine e_iload_n 1 dX10_mend_1 rfl rfl ?_
  refine e_iload_n 2 dX10_mend_2 rfl rfl ?_
  obtain ⟨r1, hg, hf⟩ := bO_some hf
  refine e_callV (as := [.int x1, .int x2]) (v := (some (.int r1))) (s' := s) hV dX10_mend_3 (Or.inl rfl) rfl rfl rfl rfl (Nat.le_of_ble_eq_true rfl) lc_T rfl rfl (fun Q hQ => tX10_isNumberOf (d := d) hV  hg hQ) ?_
  refine e_if_eq 21 dX10_mend_6 (by decide) hf (fun hf => ?_) (fun hf => ?_)
  · refine e_iconst (w := (-1)) dX10_mend_21 (by decide) ?_
    cases hf
    exact e_iret dX10_mend_22 trivial hP
  · refine e_iload_n 3 dX10_mend_9 rfl rfl ?_
    refine e_if_lt 21 dX10_mend_10 (by decide) hf (fun hf => ?_) (fun hf => ?_)
    · refine e_iconst (w := (-1)) dX10_mend_21 (by decide) ?_
      cases hf
      exact e_iret dX10_mend_22 trivial hP
    · refine e_iload_n 3 dX10_mend_13 rfl rfl ?_
      refine e_iload_n 2 dX10_mend_14 rfl rfl ?_
      obtain ⟨r2, hg, hf⟩ := bO_some hf
      refine e_callS (as := [.int x2]) (v := (some (.int r2))) (s' := s) dX10_mend_15 rfl rfl rfl rfl rfl (Nat.le_of_ble_eq_true rfl) (fun Q hQ => tX10_topOf (d := (d + 1)) hV  hg hQ) ?_
      refine e_icmp_le 23 dX10_mend_18 (by decide) hf (fun hf => ?_) (fun hf => ?_)
      · refine e_aload_n 0 dX10_mend_23 rfl rfl ?_
        refine e_iload_n 1 dX10_mend_24 rfl rfl ?_
        refine e_iload_n 2 dX10_mend_25 rfl rfl ?_
        obtain ⟨r3, hg, hf⟩ := bO_some hf
        refine e_callV (as := [.int x1, .int x2]) (v := (some (.int r3))) (s' := s) hV dX10_mend_26 (Or.inl rfl) rfl rfl rfl rfl (Nat.le_of_ble_eq_true rfl) lc_T rfl rfl (fun Q hQ => tX10_valueOf (d := d) hV  hg hQ) ?_
        refine e_istore dX10_mend_29 (by decide) hf (fun v4 hf => ?_)
        refine e_iload 0 dX10_mend_31 rfl ?_
        refine e_iload_n 4 dX10_mend_33 rfl rfl ?_
        refine e_icmp_eq 56 dX10_mend_34 (by decide) hf (fun hf => ?_) (fun hf => ?_)
        · refine e_iload 0 dX10_mend_56 rfl ?_
          cases hf
          exact e_iret dX10_mend_58 trivial hP
        · refine e_aload_n 1 dX10_mend_37 rfl rfl ?_
          refine e_getr hV dX10_mend_38 rfl lc_T rfl ?_
          refine e_iload_n 2 dX10_mend_41 rfl rfl ?_
          refine e_iload_n 3 dX10_mend_42 rfl rfl ?_
          refine e_iload 0 dX10_mend_43 rfl ?_
          refine e_iload_n 4 dX10_mend_45 rfl rfl ?_
          obtain ⟨s5, hg, hf⟩ := bO_some hf
          refine e_callV (as := [.int x1, .int x2, .int v4, .int x3]) (v := none) (s' := s5) hV dX10_mend_46 (Or.inl rfl) rfl rfl rfl rfl (Nat.le_of_ble_eq_true rfl) lc_H rfl rfl (fun Q hQ => tX1_add (d := d) hV  hg hQ) ?_
          refine e_aload_n 1 dX10_mend_49 rfl rfl ?_
          refine e_iload_n 2 dX10_mend_50 rfl rfl ?_
          refine e_iload_n 3 dX10_mend_51 rfl rfl ?_
          refine e_iload_n 4 dX10_mend_52 rfl rfl ?_
          obtain ⟨s6, hg, hf⟩ := bO_some hf
          refine e_callV (as := [.int x1, .int x2, .int x3]) (v := none) (s' := s6) hV dX10_mend_53 (Or.inl rfl) rfl rfl rfl rfl (Nat.le_of_ble_eq_true rfl) lc_T rfl rfl (fun Q hQ => tX10_setValue (d := (d + 1)) hV  hg hQ) ?_
          refine e_iload 0 dX10_mend_56 rfl ?_
          cases hf
          exact e_iret dX10_mend_58 trivial hP
      · refine e_iconst (w := (-1)) dX10_mend_21 (by decide) ?_
        cases hf
        exact e_iret dX10_mend_22 trivial hP

theorem dX10_of_0 : decode cX10_of 0 = .ok (.aload_n 0, 1) := by decide +kernel
theorem dX10_of_1 : decode cX10_of 1 = .ok (.iload_n 1, 1) := by decide +kernel
theorem dX10_of_2 : decode cX10_of 2 = .ok (.iload_n 2, 1) := by decide +kernel
theorem dX10_of_3 : decode cX10_of 3 = .ok (.invokevirtual 130, 3) := by decide +kernel
theorem dX10_of_6 : decode cX10_of 6 = .ok (.ifCond .eq 12, 3) := by decide +kernel
theorem dX10_of_9 : decode cX10_of 9 = .ok (.aload_n 0, 1) := by decide +kernel
theorem dX10_of_10 : decode cX10_of 10 = .ok (.iload_n 1, 1) := by decide +kernel
theorem dX10_of_11 : decode cX10_of 11 = .ok (.iload_n 2, 1) := by decide +kernel
theorem dX10_of_12 : decode cX10_of 12 = .ok (.invokevirtual 137, 3) := by decide +kernel
theorem dX10_of_15 : decode cX10_of 15 = .ok (.goto 4, 3) := by decide +kernel
theorem dX10_of_18 : decode cX10_of 18 = .ok (.iconst (-1), 1) := by decide +kernel
theorem dX10_of_19 : decode cX10_of 19 = .ok (.ireturn, 1) := by decide +kernel
def fX10_of (x1 : Int32) (x2 : Int32) (s : mS) : Option Int32 :=
  bO (fX10_isNumberOf x1 x2 s) fun r1 =>
  if r1 = 0 then
    some (-1)
  else
    bO (fX10_valueOf x1 x2 s) fun r2 =>
    some r2

set_option maxRecDepth 20000 in
theorem tX10_of {ρ : mRo} {d : Nat} {P : mPo} {V : mS → List mE} (hV : mView LC V)  {x1 : Int32} {x2 : Int32} {s : mS} {res : Int32} (hf : fX10_of x1 x2 s = some res) (hP : P (some (.int res)) (V s)) : mC ρ (d + 3) 68 [.ref qT, .int x1, .int x2] (V s) P := by
  refine ⟨_, rfl, Nat.le_of_ble_eq_true rfl, by decide, ?_⟩
  show mG ρ (mC ρ (d + 2)) 10 3 cX10_of (some .int) P 0 [(0, .ref qT), (1, .int x1), (2, .int x2)] [] (V s)
  unfold fX10_of at hf
  refine e_aload_n 0 dX10_of_0 rfl rfl ?_
  refine e_iload_n 1 dX10_of_1 rfl rfl ?_
  refine e_iload_n 2 dX10_of_2 rfl rfl ?_
  obtain ⟨r1, hg, hf⟩ := bO_some hf
  refine e_callV (as := [.int x1, .int x2]) (v := (some (.int r1))) (s' := s) hV dX10_of_3 (Or.inl rfl) rfl rfl rfl rfl (Nat.le_of_ble_eq_true rfl) lc_T rfl rfl (fun Q hQ => tX10_isNumberOf (d := d) hV  hg hQ) ?_
  refine e_if_eq 18 dX10_of_6 (by decide) hf (fun hf => ?_) (fun hf => ?_)
  · refine e_iconst (w := (-1)) dX10_of_18 (by decide) ?_
    cases hf
    exact e_iret dX10_of_19 trivial hP
  · refine e_aload_n 0 dX10_of_9 rfl rfl ?_
    refine e_iload_n 1 dX10_of_10 rfl rfl ?_
    refine e_iload_n 2 dX10_of_11 rfl rfl ?_
    obtain ⟨r2, hg, hf⟩ := bO_some hf
    refine e_callV (as := [.int x1, .int x2]) (v := (some (.int r2))) (s' := s) hV dX10_of_12 (Or.inl rfl) rfl rfl rfl rfl (Nat.le_of_ble_eq_true rfl) lc_T rfl rfl (fun Q hQ => tX10_valueOf (d := d) hV  hg hQ) ?_
    refine e_goto 19 dX10_of_15 (by decide) ?_
    cases hf
    exact e_iret dX10_of_19 trivial hP

theorem dX10_feed_0 : decode cX10_feed 0 = .ok (.iload_n 1, 1) := by decide +kernel
theorem dX10_feed_1 : decode cX10_feed 1 = .ok (.ifCond .lt 10, 3) := by decide +kernel
theorem dX10_feed_4 : decode cX10_feed 4 = .ok (.iload_n 1, 1) := by decide +kernel
theorem dX10_feed_5 : decode cX10_feed 5 = .ok (.sipush 255, 3) := by decide +kernel
theorem dX10_feed_8 : decode cX10_feed 8 = .ok (.if_icmp .le 5, 3) := by decide +kernel
theorem dX10_feed_11 : decode cX10_feed 11 = .ok (.iconst (-1), 1) := by decide +kernel
theorem dX10_feed_12 : decode cX10_feed 12 = .ok (.ireturn, 1) := by decide +kernel
theorem dX10_feed_13 : decode cX10_feed 13 = .ok (.aload_n 0, 1) := by decide +kernel
theorem dX10_feed_14 : decode cX10_feed 14 = .ok (.getfield 29, 3) := by decide +kernel
theorem dX10_feed_17 : decode cX10_feed 17 = .ok (.invokevirtual 149, 3) := by decide +kernel
theorem dX10_feed_20 : decode cX10_feed 20 = .ok (.ifCond .eq 8, 3) := by decide +kernel
theorem dX10_feed_23 : decode cX10_feed 23 = .ok (.bipush (-3), 2) := by decide +kernel
theorem dX10_feed_25 : decode cX10_feed 25 = .ok (.goto 11, 3) := by decide +kernel
theorem dX10_feed_28 : decode cX10_feed 28 = .ok (.aload_n 0, 1) := by decide +kernel
theorem dX10_feed_29 : decode cX10_feed 29 = .ok (.getfield 29, 3) := by decide +kernel
theorem dX10_feed_32 : decode cX10_feed 32 = .ok (.iload_n 1, 1) := by decide +kernel
theorem dX10_feed_33 : decode cX10_feed 33 = .ok (.invokevirtual 150, 3) := by decide +kernel
theorem dX10_feed_36 : decode cX10_feed 36 = .ok (.ireturn, 1) := by decide +kernel
def fX10_feed (x1 : Int32) (s : mS) : Option (Int32 × mS) :=
  if x1 < 0 then
    some ((-1), s)
  else
    if x1 ≤ 255 then
      bO (fX8_isFull s) fun r1 =>
      if r1 = 0 then
        bP (fX8_addByte x1 s) fun r2 s3 =>
        some (r2, s3)
      else
        some ((-3), s)
    else
      some ((-1), s)

set_option maxRecDepth 20000 in
theorem tX10_feed {ρ : mRo} {d : Nat} {P : mPo} {V : mS → List mE} (hV : mView LC V)  {x1 : Int32} {s : mS} {res : (Int32 × mS)} (hf : fX10_feed x1 s = some res) (hP : P (some (.int res.1)) (V res.2)) : mC ρ (d + 2) 69 [.ref qT, .int x1] (V s) P := by
  refine ⟨_, rfl, Nat.le_of_ble_eq_true rfl, by decide, ?_⟩
  show mG ρ (mC ρ (d + 1)) 10 2 cX10_feed (some .int) P 0 [(0, .ref qT), (1, .int x1)] [] (V s)
  unfold fX10_feed at hf
  refine e_iload_n 1 dX10_feed_0 rfl rfl ?_
  refine e_if_lt 11 dX10_feed_1 (by decide) hf (fun hf => ?_) (fun hf => ?_)
  · refine e_iconst (w := (-1)) dX10_feed_11 (by decide) ?_
    cases hf
    exact e_iret dX10_feed_12 trivial hP
  · refine e_iload_n 1 dX10_feed_4 rfl rfl ?_
    refine e_sipush (w := 255) dX10_feed_5 (by decide) ?_
    refine e_icmp_le 13 dX10_feed_8 (by decide) hf (fun hf => ?_) (fun hf => ?_)
    · refine e_aload_n 0 dX10_feed_13 rfl rfl ?_
      refine e_getr hV dX10_feed_14 rfl lc_T rfl ?_
      obtain ⟨r1, hg, hf⟩ := bO_some hf
      refine e_callV (as := []) (v := (some (.int r1))) (s' := s) hV dX10_feed_17 (Or.inl rfl) rfl rfl rfl rfl (Nat.le_of_ble_eq_true rfl) lc_P rfl rfl (fun Q hQ => tX8_isFull (d := d) hV  hg hQ) ?_
      refine e_if_eq 28 dX10_feed_20 (by decide) hf (fun hf => ?_) (fun hf => ?_)
      · refine e_aload_n 0 dX10_feed_28 rfl rfl ?_
        refine e_getr hV dX10_feed_29 rfl lc_T rfl ?_
        refine e_iload_n 1 dX10_feed_32 rfl rfl ?_
        obtain ⟨r2, s3, hg, hf⟩ := bP_some hf
        refine e_callV (as := [.int x1]) (v := (some (.int r2))) (s' := s3) hV dX10_feed_33 (Or.inl rfl) rfl rfl rfl rfl (Nat.le_of_ble_eq_true rfl) lc_P rfl rfl (fun Q hQ => tX8_addByte (d := d) hV  hg hQ) ?_
        cases hf
        exact e_iret dX10_feed_36 trivial hP
      · refine e_bipush (w := (-3)) dX10_feed_23 (by decide) ?_
        refine e_goto 36 dX10_feed_25 (by decide) ?_
        cases hf
        exact e_iret dX10_feed_36 trivial hP
    · refine e_iconst (w := (-1)) dX10_feed_11 (by decide) ?_
      cases hf
      exact e_iret dX10_feed_12 trivial hP

theorem dX10_isPair_0 : decode cX10_isPair 0 = .ok (.iload_n 1, 1) := by decide +kernel
theorem dX10_isPair_1 : decode cX10_isPair 1 = .ok (.ifCond .lt 35, 3) := by decide +kernel
theorem dX10_isPair_4 : decode cX10_isPair 4 = .ok (.aload_n 0, 1) := by decide +kernel
theorem dX10_isPair_5 : decode cX10_isPair 5 = .ok (.getfield 22, 3) := by decide +kernel
theorem dX10_isPair_8 : decode cX10_isPair 8 = .ok (.iload_n 1, 1) := by decide +kernel
theorem dX10_isPair_9 : decode cX10_isPair 9 = .ok (.bipush 10, 2) := by decide +kernel
theorem dX10_isPair_11 : decode cX10_isPair 11 = .ok (.idiv, 1) := by decide +kernel
theorem dX10_isPair_12 : decode cX10_isPair 12 = .ok (.invokevirtual 208, 3) := by decide +kernel
theorem dX10_isPair_15 : decode cX10_isPair 15 = .ok (.ifCond .eq 21, 3) := by decide +kernel
theorem dX10_isPair_18 : decode cX10_isPair 18 = .ok (.aload_n 0, 1) := by decide +kernel
theorem dX10_isPair_19 : decode cX10_isPair 19 = .ok (.getfield 10, 3) := by decide +kernel
theorem dX10_isPair_22 : decode cX10_isPair 22 = .ok (.iload_n 1, 1) := by decide +kernel
theorem dX10_isPair_23 : decode cX10_isPair 23 = .ok (.bipush 10, 2) := by decide +kernel
theorem dX10_isPair_25 : decode cX10_isPair 25 = .ok (.irem, 1) := by decide +kernel
theorem dX10_isPair_26 : decode cX10_isPair 26 = .ok (.invokevirtual 174, 3) := by decide +kernel
theorem dX10_isPair_29 : decode cX10_isPair 29 = .ok (.ifCond .eq 7, 3) := by decide +kernel
theorem dX10_isPair_32 : decode cX10_isPair 32 = .ok (.iconst 1, 1) := by decide +kernel
theorem dX10_isPair_33 : decode cX10_isPair 33 = .ok (.goto 4, 3) := by decide +kernel
theorem dX10_isPair_36 : decode cX10_isPair 36 = .ok (.iconst 0, 1) := by decide +kernel
theorem dX10_isPair_37 : decode cX10_isPair 37 = .ok (.ireturn, 1) := by decide +kernel
def fX10_isPair (x1 : Int32) (s : mS) : Option Int32 :=
  if x1 < 0 then
    some 0
  else
    bO (fX9_has 0 (x1 / 10) s) fun r1 =>
    if r1 = 0 then
      some 0
    else
      bO (fX6_has 0 (x1 - x1 / 10 * 10) s) fun r2 =>
      if r2 = 0 then
        some 0
      else
        some 1

set_option maxRecDepth 20000 in
theorem tX10_isPair {ρ : mRo} {d : Nat} {P : mPo} {V : mS → List mE} (hV : mView LC V)  {x1 : Int32} {s : mS} {res : Int32} (hf : fX10_isPair x1 s = some res) (hP : P (some (.int res)) (V s)) : mC ρ (d + 2) 111 [.ref qT, .int x1] (V s) P := by
  refine ⟨_, rfl, Nat.le_of_ble_eq_true rfl, by decide, ?_⟩
  show mG ρ (mC ρ (d + 1)) 10 2 cX10_isPair (some .boolean) P 0 [(0, .ref qT), (1, .int x1)] [] (V s)
  unfold fX10_isPair at hf
  refine e_iload_n 1 dX10_isPair_0 rfl rfl ?_
  refine e_if_lt 36 dX10_isPair_1 (by decide) hf (fun hf => ?_) (fun hf => ?_)
  · refine e_iconst (w := 0) dX10_isPair_36 (by decide) ?_
    cases hf
    exact e_iret dX10_isPair_37 (Or.inl rfl) hP
  · refine e_aload_n 0 dX10_isPair_4 rfl rfl ?_
    refine e_getr hV dX10_isPair_5 rfl lc_T rfl ?_
    refine e_iload_n 1 dX10_isPair_8 rfl rfl ?_
    refine e_bipush (w := 10) dX10_isPair_9 (by decide) ?_
    refine e_idiv dX10_isPair_11 (by decide) ?_
    obtain ⟨r1, hg, hf⟩ := bO_some hf
    refine e_callV (as := [.int (x1 / 10)]) (v := (some (.int r1))) (s' := s) hV dX10_isPair_12 (Or.inl rfl) rfl rfl rfl rfl (Nat.le_of_ble_eq_true rfl) (lc_W (by decide)) rfl rfl (fun Q hQ => tX9_has (d := d) hV (by decide) hg hQ) ?_
    refine e_if_eq 36 dX10_isPair_15 (by decide) hf (fun hf => ?_) (fun hf => ?_)
    · refine e_iconst (w := 0) dX10_isPair_36 (by decide) ?_
      cases hf
      exact e_iret dX10_isPair_37 (Or.inl rfl) hP
    · refine e_aload_n 0 dX10_isPair_18 rfl rfl ?_
      refine e_getr hV dX10_isPair_19 rfl lc_T rfl ?_
      refine e_iload_n 1 dX10_isPair_22 rfl rfl ?_
      refine e_bipush (w := 10) dX10_isPair_23 (by decide) ?_
      refine e_irem dX10_isPair_25 (by decide) ?_
      obtain ⟨r2, hg, hf⟩ := bO_some hf
      refine e_callV (as := [.int (x1 - x1 / 10 * 10)]) (v := (some (.int r2))) (s' := s) hV dX10_isPair_26 (Or.inl rfl) rfl rfl rfl rfl (Nat.le_of_ble_eq_true rfl) (lc_M (by decide)) rfl rfl (fun Q hQ => tX6_has (d := d) hV (by decide) hg hQ) ?_
      refine e_if_eq 36 dX10_isPair_29 (by decide) hf (fun hf => ?_) (fun hf => ?_)
      · refine e_iconst (w := 0) dX10_isPair_36 (by decide) ?_
        cases hf
        exact e_iret dX10_isPair_37 (Or.inl rfl) hP
      · refine e_iconst (w := 1) dX10_isPair_32 (by decide) ?_
        refine e_goto 37 dX10_isPair_33 (by decide) ?_
        cases hf
        exact e_iret dX10_isPair_37 (Or.inr rfl) hP

theorem dX10_gripOf_0 : decode cX10_gripOf 0 = .ok (.aload_n 0, 1) := by decide +kernel
theorem dX10_gripOf_1 : decode cX10_gripOf 1 = .ok (.getfield 36, 3) := by decide +kernel
theorem dX10_gripOf_4 : decode cX10_gripOf 4 = .ok (.aload_n 1, 1) := by decide +kernel
theorem dX10_gripOf_5 : decode cX10_gripOf 5 = .ok (.getfield 184, 3) := by decide +kernel
theorem dX10_gripOf_8 : decode cX10_gripOf 8 = .ok (.iload_n 3, 1) := by decide +kernel
theorem dX10_gripOf_9 : decode cX10_gripOf 9 = .ok (.iaload, 1) := by decide +kernel
theorem dX10_gripOf_10 : decode cX10_gripOf 10 = .ok (.putfield 407, 3) := by decide +kernel
theorem dX10_gripOf_13 : decode cX10_gripOf 13 = .ok (.aload_n 0, 1) := by decide +kernel
theorem dX10_gripOf_14 : decode cX10_gripOf 14 = .ok (.getfield 36, 3) := by decide +kernel
theorem dX10_gripOf_17 : decode cX10_gripOf 17 = .ok (.aload_n 0, 1) := by decide +kernel
theorem dX10_gripOf_18 : decode cX10_gripOf 18 = .ok (.getfield 22, 3) := by decide +kernel
theorem dX10_gripOf_21 : decode cX10_gripOf 21 = .ok (.getfield 401, 3) := by decide +kernel
theorem dX10_gripOf_24 : decode cX10_gripOf 24 = .ok (.iload_n 2, 1) := by decide +kernel
theorem dX10_gripOf_25 : decode cX10_gripOf 25 = .ok (.iaload, 1) := by decide +kernel
theorem dX10_gripOf_26 : decode cX10_gripOf 26 = .ok (.putfield 410, 3) := by decide +kernel
theorem dX10_gripOf_29 : decode cX10_gripOf 29 = .ok (.aload_n 0, 1) := by decide +kernel
theorem dX10_gripOf_30 : decode cX10_gripOf 30 = .ok (.getfield 36, 3) := by decide +kernel
theorem dX10_gripOf_33 : decode cX10_gripOf 33 = .ok (.iload 4, 2) := by decide +kernel
theorem dX10_gripOf_35 : decode cX10_gripOf 35 = .ok (.putfield 413, 3) := by decide +kernel
theorem dX10_gripOf_38 : decode cX10_gripOf 38 = .ok (.aload_n 0, 1) := by decide +kernel
theorem dX10_gripOf_39 : decode cX10_gripOf 39 = .ok (.getfield 36, 3) := by decide +kernel
theorem dX10_gripOf_42 : decode cX10_gripOf 42 = .ok (.aload_n 0, 1) := by decide +kernel
theorem dX10_gripOf_43 : decode cX10_gripOf 43 = .ok (.getfield 22, 3) := by decide +kernel
theorem dX10_gripOf_46 : decode cX10_gripOf 46 = .ok (.iload_n 2, 1) := by decide +kernel
theorem dX10_gripOf_47 : decode cX10_gripOf 47 = .ok (.iload 4, 2) := by decide +kernel
theorem dX10_gripOf_49 : decode cX10_gripOf 49 = .ok (.invokevirtual 223, 3) := by decide +kernel
theorem dX10_gripOf_52 : decode cX10_gripOf 52 = .ok (.aload_n 1, 1) := by decide +kernel
theorem dX10_gripOf_53 : decode cX10_gripOf 53 = .ok (.iload_n 3, 1) := by decide +kernel
theorem dX10_gripOf_54 : decode cX10_gripOf 54 = .ok (.iload 4, 2) := by decide +kernel
theorem dX10_gripOf_56 : decode cX10_gripOf 56 = .ok (.invokevirtual 187, 3) := by decide +kernel
theorem dX10_gripOf_59 : decode cX10_gripOf 59 = .ok (.isub, 1) := by decide +kernel
theorem dX10_gripOf_60 : decode cX10_gripOf 60 = .ok (.invokestatic 416, 3) := by decide +kernel
theorem dX10_gripOf_63 : decode cX10_gripOf 63 = .ok (.putfield 421, 3) := by decide +kernel
theorem dX10_gripOf_66 : decode cX10_gripOf 66 = .ok (.aload_n 0, 1) := by decide +kernel
theorem dX10_gripOf_67 : decode cX10_gripOf 67 = .ok (.getfield 36, 3) := by decide +kernel
theorem dX10_gripOf_70 : decode cX10_gripOf 70 = .ok (.aload_n 1, 1) := by decide +kernel
theorem dX10_gripOf_71 : decode cX10_gripOf 71 = .ok (.getfield 258, 3) := by decide +kernel
theorem dX10_gripOf_74 : decode cX10_gripOf 74 = .ok (.putfield 424, 3) := by decide +kernel
theorem dX10_gripOf_77 : decode cX10_gripOf 77 = .ok (.aload_n 0, 1) := by decide +kernel
theorem dX10_gripOf_78 : decode cX10_gripOf 78 = .ok (.getfield 36, 3) := by decide +kernel
theorem dX10_gripOf_81 : decode cX10_gripOf 81 = .ok (.iload_n 3, 1) := by decide +kernel
theorem dX10_gripOf_82 : decode cX10_gripOf 82 = .ok (.putfield 425, 3) := by decide +kernel
theorem dX10_gripOf_85 : decode cX10_gripOf 85 = .ok (.aload_n 0, 1) := by decide +kernel
theorem dX10_gripOf_86 : decode cX10_gripOf 86 = .ok (.getfield 36, 3) := by decide +kernel
theorem dX10_gripOf_89 : decode cX10_gripOf 89 = .ok (.getfield 428, 3) := by decide +kernel
theorem dX10_gripOf_92 : decode cX10_gripOf 92 = .ok (.ifCond .eq 13, 3) := by decide +kernel
theorem dX10_gripOf_95 : decode cX10_gripOf 95 = .ok (.aload_n 0, 1) := by decide +kernel
theorem dX10_gripOf_96 : decode cX10_gripOf 96 = .ok (.getfield 36, 3) := by decide +kernel
theorem dX10_gripOf_99 : decode cX10_gripOf 99 = .ok (.invokevirtual 431, 3) := by decide +kernel
theorem dX10_gripOf_102 : decode cX10_gripOf 102 = .ok (.goto 26, 3) := by decide +kernel
theorem dX10_gripOf_105 : decode cX10_gripOf 105 = .ok (.bipush 6, 2) := by decide +kernel
theorem dX10_gripOf_107 : decode cX10_gripOf 107 = .ok (.aload_n 0, 1) := by decide +kernel
theorem dX10_gripOf_108 : decode cX10_gripOf 108 = .ok (.getfield 36, 3) := by decide +kernel
theorem dX10_gripOf_111 : decode cX10_gripOf 111 = .ok (.getfield 407, 3) := by decide +kernel
theorem dX10_gripOf_114 : decode cX10_gripOf 114 = .ok (.bipush 10, 2) := by decide +kernel
theorem dX10_gripOf_116 : decode cX10_gripOf 116 = .ok (.idiv, 1) := by decide +kernel
theorem dX10_gripOf_117 : decode cX10_gripOf 117 = .ok (.iadd, 1) := by decide +kernel
theorem dX10_gripOf_118 : decode cX10_gripOf 118 = .ok (.aload_n 0, 1) := by decide +kernel
theorem dX10_gripOf_119 : decode cX10_gripOf 119 = .ok (.getfield 36, 3) := by decide +kernel
theorem dX10_gripOf_122 : decode cX10_gripOf 122 = .ok (.getfield 410, 3) := by decide +kernel
theorem dX10_gripOf_125 : decode cX10_gripOf 125 = .ok (.iconst 3, 1) := by decide +kernel
theorem dX10_gripOf_126 : decode cX10_gripOf 126 = .ok (.idiv, 1) := by decide +kernel
theorem dX10_gripOf_127 : decode cX10_gripOf 127 = .ok (.isub, 1) := by decide +kernel
theorem dX10_gripOf_128 : decode cX10_gripOf 128 = .ok (.istore 5, 2) := by decide +kernel
theorem dX10_gripOf_130 : decode cX10_gripOf 130 = .ok (.iconst 0, 1) := by decide +kernel
theorem dX10_gripOf_131 : decode cX10_gripOf 131 = .ok (.bipush 12, 2) := by decide +kernel
theorem dX10_gripOf_133 : decode cX10_gripOf 133 = .ok (.iload 5, 2) := by decide +kernel
theorem dX10_gripOf_135 : decode cX10_gripOf 135 = .ok (.invokestatic 435, 3) := by decide +kernel
theorem dX10_gripOf_138 : decode cX10_gripOf 138 = .ok (.invokestatic 438, 3) := by decide +kernel
theorem dX10_gripOf_141 : decode cX10_gripOf 141 = .ok (.ireturn, 1) := by decide +kernel
def fX10_gripOf_b128 (z0 : Int32) (s : mS) : Option (Int32 × mS) :=
  bnd z0 fun v11 =>
  some (if (0 : Int32) < (if v11 < (12 : Int32) then v11 else (12 : Int32)) then (if v11 < (12 : Int32) then v11 else (12 : Int32)) else (0 : Int32), s)

def fX10_gripOf (k1 : Nat) (x2 : Int32) (x3 : Int32) (x4 : Int32) (s : mS) : Option (Int32 × mS) :=
  ldA s (aM_ages k1) 8 x3 fun v1 =>
  bnd (pI s iL_age v1) fun s2 =>
  ldA s2 (aW_touches 0) 8 x2 fun v3 =>
  bnd (pI s2 iL_touch v3) fun s4 =>
  bnd (pI s4 iL_habit x4) fun s5 =>
  bO (fX9_hand 0 x2 x4 s5) fun r6 =>
  bO (fX6_pull k1 x3 x4 s5) fun r7 =>
  bnd (pI s5 iL_unlike (if 0 ≤ (r6 - r7) then (r6 - r7) else 0 - (r6 - r7))) fun s8 =>
  bnd (pI s8 iL_ribbon (gI s8 (iM_ribbon k1))) fun s9 =>
  bnd (pI s9 iL_machine x3) fun s10 =>
  if (gI s10 iL_told) = 0 then
    fX10_gripOf_b128 ((6 + ((gI s10 iL_age) / 10)) - ((gI s10 iL_touch) / 3)) s10
  else
    bP (fX4_value s10) fun r12 s13 =>
    fX10_gripOf_b128 r12 s13

set_option maxRecDepth 20000 in
theorem wX10_gripOf_b128 {ρ : mRo} {d : Nat} {P : mPo} {V : mS → List mE} (hV : mView LC V)  {res : (Int32 × mS)} (hP : P (some (.int res.1)) (V res.2)) (z0 : Int32) (s : mS) (hf : fX10_gripOf_b128 z0 s = some res) : mG ρ (mC ρ (d + 3)) 10 6 cX10_gripOf (some .int) P 128 [] [.int z0] (V s) := by
  unfold fX10_gripOf_b128 at hf
  refine e_istore dX10_gripOf_128 (by decide) hf (fun v11 hf => ?_)
  refine e_iconst (w := 0) dX10_gripOf_130 (by decide) ?_
  refine e_bipush (w := 12) dX10_gripOf_131 (by decide) ?_
  refine e_iload 0 dX10_gripOf_133 rfl ?_
  refine e_min dX10_gripOf_135 rfl (Nat.le_of_ble_eq_true rfl) ?_
  refine e_max dX10_gripOf_138 rfl (Nat.le_of_ble_eq_true rfl) ?_
  cases hf
  exact e_iret dX10_gripOf_141 trivial hP
set_option maxRecDepth 20000 in
theorem tX10_gripOf {ρ : mRo} {d : Nat} {P : mPo} {V : mS → List mE} (hV : mView LC V)  {k1 : Nat} (hk1 : k1 < 3) {x2 : Int32} {x3 : Int32} {x4 : Int32} {s : mS} {res : (Int32 × mS)} (hf : fX10_gripOf k1 x2 x3 x4 s = some res) (hP : P (some (.int res.1)) (V res.2)) : mC ρ (d + 4) 119 [.ref qT, .ref (qM k1), .int x2, .int x3, .int x4] (V s) P := by
  refine ⟨_, rfl, Nat.le_of_ble_eq_true rfl, by decide, ?_⟩
  show mG ρ (mC ρ (d + 3)) 10 6 cX10_gripOf (some .int) P 0 [(0, .ref qT), (1, .ref (qM k1)), (2, .int x2), (3, .int x3), (4, .int x4)] [] (V s)
  unfold fX10_gripOf at hf
  refine e_aload_n 0 dX10_gripOf_0 rfl rfl ?_
  refine e_getr hV dX10_gripOf_1 rfl lc_T rfl ?_
  refine e_aload_n 1 dX10_gripOf_4 rfl rfl ?_
  refine e_getr hV dX10_gripOf_5 rfl (lc_M hk1) rfl ?_
  refine e_iload_n 3 dX10_gripOf_8 rfl rfl ?_
  refine e_iald hV dX10_gripOf_9 (lc_M_ages hk1) hf (fun v1 hf => ?_)
  refine e_puti hV dX10_gripOf_10 rfl rfl rfl (Or.inl rfl) lc_L rfl hf (fun s2 hf => ?_)
  refine e_aload_n 0 dX10_gripOf_13 rfl rfl ?_
  refine e_getr hV dX10_gripOf_14 rfl lc_T rfl ?_
  refine e_aload_n 0 dX10_gripOf_17 rfl rfl ?_
  refine e_getr hV dX10_gripOf_18 rfl lc_T rfl ?_
  refine e_getr hV dX10_gripOf_21 rfl (lc_W (by decide)) rfl ?_
  refine e_iload_n 2 dX10_gripOf_24 rfl rfl ?_
  refine e_iald hV dX10_gripOf_25 (lc_W_touches (by decide)) hf (fun v3 hf => ?_)
  refine e_puti hV dX10_gripOf_26 rfl rfl rfl (Or.inl rfl) lc_L rfl hf (fun s4 hf => ?_)
  refine e_aload_n 0 dX10_gripOf_29 rfl rfl ?_
  refine e_getr hV dX10_gripOf_30 rfl lc_T rfl ?_
  refine e_iload 4 dX10_gripOf_33 rfl ?_
  refine e_puti hV dX10_gripOf_35 rfl rfl rfl (Or.inl rfl) lc_L rfl hf (fun s5 hf => ?_)
  refine e_aload_n 0 dX10_gripOf_38 rfl rfl ?_
  refine e_getr hV dX10_gripOf_39 rfl lc_T rfl ?_
  refine e_aload_n 0 dX10_gripOf_42 rfl rfl ?_
  refine e_getr hV dX10_gripOf_43 rfl lc_T rfl ?_
  refine e_iload_n 2 dX10_gripOf_46 rfl rfl ?_
  refine e_iload 4 dX10_gripOf_47 rfl ?_
  obtain ⟨r6, hg, hf⟩ := bO_some hf
  refine e_callV (as := [.int x2, .int x4]) (v := (some (.int r6))) (s' := s5) hV dX10_gripOf_49 (Or.inl rfl) rfl rfl rfl rfl (Nat.le_of_ble_eq_true rfl) (lc_W (by decide)) rfl rfl (fun Q hQ => tX9_hand (d := (d + 2)) hV (by decide) hg hQ) ?_
  refine e_aload_n 1 dX10_gripOf_52 rfl rfl ?_
  refine e_iload_n 3 dX10_gripOf_53 rfl rfl ?_
  refine e_iload 4 dX10_gripOf_54 rfl ?_
  obtain ⟨r7, hg, hf⟩ := bO_some hf
  refine e_callV (as := [.int x3, .int x4]) (v := (some (.int r7))) (s' := s5) hV dX10_gripOf_56 (Or.inl rfl) rfl rfl rfl rfl (Nat.le_of_ble_eq_true rfl) (lc_M hk1) rfl rfl (fun Q hQ => tX6_pull (d := (d + 2)) hV hk1 hg hQ) ?_
  refine e_isub dX10_gripOf_59 ?_
  refine e_abs dX10_gripOf_60 rfl (Nat.le_of_ble_eq_true rfl) ?_
  refine e_puti hV dX10_gripOf_63 rfl rfl rfl (Or.inl rfl) lc_L rfl hf (fun s8 hf => ?_)
  refine e_aload_n 0 dX10_gripOf_66 rfl rfl ?_
  refine e_getr hV dX10_gripOf_67 rfl lc_T rfl ?_
  refine e_aload_n 1 dX10_gripOf_70 rfl rfl ?_
  refine e_geti hV dX10_gripOf_71 rfl (lc_M hk1) rfl ?_
  refine e_puti hV dX10_gripOf_74 rfl rfl rfl (Or.inl rfl) lc_L rfl hf (fun s9 hf => ?_)
  refine e_aload_n 0 dX10_gripOf_77 rfl rfl ?_
  refine e_getr hV dX10_gripOf_78 rfl lc_T rfl ?_
  refine e_iload_n 3 dX10_gripOf_81 rfl rfl ?_
  refine e_puti hV dX10_gripOf_82 rfl rfl rfl (Or.inl rfl) lc_L rfl hf (fun s10 hf => ?_)
  refine e_aload_n 0 dX10_gripOf_85 rfl rfl ?_
  refine e_getr hV dX10_gripOf_86 rfl lc_T rfl ?_
  refine e_geti hV dX10_gripOf_89 rfl lc_L rfl ?_
  refine e_if_eq 105 dX10_gripOf_92 (by decide) hf (fun hf => ?_) (fun hf => ?_)
  · refine e_bipush (w := 6) dX10_gripOf_105 (by decide) ?_
    refine e_aload_n 0 dX10_gripOf_107 rfl rfl ?_
    refine e_getr hV dX10_gripOf_108 rfl lc_T rfl ?_
    refine e_geti hV dX10_gripOf_111 rfl lc_L rfl ?_
    refine e_bipush (w := 10) dX10_gripOf_114 (by decide) ?_
    refine e_idiv dX10_gripOf_116 (by decide) ?_
    refine e_iadd dX10_gripOf_117 ?_
    refine e_aload_n 0 dX10_gripOf_118 rfl rfl ?_
    refine e_getr hV dX10_gripOf_119 rfl lc_T rfl ?_
    refine e_geti hV dX10_gripOf_122 rfl lc_L rfl ?_
    refine e_iconst (w := 3) dX10_gripOf_125 (by decide) ?_
    refine e_idiv dX10_gripOf_126 (by decide) ?_
    refine e_isub dX10_gripOf_127 ?_
    refine e_pick [] rfl ?_
    exact wX10_gripOf_b128 hV hP ((6 + ((gI s10 iL_age) / 10)) - ((gI s10 iL_touch) / 3)) s10 hf
  · refine e_aload_n 0 dX10_gripOf_95 rfl rfl ?_
    refine e_getr hV dX10_gripOf_96 rfl lc_T rfl ?_
    obtain ⟨r12, s13, hg, hf⟩ := bP_some hf
    refine e_callV (as := []) (v := (some (.int r12))) (s' := s13) hV dX10_gripOf_99 (Or.inl rfl) rfl rfl rfl rfl (Nat.le_of_ble_eq_true rfl) lc_L rfl rfl (fun Q hQ => tX4_value (d := d) hV  hg hQ) ?_
    refine e_goto 128 dX10_gripOf_102 (by decide) ?_
    refine e_pick [] rfl ?_
    exact wX10_gripOf_b128 hV hP r12 s13 hf

theorem dX10_shown_0 : decode cX10_shown 0 = .ok (.aload_n 0, 1) := by decide +kernel
theorem dX10_shown_1 : decode cX10_shown 1 = .ok (.aload_n 1, 1) := by decide +kernel
theorem dX10_shown_2 : decode cX10_shown 2 = .ok (.iload_n 2, 1) := by decide +kernel
theorem dX10_shown_3 : decode cX10_shown 3 = .ok (.iload_n 3, 1) := by decide +kernel
theorem dX10_shown_4 : decode cX10_shown 4 = .ok (.iload 4, 2) := by decide +kernel
theorem dX10_shown_6 : decode cX10_shown 6 = .ok (.invokevirtual 171, 3) := by decide +kernel
theorem dX10_shown_9 : decode cX10_shown 9 = .ok (.istore 5, 2) := by decide +kernel
theorem dX10_shown_11 : decode cX10_shown 11 = .ok (.aload_n 0, 1) := by decide +kernel
theorem dX10_shown_12 : decode cX10_shown 12 = .ok (.getfield 22, 3) := by decide +kernel
theorem dX10_shown_15 : decode cX10_shown 15 = .ok (.iload_n 2, 1) := by decide +kernel
theorem dX10_shown_16 : decode cX10_shown 16 = .ok (.iload 4, 2) := by decide +kernel
theorem dX10_shown_18 : decode cX10_shown 18 = .ok (.invokevirtual 223, 3) := by decide +kernel
theorem dX10_shown_21 : decode cX10_shown 21 = .ok (.bipush 12, 2) := by decide +kernel
theorem dX10_shown_23 : decode cX10_shown 23 = .ok (.iload 5, 2) := by decide +kernel
theorem dX10_shown_25 : decode cX10_shown 25 = .ok (.isub, 1) := by decide +kernel
theorem dX10_shown_26 : decode cX10_shown 26 = .ok (.imul, 1) := by decide +kernel
theorem dX10_shown_27 : decode cX10_shown 27 = .ok (.aload_n 1, 1) := by decide +kernel
theorem dX10_shown_28 : decode cX10_shown 28 = .ok (.iload_n 3, 1) := by decide +kernel
theorem dX10_shown_29 : decode cX10_shown 29 = .ok (.iload 4, 2) := by decide +kernel
theorem dX10_shown_31 : decode cX10_shown 31 = .ok (.invokevirtual 187, 3) := by decide +kernel
theorem dX10_shown_34 : decode cX10_shown 34 = .ok (.iload 5, 2) := by decide +kernel
theorem dX10_shown_36 : decode cX10_shown 36 = .ok (.imul, 1) := by decide +kernel
theorem dX10_shown_37 : decode cX10_shown 37 = .ok (.iadd, 1) := by decide +kernel
theorem dX10_shown_38 : decode cX10_shown 38 = .ok (.bipush 12, 2) := by decide +kernel
theorem dX10_shown_40 : decode cX10_shown 40 = .ok (.idiv, 1) := by decide +kernel
theorem dX10_shown_41 : decode cX10_shown 41 = .ok (.ireturn, 1) := by decide +kernel
def fX10_shown (k1 : Nat) (x2 : Int32) (x3 : Int32) (x4 : Int32) (s : mS) : Option (Int32 × mS) :=
  bP (fX10_gripOf k1 x2 x3 x4 s) fun r1 s2 =>
  bnd r1 fun v3 =>
  bO (fX9_hand 0 x2 x4 s2) fun r4 =>
  bO (fX6_pull k1 x3 x4 s2) fun r5 =>
  some (((r4 * (12 - v3)) + (r5 * v3)) / 12, s2)

set_option maxRecDepth 20000 in
theorem tX10_shown {ρ : mRo} {d : Nat} {P : mPo} {V : mS → List mE} (hV : mView LC V)  {k1 : Nat} (hk1 : k1 < 3) {x2 : Int32} {x3 : Int32} {x4 : Int32} {s : mS} {res : (Int32 × mS)} (hf : fX10_shown k1 x2 x3 x4 s = some res) (hP : P (some (.int res.1)) (V res.2)) : mC ρ (d + 5) 120 [.ref qT, .ref (qM k1), .int x2, .int x3, .int x4] (V s) P := by
  refine ⟨_, rfl, Nat.le_of_ble_eq_true rfl, by decide, ?_⟩
  show mG ρ (mC ρ (d + 4)) 10 6 cX10_shown (some .int) P 0 [(0, .ref qT), (1, .ref (qM k1)), (2, .int x2), (3, .int x3), (4, .int x4)] [] (V s)
  unfold fX10_shown at hf
  refine e_aload_n 0 dX10_shown_0 rfl rfl ?_
  refine e_aload_n 1 dX10_shown_1 rfl rfl ?_
  refine e_iload_n 2 dX10_shown_2 rfl rfl ?_
  refine e_iload_n 3 dX10_shown_3 rfl rfl ?_
  refine e_iload 4 dX10_shown_4 rfl ?_
  obtain ⟨r1, s2, hg, hf⟩ := bP_some hf
  refine e_callV (as := [.ref (qM k1), .int x2, .int x3, .int x4]) (v := (some (.int r1))) (s' := s2) hV dX10_shown_6 (Or.inl rfl) rfl rfl rfl rfl (Nat.le_of_ble_eq_true rfl) lc_T rfl rfl (fun Q hQ => tX10_gripOf (d := d) hV hk1 hg hQ) ?_
  refine e_istore dX10_shown_9 (by decide) hf (fun v3 hf => ?_)
  refine e_aload_n 1 dX10_shown_11 rfl rfl ?_
  refine e_getr hV dX10_shown_12 rfl lc_T rfl ?_
  refine e_iload_n 3 dX10_shown_15 rfl rfl ?_
  refine e_iload 5 dX10_shown_16 rfl ?_
  obtain ⟨r4, hg, hf⟩ := bO_some hf
  refine e_callV (as := [.int x2, .int x4]) (v := (some (.int r4))) (s' := s2) hV dX10_shown_18 (Or.inl rfl) rfl rfl rfl rfl (Nat.le_of_ble_eq_true rfl) (lc_W (by decide)) rfl rfl (fun Q hQ => tX9_hand (d := (d + 3)) hV (by decide) hg hQ) ?_
  refine e_bipush (w := 12) dX10_shown_21 (by decide) ?_
  refine e_iload 0 dX10_shown_23 rfl ?_
  refine e_isub dX10_shown_25 ?_
  refine e_imul dX10_shown_26 ?_
  refine e_aload_n 2 dX10_shown_27 rfl rfl ?_
  refine e_iload_n 4 dX10_shown_28 rfl rfl ?_
  refine e_iload 5 dX10_shown_29 rfl ?_
  obtain ⟨r5, hg, hf⟩ := bO_some hf
  refine e_callV (as := [.int x3, .int x4]) (v := (some (.int r5))) (s' := s2) hV dX10_shown_31 (Or.inl rfl) rfl rfl rfl rfl (Nat.le_of_ble_eq_true rfl) (lc_M hk1) rfl rfl (fun Q hQ => tX6_pull (d := (d + 3)) hV hk1 hg hQ) ?_
  refine e_iload 0 dX10_shown_34 rfl ?_
  refine e_imul dX10_shown_36 ?_
  refine e_iadd dX10_shown_37 ?_
  refine e_bipush (w := 12) dX10_shown_38 (by decide) ?_
  refine e_idiv dX10_shown_40 (by decide) ?_
  cases hf
  exact e_iret dX10_shown_41 trivial hP

theorem dX10_shows_0 : decode cX10_shows 0 = .ok (.aload_n 0, 1) := by decide +kernel
theorem dX10_shows_1 : decode cX10_shows 1 = .ok (.iload_n 1, 1) := by decide +kernel
theorem dX10_shows_2 : decode cX10_shows 2 = .ok (.invokevirtual 164, 3) := by decide +kernel
theorem dX10_shows_5 : decode cX10_shows 5 = .ok (.ifCond .eq 21, 3) := by decide +kernel
theorem dX10_shows_8 : decode cX10_shows 8 = .ok (.iload_n 2, 1) := by decide +kernel
theorem dX10_shows_9 : decode cX10_shows 9 = .ok (.ifCond .lt 17, 3) := by decide +kernel
theorem dX10_shows_12 : decode cX10_shows 12 = .ok (.iload_n 2, 1) := by decide +kernel
theorem dX10_shows_13 : decode cX10_shows 13 = .ok (.iconst 3, 1) := by decide +kernel
theorem dX10_shows_14 : decode cX10_shows 14 = .ok (.if_icmp .ge 12, 3) := by decide +kernel
theorem dX10_shows_17 : decode cX10_shows 17 = .ok (.iload_n 3, 1) := by decide +kernel
theorem dX10_shows_18 : decode cX10_shows 18 = .ok (.ifCond .lt 8, 3) := by decide +kernel
theorem dX10_shows_21 : decode cX10_shows 21 = .ok (.iload_n 3, 1) := by decide +kernel
theorem dX10_shows_22 : decode cX10_shows 22 = .ok (.iconst 1, 1) := by decide +kernel
theorem dX10_shows_23 : decode cX10_shows 23 = .ok (.if_icmp .le 5, 3) := by decide +kernel
theorem dX10_shows_26 : decode cX10_shows 26 = .ok (.iconst (-1), 1) := by decide +kernel
theorem dX10_shows_27 : decode cX10_shows 27 = .ok (.ireturn, 1) := by decide +kernel
theorem dX10_shows_28 : decode cX10_shows 28 = .ok (.iload_n 3, 1) := by decide +kernel
theorem dX10_shows_29 : decode cX10_shows 29 = .ok (.ifCond .ne 23, 3) := by decide +kernel
theorem dX10_shows_32 : decode cX10_shows 32 = .ok (.aload_n 0, 1) := by decide +kernel
theorem dX10_shows_33 : decode cX10_shows 33 = .ok (.aload_n 0, 1) := by decide +kernel
theorem dX10_shows_34 : decode cX10_shows 34 = .ok (.getfield 10, 3) := by decide +kernel
theorem dX10_shows_37 : decode cX10_shows 37 = .ok (.iload_n 1, 1) := by decide +kernel
theorem dX10_shows_38 : decode cX10_shows 38 = .ok (.bipush 10, 2) := by decide +kernel
theorem dX10_shows_40 : decode cX10_shows 40 = .ok (.idiv, 1) := by decide +kernel
theorem dX10_shows_41 : decode cX10_shows 41 = .ok (.iload_n 1, 1) := by decide +kernel
theorem dX10_shows_42 : decode cX10_shows 42 = .ok (.bipush 10, 2) := by decide +kernel
theorem dX10_shows_44 : decode cX10_shows 44 = .ok (.irem, 1) := by decide +kernel
theorem dX10_shows_45 : decode cX10_shows 45 = .ok (.iload_n 2, 1) := by decide +kernel
theorem dX10_shows_46 : decode cX10_shows 46 = .ok (.invokevirtual 167, 3) := by decide +kernel
theorem dX10_shows_49 : decode cX10_shows 49 = .ok (.goto 20, 3) := by decide +kernel
theorem dX10_shows_52 : decode cX10_shows 52 = .ok (.aload_n 0, 1) := by decide +kernel
theorem dX10_shows_53 : decode cX10_shows 53 = .ok (.aload_n 0, 1) := by decide +kernel
theorem dX10_shows_54 : decode cX10_shows 54 = .ok (.getfield 10, 3) := by decide +kernel
theorem dX10_shows_57 : decode cX10_shows 57 = .ok (.iload_n 1, 1) := by decide +kernel
theorem dX10_shows_58 : decode cX10_shows 58 = .ok (.bipush 10, 2) := by decide +kernel
theorem dX10_shows_60 : decode cX10_shows 60 = .ok (.idiv, 1) := by decide +kernel
theorem dX10_shows_61 : decode cX10_shows 61 = .ok (.iload_n 1, 1) := by decide +kernel
theorem dX10_shows_62 : decode cX10_shows 62 = .ok (.bipush 10, 2) := by decide +kernel
theorem dX10_shows_64 : decode cX10_shows 64 = .ok (.irem, 1) := by decide +kernel
theorem dX10_shows_65 : decode cX10_shows 65 = .ok (.iload_n 2, 1) := by decide +kernel
theorem dX10_shows_66 : decode cX10_shows 66 = .ok (.invokevirtual 171, 3) := by decide +kernel
theorem dX10_shows_69 : decode cX10_shows 69 = .ok (.ireturn, 1) := by decide +kernel
def fX10_shows (x1 : Int32) (x2 : Int32) (x3 : Int32) (s : mS) : Option (Int32 × mS) :=
  bO (fX10_isPair x1 s) fun r1 =>
  if r1 = 0 then
    some ((-1), s)
  else
    if x2 < 0 then
      some ((-1), s)
    else
      if 3 ≤ x2 then
        some ((-1), s)
      else
        if x3 < 0 then
          some ((-1), s)
        else
          if x3 ≤ 1 then
            if x3 = 0 then
              bP (fX10_shown 0 (x1 / 10) (x1 - x1 / 10 * 10) x2 s) fun r4 s5 =>
              some (r4, s5)
            else
              bP (fX10_gripOf 0 (x1 / 10) (x1 - x1 / 10 * 10) x2 s) fun r2 s3 =>
              some (r2, s3)
          else
            some ((-1), s)

set_option maxRecDepth 20000 in
theorem tX10_shows {ρ : mRo} {d : Nat} {P : mPo} {V : mS → List mE} (hV : mView LC V)  {x1 : Int32} {x2 : Int32} {x3 : Int32} {s : mS} {res : (Int32 × mS)} (hf : fX10_shows x1 x2 x3 s = some res) (hP : P (some (.int res.1)) (V res.2)) : mC ρ (d + 6) 71 [.ref qT, .int x1, .int x2, .int x3] (V s) P := by
  refine ⟨_, rfl, Nat.le_of_ble_eq_true rfl, by decide, ?_⟩
  show mG ρ (mC ρ (d + 5)) 10 4 cX10_shows (some .int) P 0 [(0, .ref qT), (1, .int x1), (2, .int x2), (3, .int x3)] [] (V s)
  unfold fX10_shows at hf
  refine e_aload_n 0 dX10_shows_0 rfl rfl ?_
  refine e_iload_n 1 dX10_shows_1 rfl rfl ?_
  obtain ⟨r1, hg, hf⟩ := bO_some hf
  refine e_callV (as := [.int x1]) (v := (some (.int r1))) (s' := s) hV dX10_shows_2 (Or.inl rfl) rfl rfl rfl rfl (Nat.le_of_ble_eq_true rfl) lc_T rfl rfl (fun Q hQ => tX10_isPair (d := (d + 3)) hV  hg hQ) ?_
  refine e_if_eq 26 dX10_shows_5 (by decide) hf (fun hf => ?_) (fun hf => ?_)
  · refine e_iconst (w := (-1)) dX10_shows_26 (by decide) ?_
    cases hf
    exact e_iret dX10_shows_27 trivial hP
  · refine e_iload_n 2 dX10_shows_8 rfl rfl ?_
    refine e_if_lt 26 dX10_shows_9 (by decide) hf (fun hf => ?_) (fun hf => ?_)
    · refine e_iconst (w := (-1)) dX10_shows_26 (by decide) ?_
      cases hf
      exact e_iret dX10_shows_27 trivial hP
    · refine e_iload_n 2 dX10_shows_12 rfl rfl ?_
      refine e_iconst (w := 3) dX10_shows_13 (by decide) ?_
      refine e_icmp_ge 26 dX10_shows_14 (by decide) hf (fun hf => ?_) (fun hf => ?_)
      · refine e_iconst (w := (-1)) dX10_shows_26 (by decide) ?_
        cases hf
        exact e_iret dX10_shows_27 trivial hP
      · refine e_iload_n 3 dX10_shows_17 rfl rfl ?_
        refine e_if_lt 26 dX10_shows_18 (by decide) hf (fun hf => ?_) (fun hf => ?_)
        · refine e_iconst (w := (-1)) dX10_shows_26 (by decide) ?_
          cases hf
          exact e_iret dX10_shows_27 trivial hP
        · refine e_iload_n 3 dX10_shows_21 rfl rfl ?_
          refine e_iconst (w := 1) dX10_shows_22 (by decide) ?_
          refine e_icmp_le 28 dX10_shows_23 (by decide) hf (fun hf => ?_) (fun hf => ?_)
          · refine e_iload_n 3 dX10_shows_28 rfl rfl ?_
            refine e_if_ne 52 dX10_shows_29 (by decide) hf (fun hf => ?_) (fun hf => ?_)
            · refine e_aload_n 0 dX10_shows_52 rfl rfl ?_
              refine e_aload_n 0 dX10_shows_53 rfl rfl ?_
              refine e_getr hV dX10_shows_54 rfl lc_T rfl ?_
              refine e_iload_n 1 dX10_shows_57 rfl rfl ?_
              refine e_bipush (w := 10) dX10_shows_58 (by decide) ?_
              refine e_idiv dX10_shows_60 (by decide) ?_
              refine e_iload_n 1 dX10_shows_61 rfl rfl ?_
              refine e_bipush (w := 10) dX10_shows_62 (by decide) ?_
              refine e_irem dX10_shows_64 (by decide) ?_
              refine e_iload_n 2 dX10_shows_65 rfl rfl ?_
              obtain ⟨r2, s3, hg, hf⟩ := bP_some hf
              refine e_callV (as := [.ref (qM 0), .int (x1 / 10), .int (x1 - x1 / 10 * 10), .int x2]) (v := (some (.int r2))) (s' := s3) hV dX10_shows_66 (Or.inl rfl) rfl rfl rfl rfl (Nat.le_of_ble_eq_true rfl) lc_T rfl rfl (fun Q hQ => tX10_gripOf (d := (d + 1)) hV (by decide) hg hQ) ?_
              cases hf
              exact e_iret dX10_shows_69 trivial hP
            · refine e_aload_n 0 dX10_shows_32 rfl rfl ?_
              refine e_aload_n 0 dX10_shows_33 rfl rfl ?_
              refine e_getr hV dX10_shows_34 rfl lc_T rfl ?_
              refine e_iload_n 1 dX10_shows_37 rfl rfl ?_
              refine e_bipush (w := 10) dX10_shows_38 (by decide) ?_
              refine e_idiv dX10_shows_40 (by decide) ?_
              refine e_iload_n 1 dX10_shows_41 rfl rfl ?_
              refine e_bipush (w := 10) dX10_shows_42 (by decide) ?_
              refine e_irem dX10_shows_44 (by decide) ?_
              refine e_iload_n 2 dX10_shows_45 rfl rfl ?_
              obtain ⟨r4, s5, hg, hf⟩ := bP_some hf
              refine e_callV (as := [.ref (qM 0), .int (x1 / 10), .int (x1 - x1 / 10 * 10), .int x2]) (v := (some (.int r4))) (s' := s5) hV dX10_shows_46 (Or.inl rfl) rfl rfl rfl rfl (Nat.le_of_ble_eq_true rfl) lc_T rfl rfl (fun Q hQ => tX10_shown (d := d) hV (by decide) hg hQ) ?_
              refine e_goto 69 dX10_shows_49 (by decide) ?_
              cases hf
              exact e_iret dX10_shows_69 trivial hP
          · refine e_iconst (w := (-1)) dX10_shows_26 (by decide) ?_
            cases hf
            exact e_iret dX10_shows_27 trivial hP

theorem dX10_rowRefusal_0 : decode cX10_rowRefusal 0 = .ok (.iload_n 1, 1) := by decide +kernel
theorem dX10_rowRefusal_1 : decode cX10_rowRefusal 1 = .ok (.invokestatic 99, 3) := by decide +kernel
theorem dX10_rowRefusal_4 : decode cX10_rowRefusal 4 = .ok (.ifCond .ne 5, 3) := by decide +kernel
theorem dX10_rowRefusal_7 : decode cX10_rowRefusal 7 = .ok (.iconst (-1), 1) := by decide +kernel
theorem dX10_rowRefusal_8 : decode cX10_rowRefusal 8 = .ok (.ireturn, 1) := by decide +kernel
theorem dX10_rowRefusal_9 : decode cX10_rowRefusal 9 = .ok (.aload_n 0, 1) := by decide +kernel
theorem dX10_rowRefusal_10 : decode cX10_rowRefusal 10 = .ok (.getfield 42, 3) := by decide +kernel
theorem dX10_rowRefusal_13 : decode cX10_rowRefusal 13 = .ok (.iload_n 1, 1) := by decide +kernel
theorem dX10_rowRefusal_14 : decode cX10_rowRefusal 14 = .ok (.aaload, 1) := by decide +kernel
theorem dX10_rowRefusal_15 : decode cX10_rowRefusal 15 = .ok (.invokevirtual 103, 3) := by decide +kernel
theorem dX10_rowRefusal_18 : decode cX10_rowRefusal 18 = .ok (.ifCond .eq 6, 3) := by decide +kernel
theorem dX10_rowRefusal_21 : decode cX10_rowRefusal 21 = .ok (.bipush (-11), 2) := by decide +kernel
theorem dX10_rowRefusal_23 : decode cX10_rowRefusal 23 = .ok (.ireturn, 1) := by decide +kernel
theorem dX10_rowRefusal_24 : decode cX10_rowRefusal 24 = .ok (.aload_n 0, 1) := by decide +kernel
theorem dX10_rowRefusal_25 : decode cX10_rowRefusal 25 = .ok (.getfield 42, 3) := by decide +kernel
theorem dX10_rowRefusal_28 : decode cX10_rowRefusal 28 = .ok (.iload_n 1, 1) := by decide +kernel
theorem dX10_rowRefusal_29 : decode cX10_rowRefusal 29 = .ok (.aaload, 1) := by decide +kernel
theorem dX10_rowRefusal_30 : decode cX10_rowRefusal 30 = .ok (.iload_n 2, 1) := by decide +kernel
theorem dX10_rowRefusal_31 : decode cX10_rowRefusal 31 = .ok (.invokevirtual 106, 3) := by decide +kernel
theorem dX10_rowRefusal_34 : decode cX10_rowRefusal 34 = .ok (.ifCond .eq 7, 3) := by decide +kernel
theorem dX10_rowRefusal_37 : decode cX10_rowRefusal 37 = .ok (.iconst 0, 1) := by decide +kernel
theorem dX10_rowRefusal_38 : decode cX10_rowRefusal 38 = .ok (.goto 5, 3) := by decide +kernel
theorem dX10_rowRefusal_41 : decode cX10_rowRefusal 41 = .ok (.bipush (-12), 2) := by decide +kernel
theorem dX10_rowRefusal_43 : decode cX10_rowRefusal 43 = .ok (.ireturn, 1) := by decide +kernel
def fX10_rowRefusal (x1 : Int32) (x2 : Int32) (s : mS) : Option Int32 :=
  bO (fX10_isShelf x1 s) fun r1 =>
  if r1 = 0 then
    some (-1)
  else
    ldS 6 x1 fun j2 =>
    bO (fX7_isEmpty j2 s) fun r3 =>
    if r3 = 0 then
      ldS 6 x1 fun j4 =>
      bO (fX7_isRowOf j4 x2 s) fun r5 =>
      if r5 = 0 then
        some (-12)
      else
        some 0
    else
      some (-11)

set_option maxRecDepth 20000 in
theorem tX10_rowRefusal {ρ : mRo} {d : Nat} {P : mPo} {V : mS → List mE} (hV : mView LC V)  {x1 : Int32} {x2 : Int32} {s : mS} {res : Int32} (hf : fX10_rowRefusal x1 x2 s = some res) (hP : P (some (.int res)) (V s)) : mC ρ (d + 2) 112 [.ref qT, .int x1, .int x2] (V s) P := by
  refine ⟨_, rfl, Nat.le_of_ble_eq_true rfl, by decide, ?_⟩
  show mG ρ (mC ρ (d + 1)) 10 3 cX10_rowRefusal (some .int) P 0 [(0, .ref qT), (1, .int x1), (2, .int x2)] [] (V s)
  unfold fX10_rowRefusal at hf
  refine e_iload_n 1 dX10_rowRefusal_0 rfl rfl ?_
  obtain ⟨r1, hg, hf⟩ := bO_some hf
  refine e_callS (as := [.int x1]) (v := (some (.int r1))) (s' := s) dX10_rowRefusal_1 rfl rfl rfl rfl rfl (Nat.le_of_ble_eq_true rfl) (fun Q hQ => tX10_isShelf (d := d) hV  hg hQ) ?_
  refine e_if_ne 9 dX10_rowRefusal_4 (by decide) hf (fun hf => ?_) (fun hf => ?_)
  · refine e_aload_n 0 dX10_rowRefusal_9 rfl rfl ?_
    refine e_getr hV dX10_rowRefusal_10 rfl lc_T rfl ?_
    refine e_iload_n 1 dX10_rowRefusal_13 rfl rfl ?_
    refine e_aald hV dX10_rowRefusal_14 lc_T_shelves rfl lc_T_shelves_at hf (fun j2 hj2 hf => ?_)
    obtain ⟨r3, hg, hf⟩ := bO_some hf
    refine e_callV (as := []) (v := (some (.int r3))) (s' := s) hV dX10_rowRefusal_15 (Or.inl rfl) rfl rfl rfl rfl (Nat.le_of_ble_eq_true rfl) (lc_S hj2) rfl rfl (fun Q hQ => tX7_isEmpty (d := d) hV hj2 hg hQ) ?_
    refine e_if_eq 24 dX10_rowRefusal_18 (by decide) hf (fun hf => ?_) (fun hf => ?_)
    · refine e_aload_n 0 dX10_rowRefusal_24 rfl rfl ?_
      refine e_getr hV dX10_rowRefusal_25 rfl lc_T rfl ?_
      refine e_iload_n 1 dX10_rowRefusal_28 rfl rfl ?_
      refine e_aald hV dX10_rowRefusal_29 lc_T_shelves rfl lc_T_shelves_at hf (fun j4 hj4 hf => ?_)
      refine e_iload_n 2 dX10_rowRefusal_30 rfl rfl ?_
      obtain ⟨r5, hg, hf⟩ := bO_some hf
      refine e_callV (as := [.int x2]) (v := (some (.int r5))) (s' := s) hV dX10_rowRefusal_31 (Or.inl rfl) rfl rfl rfl rfl (Nat.le_of_ble_eq_true rfl) (lc_S hj4) rfl rfl (fun Q hQ => tX7_isRowOf (d := d) hV hj4 hg hQ) ?_
      refine e_if_eq 41 dX10_rowRefusal_34 (by decide) hf (fun hf => ?_) (fun hf => ?_)
      · refine e_bipush (w := (-12)) dX10_rowRefusal_41 (by decide) ?_
        cases hf
        exact e_iret dX10_rowRefusal_43 trivial hP
      · refine e_iconst (w := 0) dX10_rowRefusal_37 (by decide) ?_
        refine e_goto 43 dX10_rowRefusal_38 (by decide) ?_
        cases hf
        exact e_iret dX10_rowRefusal_43 trivial hP
    · refine e_bipush (w := (-11)) dX10_rowRefusal_21 (by decide) ?_
      cases hf
      exact e_iret dX10_rowRefusal_23 trivial hP
  · refine e_iconst (w := (-1)) dX10_rowRefusal_7 (by decide) ?_
    cases hf
    exact e_iret dX10_rowRefusal_8 trivial hP

theorem dX10_pass_0 : decode cX10_pass 0 = .ok (.iconst 0, 1) := by decide +kernel
theorem dX10_pass_1 : decode cX10_pass 1 = .ok (.istore 4, 2) := by decide +kernel
theorem dX10_pass_3 : decode cX10_pass 3 = .ok (.iload 4, 2) := by decide +kernel
theorem dX10_pass_5 : decode cX10_pass 5 = .ok (.iconst 3, 1) := by decide +kernel
theorem dX10_pass_6 : decode cX10_pass 6 = .ok (.if_icmp .ge 44, 3) := by decide +kernel
theorem dX10_pass_9 : decode cX10_pass 9 = .ok (.aload_n 1, 1) := by decide +kernel
theorem dX10_pass_10 : decode cX10_pass 10 = .ok (.iload_n 3, 1) := by decide +kernel
theorem dX10_pass_11 : decode cX10_pass 11 = .ok (.iload 4, 2) := by decide +kernel
theorem dX10_pass_13 : decode cX10_pass 13 = .ok (.invokevirtual 187, 3) := by decide +kernel
theorem dX10_pass_16 : decode cX10_pass 16 = .ok (.aload_n 0, 1) := by decide +kernel
theorem dX10_pass_17 : decode cX10_pass 17 = .ok (.getfield 22, 3) := by decide +kernel
theorem dX10_pass_20 : decode cX10_pass 20 = .ok (.iload_n 2, 1) := by decide +kernel
theorem dX10_pass_21 : decode cX10_pass 21 = .ok (.iload 4, 2) := by decide +kernel
theorem dX10_pass_23 : decode cX10_pass 23 = .ok (.invokevirtual 223, 3) := by decide +kernel
theorem dX10_pass_26 : decode cX10_pass 26 = .ok (.invokestatic 226, 3) := by decide +kernel
theorem dX10_pass_29 : decode cX10_pass 29 = .ok (.istore 5, 2) := by decide +kernel
theorem dX10_pass_31 : decode cX10_pass 31 = .ok (.aload_n 1, 1) := by decide +kernel
theorem dX10_pass_32 : decode cX10_pass 32 = .ok (.getfield 404, 3) := by decide +kernel
theorem dX10_pass_35 : decode cX10_pass 35 = .ok (.iconst 3, 1) := by decide +kernel
theorem dX10_pass_36 : decode cX10_pass 36 = .ok (.iload_n 3, 1) := by decide +kernel
theorem dX10_pass_37 : decode cX10_pass 37 = .ok (.imul, 1) := by decide +kernel
theorem dX10_pass_38 : decode cX10_pass 38 = .ok (.iload 4, 2) := by decide +kernel
theorem dX10_pass_40 : decode cX10_pass 40 = .ok (.iadd, 1) := by decide +kernel
theorem dX10_pass_41 : decode cX10_pass 41 = .ok (.iload 5, 2) := by decide +kernel
theorem dX10_pass_43 : decode cX10_pass 43 = .ok (.iastore, 1) := by decide +kernel
theorem dX10_pass_44 : decode cX10_pass 44 = .ok (.iinc 4 1, 3) := by decide +kernel
theorem dX10_pass_47 : decode cX10_pass 47 = .ok (.goto (-44), 3) := by decide +kernel
theorem dX10_pass_50 : decode cX10_pass 50 = .ok (.aload_n 1, 1) := by decide +kernel
theorem dX10_pass_51 : decode cX10_pass 51 = .ok (.getfield 184, 3) := by decide +kernel
theorem dX10_pass_54 : decode cX10_pass 54 = .ok (.iload_n 3, 1) := by decide +kernel
theorem dX10_pass_55 : decode cX10_pass 55 = .ok (.aload_n 1, 1) := by decide +kernel
theorem dX10_pass_56 : decode cX10_pass 56 = .ok (.getfield 184, 3) := by decide +kernel
theorem dX10_pass_59 : decode cX10_pass 59 = .ok (.iload_n 3, 1) := by decide +kernel
theorem dX10_pass_60 : decode cX10_pass 60 = .ok (.iaload, 1) := by decide +kernel
theorem dX10_pass_61 : decode cX10_pass 61 = .ok (.iconst 1, 1) := by decide +kernel
theorem dX10_pass_62 : decode cX10_pass 62 = .ok (.iadd, 1) := by decide +kernel
theorem dX10_pass_63 : decode cX10_pass 63 = .ok (.bipush 99, 2) := by decide +kernel
theorem dX10_pass_65 : decode cX10_pass 65 = .ok (.invokestatic 435, 3) := by decide +kernel
theorem dX10_pass_68 : decode cX10_pass 68 = .ok (.iastore, 1) := by decide +kernel
theorem dX10_pass_69 : decode cX10_pass 69 = .ok (.return_, 1) := by decide +kernel
def fX10_pass_b3 : Nat → Nat → Int32 → Int32 → Int32 → mS → Option mS
  | 0, _, _, _, _, _ => none
  | k + 1, k1, y2, y3, y4, s =>
    if 3 ≤ y4 then
      ldA s (aM_ages k1) 8 y3 fun v2 =>
      stA s (aM_ages k1) 8 y3 (if 99 < (v2 + 1) then 99 else (v2 + 1)) fun s3 =>
      some s3
    else
      bO (fX6_pull k1 y3 y4 s) fun r4 =>
      bO (fX9_hand 0 y2 y4 s) fun r5 =>
      bO (fX2_nearer r4 r5 s) fun r6 =>
      bnd r6 fun v7 =>
      stA s (aM_pulls k1) 24 ((3 * y3) + y4) v7 fun s8 =>
      bnd (y4 + 1) fun v9 =>
      fX10_pass_b3 k k1 y2 y3 v9 s8

def fX10_pass (k1 : Nat) (x2 : Int32) (x3 : Int32) (s : mS) : Option mS :=
  bnd 0 fun v1 =>
  fX10_pass_b3 mFu k1 x2 x3 v1 s

set_option maxRecDepth 20000 in
theorem wX10_pass_b3 {ρ : mRo} {d : Nat} {P : mPo} {V : mS → List mE} (hV : mView LC V)  {res : mS} (hP : P none (V res)) : ∀ (k : Nat) (k1 : Nat) (hk1 : k1 < 3) (y2 : Int32) (y3 : Int32) (y4 : Int32) (s : mS), fX10_pass_b3 k k1 y2 y3 y4 s = some res → mG ρ (mC ρ (d + 1)) 10 6 cX10_pass none P 3 [(0, .ref qT), (1, .ref (qM k1)), (2, .int y2), (3, .int y3), (4, .int y4)] [] (V s) := by
  intro k
  induction k with
  | zero => intro k1 hk1 y2 y3 y4 s hf; rw [fX10_pass_b3] at hf; cases hf
  | succ k ih =>
    intro k1 hk1 y2 y3 y4 s hf
    rw [fX10_pass_b3] at hf
    refine e_iload 4 dX10_pass_3 rfl ?_
    refine e_iconst (w := 3) dX10_pass_5 (by decide) ?_
    refine e_icmp_ge 50 dX10_pass_6 (by decide) hf (fun hf => ?_) (fun hf => ?_)
    · refine e_aload_n 1 dX10_pass_50 rfl rfl ?_
      refine e_getr hV dX10_pass_51 rfl (lc_M hk1) rfl ?_
      refine e_iload_n 3 dX10_pass_54 rfl rfl ?_
      refine e_aload_n 1 dX10_pass_55 rfl rfl ?_
      refine e_getr hV dX10_pass_56 rfl (lc_M hk1) rfl ?_
      refine e_iload_n 3 dX10_pass_59 rfl rfl ?_
      refine e_iald hV dX10_pass_60 (lc_M_ages hk1) hf (fun v2 hf => ?_)
      refine e_iconst (w := 1) dX10_pass_61 (by decide) ?_
      refine e_iadd dX10_pass_62 ?_
      refine e_bipush (w := 99) dX10_pass_63 (by decide) ?_
      refine e_min dX10_pass_65 rfl (Nat.le_of_ble_eq_true rfl) ?_
      refine e_iast hV dX10_pass_68 (lc_M_ages hk1) hf (fun s3 hf => ?_)
      cases hf
      exact e_ret dX10_pass_69 rfl hP
    · refine e_aload_n 1 dX10_pass_9 rfl rfl ?_
      refine e_iload_n 3 dX10_pass_10 rfl rfl ?_
      refine e_iload 4 dX10_pass_11 rfl ?_
      obtain ⟨r4, hg, hf⟩ := bO_some hf
      refine e_callV (as := [.int y3, .int y4]) (v := (some (.int r4))) (s' := s) hV dX10_pass_13 (Or.inl rfl) rfl rfl rfl rfl (Nat.le_of_ble_eq_true rfl) (lc_M hk1) rfl rfl (fun Q hQ => tX6_pull (d := d) hV hk1 hg hQ) ?_
      refine e_aload_n 0 dX10_pass_16 rfl rfl ?_
      refine e_getr hV dX10_pass_17 rfl lc_T rfl ?_
      refine e_iload_n 2 dX10_pass_20 rfl rfl ?_
      refine e_iload 4 dX10_pass_21 rfl ?_
      obtain ⟨r5, hg, hf⟩ := bO_some hf
      refine e_callV (as := [.int y2, .int y4]) (v := (some (.int r5))) (s' := s) hV dX10_pass_23 (Or.inl rfl) rfl rfl rfl rfl (Nat.le_of_ble_eq_true rfl) (lc_W (by decide)) rfl rfl (fun Q hQ => tX9_hand (d := d) hV (by decide) hg hQ) ?_
      obtain ⟨r6, hg, hf⟩ := bO_some hf
      refine e_callS (as := [.int r4, .int r5]) (v := (some (.int r6))) (s' := s) dX10_pass_26 rfl rfl rfl rfl rfl (Nat.le_of_ble_eq_true rfl) (fun Q hQ => tX2_nearer (d := d) hV  hg hQ) ?_
      refine e_istore dX10_pass_29 (by decide) hf (fun v7 hf => ?_)
      refine e_aload_n 2 dX10_pass_31 rfl rfl ?_
      refine e_getr hV dX10_pass_32 rfl (lc_M hk1) rfl ?_
      refine e_iconst (w := 3) dX10_pass_35 (by decide) ?_
      refine e_iload_n 4 dX10_pass_36 rfl rfl ?_
      refine e_imul dX10_pass_37 ?_
      refine e_iload 5 dX10_pass_38 rfl ?_
      refine e_iadd dX10_pass_40 ?_
      refine e_iload 0 dX10_pass_41 rfl ?_
      refine e_iast hV dX10_pass_43 (lc_M_pulls hk1) hf (fun s8 hf => ?_)
      refine e_iinc 5 dX10_pass_44 rfl rfl hf (fun v9 hf => ?_)
      refine e_goto 3 dX10_pass_47 (by decide) ?_
      refine e_pick [2, 3, 4, 5, 0] rfl ?_
      exact ih k1 hk1 y2 y3 v9 s8 hf
set_option maxRecDepth 20000 in
theorem tX10_pass {ρ : mRo} {d : Nat} {P : mPo} {V : mS → List mE} (hV : mView LC V)  {k1 : Nat} (hk1 : k1 < 3) {x2 : Int32} {x3 : Int32} {s : mS} {res : mS} (hf : fX10_pass k1 x2 x3 s = some res) (hP : P none (V res)) : mC ρ (d + 2) 122 [.ref qT, .ref (qM k1), .int x2, .int x3] (V s) P := by
  refine ⟨_, rfl, Nat.le_of_ble_eq_true rfl, by decide, ?_⟩
  show mG ρ (mC ρ (d + 1)) 10 6 cX10_pass none P 0 [(0, .ref qT), (1, .ref (qM k1)), (2, .int x2), (3, .int x3)] [] (V s)
  unfold fX10_pass at hf
  refine e_iconst (w := 0) dX10_pass_0 (by decide) ?_
  refine e_istore dX10_pass_1 (by decide) hf (fun v1 hf => ?_)
  refine e_pick [1, 2, 3, 4, 0] rfl ?_
  exact wX10_pass_b3 hV hP mFu k1 hk1 x2 x3 v1 s hf

theorem dX10_dayHas_0 : decode cX10_dayHas 0 = .ok (.aload_n 1, 1) := by decide +kernel
theorem dX10_dayHas_1 : decode cX10_dayHas 1 = .ok (.iconst 2, 1) := by decide +kernel
theorem dX10_dayHas_2 : decode cX10_dayHas 2 = .ok (.iload_n 2, 1) := by decide +kernel
theorem dX10_dayHas_3 : decode cX10_dayHas 3 = .ok (.imul, 1) := by decide +kernel
theorem dX10_dayHas_4 : decode cX10_dayHas 4 = .ok (.iconst 2, 1) := by decide +kernel
theorem dX10_dayHas_5 : decode cX10_dayHas 5 = .ok (.invokevirtual 383, 3) := by decide +kernel
theorem dX10_dayHas_8 : decode cX10_dayHas 8 = .ok (.ifCond .eq 47, 3) := by decide +kernel
theorem dX10_dayHas_11 : decode cX10_dayHas 11 = .ok (.aload_n 0, 1) := by decide +kernel
theorem dX10_dayHas_12 : decode cX10_dayHas 12 = .ok (.getfield 22, 3) := by decide +kernel
theorem dX10_dayHas_15 : decode cX10_dayHas 15 = .ok (.aload_n 1, 1) := by decide +kernel
theorem dX10_dayHas_16 : decode cX10_dayHas 16 = .ok (.getfield 117, 3) := by decide +kernel
theorem dX10_dayHas_19 : decode cX10_dayHas 19 = .ok (.iconst 2, 1) := by decide +kernel
theorem dX10_dayHas_20 : decode cX10_dayHas 20 = .ok (.iload_n 2, 1) := by decide +kernel
theorem dX10_dayHas_21 : decode cX10_dayHas 21 = .ok (.imul, 1) := by decide +kernel
theorem dX10_dayHas_22 : decode cX10_dayHas 22 = .ok (.laload, 1) := by decide +kernel
theorem dX10_dayHas_23 : decode cX10_dayHas 23 = .ok (.l2i, 1) := by decide +kernel
theorem dX10_dayHas_24 : decode cX10_dayHas 24 = .ok (.invokevirtual 208, 3) := by decide +kernel
theorem dX10_dayHas_27 : decode cX10_dayHas 27 = .ok (.ifCond .eq 28, 3) := by decide +kernel
theorem dX10_dayHas_30 : decode cX10_dayHas 30 = .ok (.aload_n 0, 1) := by decide +kernel
theorem dX10_dayHas_31 : decode cX10_dayHas 31 = .ok (.getfield 10, 3) := by decide +kernel
theorem dX10_dayHas_34 : decode cX10_dayHas 34 = .ok (.aload_n 1, 1) := by decide +kernel
theorem dX10_dayHas_35 : decode cX10_dayHas 35 = .ok (.getfield 117, 3) := by decide +kernel
theorem dX10_dayHas_38 : decode cX10_dayHas 38 = .ok (.iconst 2, 1) := by decide +kernel
theorem dX10_dayHas_39 : decode cX10_dayHas 39 = .ok (.iload_n 2, 1) := by decide +kernel
theorem dX10_dayHas_40 : decode cX10_dayHas 40 = .ok (.imul, 1) := by decide +kernel
theorem dX10_dayHas_41 : decode cX10_dayHas 41 = .ok (.iconst 1, 1) := by decide +kernel
theorem dX10_dayHas_42 : decode cX10_dayHas 42 = .ok (.iadd, 1) := by decide +kernel
theorem dX10_dayHas_43 : decode cX10_dayHas 43 = .ok (.laload, 1) := by decide +kernel
theorem dX10_dayHas_44 : decode cX10_dayHas 44 = .ok (.l2i, 1) := by decide +kernel
theorem dX10_dayHas_45 : decode cX10_dayHas 45 = .ok (.invokevirtual 174, 3) := by decide +kernel
theorem dX10_dayHas_48 : decode cX10_dayHas 48 = .ok (.ifCond .eq 7, 3) := by decide +kernel
theorem dX10_dayHas_51 : decode cX10_dayHas 51 = .ok (.iconst 1, 1) := by decide +kernel
theorem dX10_dayHas_52 : decode cX10_dayHas 52 = .ok (.goto 4, 3) := by decide +kernel
theorem dX10_dayHas_55 : decode cX10_dayHas 55 = .ok (.iconst 0, 1) := by decide +kernel
theorem dX10_dayHas_56 : decode cX10_dayHas 56 = .ok (.ireturn, 1) := by decide +kernel
def fX10_dayHas (k1 : Nat) (x2 : Int32) (s : mS) : Option Int32 :=
  bO (fX7_hasSpan k1 (2 * x2) 2 s) fun r1 =>
  if r1 = 0 then
    some 0
  else
    ldL s (lS_cells k1) 60 (2 * x2) fun v2 =>
    bO (fX9_has 0 (Int64.toInt32 v2) s) fun r3 =>
    if r3 = 0 then
      some 0
    else
      ldL s (lS_cells k1) 60 ((2 * x2) + 1) fun v4 =>
      bO (fX6_has 0 (Int64.toInt32 v4) s) fun r5 =>
      if r5 = 0 then
        some 0
      else
        some 1

set_option maxRecDepth 20000 in
theorem tX10_dayHas {ρ : mRo} {d : Nat} {P : mPo} {V : mS → List mE} (hV : mView LC V)  {k1 : Nat} (hk1 : k1 < 6) {x2 : Int32} {s : mS} {res : Int32} (hf : fX10_dayHas k1 x2 s = some res) (hP : P (some (.int res)) (V s)) : mC ρ (d + 2) 123 [.ref qT, .ref (qS k1), .int x2] (V s) P := by
  refine ⟨_, rfl, Nat.le_of_ble_eq_true rfl, by decide, ?_⟩
  show mG ρ (mC ρ (d + 1)) 10 3 cX10_dayHas (some .boolean) P 0 [(0, .ref qT), (1, .ref (qS k1)), (2, .int x2)] [] (V s)
  unfold fX10_dayHas at hf
  refine e_aload_n 1 dX10_dayHas_0 rfl rfl ?_
  refine e_iconst (w := 2) dX10_dayHas_1 (by decide) ?_
  refine e_iload_n 2 dX10_dayHas_2 rfl rfl ?_
  refine e_imul dX10_dayHas_3 ?_
  refine e_iconst (w := 2) dX10_dayHas_4 (by decide) ?_
  obtain ⟨r1, hg, hf⟩ := bO_some hf
  refine e_callV (as := [.int (2 * x2), .int 2]) (v := (some (.int r1))) (s' := s) hV dX10_dayHas_5 (Or.inl rfl) rfl rfl rfl rfl (Nat.le_of_ble_eq_true rfl) (lc_S hk1) rfl rfl (fun Q hQ => tX7_hasSpan (d := d) hV hk1 hg hQ) ?_
  refine e_if_eq 55 dX10_dayHas_8 (by decide) hf (fun hf => ?_) (fun hf => ?_)
  · refine e_iconst (w := 0) dX10_dayHas_55 (by decide) ?_
    cases hf
    exact e_iret dX10_dayHas_56 (Or.inl rfl) hP
  · refine e_aload_n 0 dX10_dayHas_11 rfl rfl ?_
    refine e_getr hV dX10_dayHas_12 rfl lc_T rfl ?_
    refine e_aload_n 1 dX10_dayHas_15 rfl rfl ?_
    refine e_getr hV dX10_dayHas_16 rfl (lc_S hk1) rfl ?_
    refine e_iconst (w := 2) dX10_dayHas_19 (by decide) ?_
    refine e_iload_n 2 dX10_dayHas_20 rfl rfl ?_
    refine e_imul dX10_dayHas_21 ?_
    refine e_lald hV dX10_dayHas_22 (lc_S_cells hk1) hf (fun v2 hf => ?_)
    refine e_l2i dX10_dayHas_23 ?_
    obtain ⟨r3, hg, hf⟩ := bO_some hf
    refine e_callV (as := [.int (Int64.toInt32 v2)]) (v := (some (.int r3))) (s' := s) hV dX10_dayHas_24 (Or.inl rfl) rfl rfl rfl rfl (Nat.le_of_ble_eq_true rfl) (lc_W (by decide)) rfl rfl (fun Q hQ => tX9_has (d := d) hV (by decide) hg hQ) ?_
    refine e_if_eq 55 dX10_dayHas_27 (by decide) hf (fun hf => ?_) (fun hf => ?_)
    · refine e_iconst (w := 0) dX10_dayHas_55 (by decide) ?_
      cases hf
      exact e_iret dX10_dayHas_56 (Or.inl rfl) hP
    · refine e_aload_n 0 dX10_dayHas_30 rfl rfl ?_
      refine e_getr hV dX10_dayHas_31 rfl lc_T rfl ?_
      refine e_aload_n 1 dX10_dayHas_34 rfl rfl ?_
      refine e_getr hV dX10_dayHas_35 rfl (lc_S hk1) rfl ?_
      refine e_iconst (w := 2) dX10_dayHas_38 (by decide) ?_
      refine e_iload_n 2 dX10_dayHas_39 rfl rfl ?_
      refine e_imul dX10_dayHas_40 ?_
      refine e_iconst (w := 1) dX10_dayHas_41 (by decide) ?_
      refine e_iadd dX10_dayHas_42 ?_
      refine e_lald hV dX10_dayHas_43 (lc_S_cells hk1) hf (fun v4 hf => ?_)
      refine e_l2i dX10_dayHas_44 ?_
      obtain ⟨r5, hg, hf⟩ := bO_some hf
      refine e_callV (as := [.int (Int64.toInt32 v4)]) (v := (some (.int r5))) (s' := s) hV dX10_dayHas_45 (Or.inl rfl) rfl rfl rfl rfl (Nat.le_of_ble_eq_true rfl) (lc_M (by decide)) rfl rfl (fun Q hQ => tX6_has (d := d) hV (by decide) hg hQ) ?_
      refine e_if_eq 55 dX10_dayHas_48 (by decide) hf (fun hf => ?_) (fun hf => ?_)
      · refine e_iconst (w := 0) dX10_dayHas_55 (by decide) ?_
        cases hf
        exact e_iret dX10_dayHas_56 (Or.inl rfl) hP
      · refine e_iconst (w := 1) dX10_dayHas_51 (by decide) ?_
        refine e_goto 56 dX10_dayHas_52 (by decide) ?_
        cases hf
        exact e_iret dX10_dayHas_56 (Or.inr rfl) hP

theorem dX10_thinkDay_0 : decode cX10_thinkDay 0 = .ok (.aload_n 0, 1) := by decide +kernel
theorem dX10_thinkDay_1 : decode cX10_thinkDay 1 = .ok (.getfield 16, 3) := by decide +kernel
theorem dX10_thinkDay_4 : decode cX10_thinkDay 4 = .ok (.aload_n 0, 1) := by decide +kernel
theorem dX10_thinkDay_5 : decode cX10_thinkDay 5 = .ok (.getfield 10, 3) := by decide +kernel
theorem dX10_thinkDay_8 : decode cX10_thinkDay 8 = .ok (.invokevirtual 197, 3) := by decide +kernel
theorem dX10_thinkDay_11 : decode cX10_thinkDay 11 = .ok (.iconst 0, 1) := by decide +kernel
theorem dX10_thinkDay_12 : decode cX10_thinkDay 12 = .ok (.istore_n 3, 1) := by decide +kernel
theorem dX10_thinkDay_13 : decode cX10_thinkDay 13 = .ok (.iload_n 3, 1) := by decide +kernel
theorem dX10_thinkDay_14 : decode cX10_thinkDay 14 = .ok (.iload_n 2, 1) := by decide +kernel
theorem dX10_thinkDay_15 : decode cX10_thinkDay 15 = .ok (.if_icmp .ge 46, 3) := by decide +kernel
theorem dX10_thinkDay_18 : decode cX10_thinkDay 18 = .ok (.aload_n 0, 1) := by decide +kernel
theorem dX10_thinkDay_19 : decode cX10_thinkDay 19 = .ok (.aload_n 1, 1) := by decide +kernel
theorem dX10_thinkDay_20 : decode cX10_thinkDay 20 = .ok (.iload_n 3, 1) := by decide +kernel
theorem dX10_thinkDay_21 : decode cX10_thinkDay 21 = .ok (.invokevirtual 190, 3) := by decide +kernel
theorem dX10_thinkDay_24 : decode cX10_thinkDay 24 = .ok (.ifCond .eq 37, 3) := by decide +kernel
theorem dX10_thinkDay_27 : decode cX10_thinkDay 27 = .ok (.aload_n 0, 1) := by decide +kernel
theorem dX10_thinkDay_28 : decode cX10_thinkDay 28 = .ok (.aload_n 0, 1) := by decide +kernel
theorem dX10_thinkDay_29 : decode cX10_thinkDay 29 = .ok (.getfield 16, 3) := by decide +kernel
theorem dX10_thinkDay_32 : decode cX10_thinkDay 32 = .ok (.aload_n 1, 1) := by decide +kernel
theorem dX10_thinkDay_33 : decode cX10_thinkDay 33 = .ok (.getfield 117, 3) := by decide +kernel
theorem dX10_thinkDay_36 : decode cX10_thinkDay 36 = .ok (.iconst 2, 1) := by decide +kernel
theorem dX10_thinkDay_37 : decode cX10_thinkDay 37 = .ok (.iload_n 3, 1) := by decide +kernel
theorem dX10_thinkDay_38 : decode cX10_thinkDay 38 = .ok (.imul, 1) := by decide +kernel
theorem dX10_thinkDay_39 : decode cX10_thinkDay 39 = .ok (.laload, 1) := by decide +kernel
theorem dX10_thinkDay_40 : decode cX10_thinkDay 40 = .ok (.l2i, 1) := by decide +kernel
theorem dX10_thinkDay_41 : decode cX10_thinkDay 41 = .ok (.aload_n 1, 1) := by decide +kernel
theorem dX10_thinkDay_42 : decode cX10_thinkDay 42 = .ok (.getfield 117, 3) := by decide +kernel
theorem dX10_thinkDay_45 : decode cX10_thinkDay 45 = .ok (.iconst 2, 1) := by decide +kernel
theorem dX10_thinkDay_46 : decode cX10_thinkDay 46 = .ok (.iload_n 3, 1) := by decide +kernel
theorem dX10_thinkDay_47 : decode cX10_thinkDay 47 = .ok (.imul, 1) := by decide +kernel
theorem dX10_thinkDay_48 : decode cX10_thinkDay 48 = .ok (.iconst 1, 1) := by decide +kernel
theorem dX10_thinkDay_49 : decode cX10_thinkDay 49 = .ok (.iadd, 1) := by decide +kernel
theorem dX10_thinkDay_50 : decode cX10_thinkDay 50 = .ok (.laload, 1) := by decide +kernel
theorem dX10_thinkDay_51 : decode cX10_thinkDay 51 = .ok (.l2i, 1) := by decide +kernel
theorem dX10_thinkDay_52 : decode cX10_thinkDay 52 = .ok (.invokevirtual 254, 3) := by decide +kernel
theorem dX10_thinkDay_55 : decode cX10_thinkDay 55 = .ok (.iinc 3 1, 3) := by decide +kernel
theorem dX10_thinkDay_58 : decode cX10_thinkDay 58 = .ok (.goto (-45), 3) := by decide +kernel
theorem dX10_thinkDay_61 : decode cX10_thinkDay 61 = .ok (.iload_n 3, 1) := by decide +kernel
theorem dX10_thinkDay_62 : decode cX10_thinkDay 62 = .ok (.ireturn, 1) := by decide +kernel
def fX10_thinkDay_b13 : Nat → Nat → Int32 → Int32 → mS → Option (Int32 × mS)
  | 0, _, _, _, _ => none
  | k + 1, k1, y2, y3, s =>
    if y2 ≤ y3 then
      some (y3, s)
    else
      bO (fX10_dayHas k1 y3 s) fun r3 =>
      if r3 = 0 then
        some (y3, s)
      else
        ldL s (lS_cells k1) 60 (2 * y3) fun v4 =>
        ldL s (lS_cells k1) 60 ((2 * y3) + 1) fun v5 =>
        bO (fX10_pass 1 (Int64.toInt32 v4) (Int64.toInt32 v5) s) fun s6 =>
        bnd (y3 + 1) fun v7 =>
        fX10_thinkDay_b13 k k1 y2 v7 s6

def fX10_thinkDay (k1 : Nat) (x2 : Int32) (s : mS) : Option (Int32 × mS) :=
  bO (fX6_copy 1 0 s) fun s1 =>
  bnd 0 fun v2 =>
  fX10_thinkDay_b13 mFu k1 x2 v2 s1

set_option maxRecDepth 20000 in
theorem wX10_thinkDay_b13 {ρ : mRo} {d : Nat} {P : mPo} {V : mS → List mE} (hV : mView LC V)  {res : (Int32 × mS)} (hP : P (some (.int res.1)) (V res.2)) : ∀ (k : Nat) (k1 : Nat) (hk1 : k1 < 6) (y2 : Int32) (y3 : Int32) (s : mS), fX10_thinkDay_b13 k k1 y2 y3 s = some res → mG ρ (mC ρ (d + 2)) 10 4 cX10_thinkDay (some .int) P 13 [(0, .ref qT), (1, .ref (qS k1)), (2, .int y2), (3, .int y3)] [] (V s) := by
  intro k
  induction k with
  | zero => intro k1 hk1 y2 y3 s hf; rw [fX10_thinkDay_b13] at hf; cases hf
  | succ k ih =>
    intro k1 hk1 y2 y3 s hf
    rw [fX10_thinkDay_b13] at hf
    refine e_iload_n 3 dX10_thinkDay_13 rfl rfl ?_
    refine e_iload_n 2 dX10_thinkDay_14 rfl rfl ?_
    refine e_icmp_ge 61 dX10_thinkDay_15 (by decide) hf (fun hf => ?_) (fun hf => ?_)
    · refine e_iload_n 3 dX10_thinkDay_61 rfl rfl ?_
      cases hf
      exact e_iret dX10_thinkDay_62 trivial hP
    · refine e_aload_n 0 dX10_thinkDay_18 rfl rfl ?_
      refine e_aload_n 1 dX10_thinkDay_19 rfl rfl ?_
      refine e_iload_n 3 dX10_thinkDay_20 rfl rfl ?_
      obtain ⟨r3, hg, hf⟩ := bO_some hf
      refine e_callV (as := [.ref (qS k1), .int y3]) (v := (some (.int r3))) (s' := s) hV dX10_thinkDay_21 (Or.inl rfl) rfl rfl rfl rfl (Nat.le_of_ble_eq_true rfl) lc_T rfl rfl (fun Q hQ => tX10_dayHas (d := d) hV hk1 hg hQ) ?_
      refine e_if_eq 61 dX10_thinkDay_24 (by decide) hf (fun hf => ?_) (fun hf => ?_)
      · refine e_iload_n 3 dX10_thinkDay_61 rfl rfl ?_
        cases hf
        exact e_iret dX10_thinkDay_62 trivial hP
      · refine e_aload_n 0 dX10_thinkDay_27 rfl rfl ?_
        refine e_aload_n 0 dX10_thinkDay_28 rfl rfl ?_
        refine e_getr hV dX10_thinkDay_29 rfl lc_T rfl ?_
        refine e_aload_n 1 dX10_thinkDay_32 rfl rfl ?_
        refine e_getr hV dX10_thinkDay_33 rfl (lc_S hk1) rfl ?_
        refine e_iconst (w := 2) dX10_thinkDay_36 (by decide) ?_
        refine e_iload_n 3 dX10_thinkDay_37 rfl rfl ?_
        refine e_imul dX10_thinkDay_38 ?_
        refine e_lald hV dX10_thinkDay_39 (lc_S_cells hk1) hf (fun v4 hf => ?_)
        refine e_l2i dX10_thinkDay_40 ?_
        refine e_aload_n 1 dX10_thinkDay_41 rfl rfl ?_
        refine e_getr hV dX10_thinkDay_42 rfl (lc_S hk1) rfl ?_
        refine e_iconst (w := 2) dX10_thinkDay_45 (by decide) ?_
        refine e_iload_n 3 dX10_thinkDay_46 rfl rfl ?_
        refine e_imul dX10_thinkDay_47 ?_
        refine e_iconst (w := 1) dX10_thinkDay_48 (by decide) ?_
        refine e_iadd dX10_thinkDay_49 ?_
        refine e_lald hV dX10_thinkDay_50 (lc_S_cells hk1) hf (fun v5 hf => ?_)
        refine e_l2i dX10_thinkDay_51 ?_
        obtain ⟨s6, hg, hf⟩ := bO_some hf
        refine e_callV (as := [.ref (qM 1), .int (Int64.toInt32 v4), .int (Int64.toInt32 v5)]) (v := none) (s' := s6) hV dX10_thinkDay_52 (Or.inl rfl) rfl rfl rfl rfl (Nat.le_of_ble_eq_true rfl) lc_T rfl rfl (fun Q hQ => tX10_pass (d := d) hV (by decide) hg hQ) ?_
        refine e_iinc 3 dX10_thinkDay_55 rfl rfl hf (fun v7 hf => ?_)
        refine e_goto 13 dX10_thinkDay_58 (by decide) ?_
        refine e_pick [1, 2, 3, 0] rfl ?_
        exact ih k1 hk1 y2 v7 s6 hf
set_option maxRecDepth 20000 in
theorem tX10_thinkDay {ρ : mRo} {d : Nat} {P : mPo} {V : mS → List mE} (hV : mView LC V)  {k1 : Nat} (hk1 : k1 < 6) {x2 : Int32} {s : mS} {res : (Int32 × mS)} (hf : fX10_thinkDay k1 x2 s = some res) (hP : P (some (.int res.1)) (V res.2)) : mC ρ (d + 3) 124 [.ref qT, .ref (qS k1), .int x2] (V s) P := by
  refine ⟨_, rfl, Nat.le_of_ble_eq_true rfl, by decide, ?_⟩
  show mG ρ (mC ρ (d + 2)) 10 4 cX10_thinkDay (some .int) P 0 [(0, .ref qT), (1, .ref (qS k1)), (2, .int x2)] [] (V s)
  unfold fX10_thinkDay at hf
  refine e_aload_n 0 dX10_thinkDay_0 rfl rfl ?_
  refine e_getr hV dX10_thinkDay_1 rfl lc_T rfl ?_
  refine e_aload_n 0 dX10_thinkDay_4 rfl rfl ?_
  refine e_getr hV dX10_thinkDay_5 rfl lc_T rfl ?_
  obtain ⟨s1, hg, hf⟩ := bO_some hf
  refine e_callV (as := [.ref (qM 0)]) (v := none) (s' := s1) hV dX10_thinkDay_8 (Or.inl rfl) rfl rfl rfl rfl (Nat.le_of_ble_eq_true rfl) (lc_M (by decide)) rfl rfl (fun Q hQ => tX6_copy (d := d) hV (by decide) (by decide) hg hQ) ?_
  refine e_iconst (w := 0) dX10_thinkDay_11 (by decide) ?_
  refine e_istore_n dX10_thinkDay_12 rfl (by decide) hf (fun v2 hf => ?_)
  refine e_pick [1, 2, 3, 0] rfl ?_
  exact wX10_thinkDay_b13 hV hP mFu k1 hk1 x2 v2 s1 hf

theorem dX10_later_0 : decode cX10_later 0 = .ok (.iload_n 2, 1) := by decide +kernel
theorem dX10_later_1 : decode cX10_later 1 = .ok (.ifCond .lt 31, 3) := by decide +kernel
theorem dX10_later_4 : decode cX10_later 4 = .ok (.iload_n 2, 1) := by decide +kernel
theorem dX10_later_5 : decode cX10_later 5 = .ok (.bipush 30, 2) := by decide +kernel
theorem dX10_later_7 : decode cX10_later 7 = .ok (.if_icmp .gt 25, 3) := by decide +kernel
theorem dX10_later_10 : decode cX10_later 10 = .ok (.aload_n 0, 1) := by decide +kernel
theorem dX10_later_11 : decode cX10_later 11 = .ok (.getfield 10, 3) := by decide +kernel
theorem dX10_later_14 : decode cX10_later 14 = .ok (.iload_n 3, 1) := by decide +kernel
theorem dX10_later_15 : decode cX10_later 15 = .ok (.invokevirtual 174, 3) := by decide +kernel
theorem dX10_later_18 : decode cX10_later 18 = .ok (.ifCond .eq 14, 3) := by decide +kernel
theorem dX10_later_21 : decode cX10_later 21 = .ok (.iload 4, 2) := by decide +kernel
theorem dX10_later_23 : decode cX10_later 23 = .ok (.ifCond .lt 9, 3) := by decide +kernel
theorem dX10_later_26 : decode cX10_later 26 = .ok (.iload 4, 2) := by decide +kernel
theorem dX10_later_28 : decode cX10_later 28 = .ok (.iconst 3, 1) := by decide +kernel
theorem dX10_later_29 : decode cX10_later 29 = .ok (.if_icmp .le 5, 3) := by decide +kernel
theorem dX10_later_32 : decode cX10_later 32 = .ok (.iconst (-1), 1) := by decide +kernel
theorem dX10_later_33 : decode cX10_later 33 = .ok (.ireturn, 1) := by decide +kernel
theorem dX10_later_34 : decode cX10_later 34 = .ok (.aload_n 0, 1) := by decide +kernel
theorem dX10_later_35 : decode cX10_later 35 = .ok (.iload_n 1, 1) := by decide +kernel
theorem dX10_later_36 : decode cX10_later 36 = .ok (.iconst 0, 1) := by decide +kernel
theorem dX10_later_37 : decode cX10_later 37 = .ok (.invokevirtual 177, 3) := by decide +kernel
theorem dX10_later_40 : decode cX10_later 40 = .ok (.istore 5, 2) := by decide +kernel
theorem dX10_later_42 : decode cX10_later 42 = .ok (.iload 5, 2) := by decide +kernel
theorem dX10_later_44 : decode cX10_later 44 = .ok (.ifCond .eq 6, 3) := by decide +kernel
theorem dX10_later_47 : decode cX10_later 47 = .ok (.iload 5, 2) := by decide +kernel
theorem dX10_later_49 : decode cX10_later 49 = .ok (.ireturn, 1) := by decide +kernel
theorem dX10_later_50 : decode cX10_later 50 = .ok (.aload_n 0, 1) := by decide +kernel
theorem dX10_later_51 : decode cX10_later 51 = .ok (.aload_n 0, 1) := by decide +kernel
theorem dX10_later_52 : decode cX10_later 52 = .ok (.getfield 42, 3) := by decide +kernel
theorem dX10_later_55 : decode cX10_later 55 = .ok (.iload_n 1, 1) := by decide +kernel
theorem dX10_later_56 : decode cX10_later 56 = .ok (.aaload, 1) := by decide +kernel
theorem dX10_later_57 : decode cX10_later 57 = .ok (.iload_n 2, 1) := by decide +kernel
theorem dX10_later_58 : decode cX10_later 58 = .ok (.invokevirtual 180, 3) := by decide +kernel
theorem dX10_later_61 : decode cX10_later 61 = .ok (.pop, 1) := by decide +kernel
theorem dX10_later_62 : decode cX10_later 62 = .ok (.iload 4, 2) := by decide +kernel
theorem dX10_later_64 : decode cX10_later 64 = .ok (.iconst 3, 1) := by decide +kernel
theorem dX10_later_65 : decode cX10_later 65 = .ok (.if_icmp .ne 15, 3) := by decide +kernel
theorem dX10_later_68 : decode cX10_later 68 = .ok (.aload_n 0, 1) := by decide +kernel
theorem dX10_later_69 : decode cX10_later 69 = .ok (.getfield 16, 3) := by decide +kernel
theorem dX10_later_72 : decode cX10_later 72 = .ok (.getfield 184, 3) := by decide +kernel
theorem dX10_later_75 : decode cX10_later 75 = .ok (.iload_n 3, 1) := by decide +kernel
theorem dX10_later_76 : decode cX10_later 76 = .ok (.iaload, 1) := by decide +kernel
theorem dX10_later_77 : decode cX10_later 77 = .ok (.goto 13, 3) := by decide +kernel
theorem dX10_later_80 : decode cX10_later 80 = .ok (.aload_n 0, 1) := by decide +kernel
theorem dX10_later_81 : decode cX10_later 81 = .ok (.getfield 16, 3) := by decide +kernel
theorem dX10_later_84 : decode cX10_later 84 = .ok (.iload_n 3, 1) := by decide +kernel
theorem dX10_later_85 : decode cX10_later 85 = .ok (.iload 4, 2) := by decide +kernel
theorem dX10_later_87 : decode cX10_later 87 = .ok (.invokevirtual 187, 3) := by decide +kernel
theorem dX10_later_90 : decode cX10_later 90 = .ok (.ireturn, 1) := by decide +kernel
def fX10_later (x1 : Int32) (x2 : Int32) (x3 : Int32) (x4 : Int32) (s : mS) : Option (Int32 × mS) :=
  if x2 < 0 then
    some ((-1), s)
  else
    if 30 < x2 then
      some ((-1), s)
    else
      bO (fX6_has 0 x3 s) fun r1 =>
      if r1 = 0 then
        some ((-1), s)
      else
        if x4 < 0 then
          some ((-1), s)
        else
          if x4 ≤ 3 then
            bO (fX10_rowRefusal x1 0 s) fun r2 =>
            bnd r2 fun v3 =>
            if v3 = 0 then
              ldS 6 x1 fun j4 =>
              bP (fX10_thinkDay j4 x2 s) fun r5 s6 =>
              if x4 = 3 then
                ldA s6 (aM_ages 1) 8 x3 fun v8 =>
                some (v8, s6)
              else
                bO (fX6_pull 1 x3 x4 s6) fun r7 =>
                some (r7, s6)
            else
              some (v3, s)
          else
            some ((-1), s)

set_option maxRecDepth 20000 in
theorem tX10_later {ρ : mRo} {d : Nat} {P : mPo} {V : mS → List mE} (hV : mView LC V)  {x1 : Int32} {x2 : Int32} {x3 : Int32} {x4 : Int32} {s : mS} {res : (Int32 × mS)} (hf : fX10_later x1 x2 x3 x4 s = some res) (hP : P (some (.int res.1)) (V res.2)) : mC ρ (d + 4) 72 [.ref qT, .int x1, .int x2, .int x3, .int x4] (V s) P := by
  refine ⟨_, rfl, Nat.le_of_ble_eq_true rfl, by decide, ?_⟩
  show mG ρ (mC ρ (d + 3)) 10 6 cX10_later (some .int) P 0 [(0, .ref qT), (1, .int x1), (2, .int x2), (3, .int x3), (4, .int x4)] [] (V s)
  unfold fX10_later at hf
  refine e_iload_n 2 dX10_later_0 rfl rfl ?_
  refine e_if_lt 32 dX10_later_1 (by decide) hf (fun hf => ?_) (fun hf => ?_)
  · refine e_iconst (w := (-1)) dX10_later_32 (by decide) ?_
    cases hf
    exact e_iret dX10_later_33 trivial hP
  · refine e_iload_n 2 dX10_later_4 rfl rfl ?_
    refine e_bipush (w := 30) dX10_later_5 (by decide) ?_
    refine e_icmp_gt 32 dX10_later_7 (by decide) hf (fun hf => ?_) (fun hf => ?_)
    · refine e_iconst (w := (-1)) dX10_later_32 (by decide) ?_
      cases hf
      exact e_iret dX10_later_33 trivial hP
    · refine e_aload_n 0 dX10_later_10 rfl rfl ?_
      refine e_getr hV dX10_later_11 rfl lc_T rfl ?_
      refine e_iload_n 3 dX10_later_14 rfl rfl ?_
      obtain ⟨r1, hg, hf⟩ := bO_some hf
      refine e_callV (as := [.int x3]) (v := (some (.int r1))) (s' := s) hV dX10_later_15 (Or.inl rfl) rfl rfl rfl rfl (Nat.le_of_ble_eq_true rfl) (lc_M (by decide)) rfl rfl (fun Q hQ => tX6_has (d := (d + 2)) hV (by decide) hg hQ) ?_
      refine e_if_eq 32 dX10_later_18 (by decide) hf (fun hf => ?_) (fun hf => ?_)
      · refine e_iconst (w := (-1)) dX10_later_32 (by decide) ?_
        cases hf
        exact e_iret dX10_later_33 trivial hP
      · refine e_iload 4 dX10_later_21 rfl ?_
        refine e_if_lt 32 dX10_later_23 (by decide) hf (fun hf => ?_) (fun hf => ?_)
        · refine e_iconst (w := (-1)) dX10_later_32 (by decide) ?_
          cases hf
          exact e_iret dX10_later_33 trivial hP
        · refine e_iload 4 dX10_later_26 rfl ?_
          refine e_iconst (w := 3) dX10_later_28 (by decide) ?_
          refine e_icmp_le 34 dX10_later_29 (by decide) hf (fun hf => ?_) (fun hf => ?_)
          · refine e_aload_n 0 dX10_later_34 rfl rfl ?_
            refine e_iload_n 1 dX10_later_35 rfl rfl ?_
            refine e_iconst (w := 0) dX10_later_36 (by decide) ?_
            obtain ⟨r2, hg, hf⟩ := bO_some hf
            refine e_callV (as := [.int x1, .int 0]) (v := (some (.int r2))) (s' := s) hV dX10_later_37 (Or.inl rfl) rfl rfl rfl rfl (Nat.le_of_ble_eq_true rfl) lc_T rfl rfl (fun Q hQ => tX10_rowRefusal (d := (d + 1)) hV  hg hQ) ?_
            refine e_istore dX10_later_40 (by decide) hf (fun v3 hf => ?_)
            refine e_iload 0 dX10_later_42 rfl ?_
            refine e_if_eq 50 dX10_later_44 (by decide) hf (fun hf => ?_) (fun hf => ?_)
            · refine e_aload_n 1 dX10_later_50 rfl rfl ?_
              refine e_aload_n 1 dX10_later_51 rfl rfl ?_
              refine e_getr hV dX10_later_52 rfl lc_T rfl ?_
              refine e_iload_n 2 dX10_later_55 rfl rfl ?_
              refine e_aald hV dX10_later_56 lc_T_shelves rfl lc_T_shelves_at hf (fun j4 hj4 hf => ?_)
              refine e_iload_n 3 dX10_later_57 rfl rfl ?_
              obtain ⟨r5, s6, hg, hf⟩ := bP_some hf
              refine e_callV (as := [.ref (qS j4), .int x2]) (v := (some (.int r5))) (s' := s6) hV dX10_later_58 (Or.inl rfl) rfl rfl rfl rfl (Nat.le_of_ble_eq_true rfl) lc_T rfl rfl (fun Q hQ => tX10_thinkDay (d := d) hV hj4 hg hQ) ?_
              refine e_pop dX10_later_61 rfl ?_
              refine e_iload 5 dX10_later_62 rfl ?_
              refine e_iconst (w := 3) dX10_later_64 (by decide) ?_
              refine e_icmp_ne 80 dX10_later_65 (by decide) hf (fun hf => ?_) (fun hf => ?_)
              · refine e_aload_n 1 dX10_later_80 rfl rfl ?_
                refine e_getr hV dX10_later_81 rfl lc_T rfl ?_
                refine e_iload_n 4 dX10_later_84 rfl rfl ?_
                refine e_iload 5 dX10_later_85 rfl ?_
                obtain ⟨r7, hg, hf⟩ := bO_some hf
                refine e_callV (as := [.int x3, .int x4]) (v := (some (.int r7))) (s' := s6) hV dX10_later_87 (Or.inl rfl) rfl rfl rfl rfl (Nat.le_of_ble_eq_true rfl) (lc_M (by decide)) rfl rfl (fun Q hQ => tX6_pull (d := (d + 2)) hV (by decide) hg hQ) ?_
                cases hf
                exact e_iret dX10_later_90 trivial hP
              · refine e_aload_n 1 dX10_later_68 rfl rfl ?_
                refine e_getr hV dX10_later_69 rfl lc_T rfl ?_
                refine e_getr hV dX10_later_72 rfl (lc_M (by decide)) rfl ?_
                refine e_iload_n 4 dX10_later_75 rfl rfl ?_
                refine e_iald hV dX10_later_76 (lc_M_ages (by decide)) hf (fun v8 hf => ?_)
                refine e_goto 90 dX10_later_77 (by decide) ?_
                cases hf
                exact e_iret dX10_later_90 trivial hP
            · refine e_iload 0 dX10_later_47 rfl ?_
              cases hf
              exact e_iret dX10_later_49 trivial hP
          · refine e_iconst (w := (-1)) dX10_later_32 (by decide) ?_
            cases hf
            exact e_iret dX10_later_33 trivial hP

theorem dX10_shownCode_0 : decode cX10_shownCode 0 = .ok (.aload_n 0, 1) := by decide +kernel
theorem dX10_shownCode_1 : decode cX10_shownCode 1 = .ok (.aload_n 1, 1) := by decide +kernel
theorem dX10_shownCode_2 : decode cX10_shownCode 2 = .ok (.iload_n 2, 1) := by decide +kernel
theorem dX10_shownCode_3 : decode cX10_shownCode 3 = .ok (.iload_n 3, 1) := by decide +kernel
theorem dX10_shownCode_4 : decode cX10_shownCode 4 = .ok (.iconst 0, 1) := by decide +kernel
theorem dX10_shownCode_5 : decode cX10_shownCode 5 = .ok (.invokevirtual 167, 3) := by decide +kernel
theorem dX10_shownCode_8 : decode cX10_shownCode 8 = .ok (.aload_n 0, 1) := by decide +kernel
theorem dX10_shownCode_9 : decode cX10_shownCode 9 = .ok (.aload_n 1, 1) := by decide +kernel
theorem dX10_shownCode_10 : decode cX10_shownCode 10 = .ok (.iload_n 2, 1) := by decide +kernel
theorem dX10_shownCode_11 : decode cX10_shownCode 11 = .ok (.iload_n 3, 1) := by decide +kernel
theorem dX10_shownCode_12 : decode cX10_shownCode 12 = .ok (.iconst 1, 1) := by decide +kernel
theorem dX10_shownCode_13 : decode cX10_shownCode 13 = .ok (.invokevirtual 167, 3) := by decide +kernel
theorem dX10_shownCode_16 : decode cX10_shownCode 16 = .ok (.aload_n 0, 1) := by decide +kernel
theorem dX10_shownCode_17 : decode cX10_shownCode 17 = .ok (.aload_n 1, 1) := by decide +kernel
theorem dX10_shownCode_18 : decode cX10_shownCode 18 = .ok (.iload_n 2, 1) := by decide +kernel
theorem dX10_shownCode_19 : decode cX10_shownCode 19 = .ok (.iload_n 3, 1) := by decide +kernel
theorem dX10_shownCode_20 : decode cX10_shownCode 20 = .ok (.iconst 2, 1) := by decide +kernel
theorem dX10_shownCode_21 : decode cX10_shownCode 21 = .ok (.invokevirtual 167, 3) := by decide +kernel
theorem dX10_shownCode_24 : decode cX10_shownCode 24 = .ok (.invokestatic 441, 3) := by decide +kernel
theorem dX10_shownCode_27 : decode cX10_shownCode 27 = .ok (.ireturn, 1) := by decide +kernel
def fX10_shownCode (k1 : Nat) (x2 : Int32) (x3 : Int32) (s : mS) : Option (Int32 × mS) :=
  bP (fX10_shown k1 x2 x3 0 s) fun r1 s2 =>
  bP (fX10_shown k1 x2 x3 1 s2) fun r3 s4 =>
  bP (fX10_shown k1 x2 x3 2 s4) fun r5 s6 =>
  bO (fX2_code r1 r3 r5 s6) fun r7 =>
  some (r7, s6)

set_option maxRecDepth 20000 in
theorem tX10_shownCode {ρ : mRo} {d : Nat} {P : mPo} {V : mS → List mE} (hV : mView LC V)  {k1 : Nat} (hk1 : k1 < 3) {x2 : Int32} {x3 : Int32} {s : mS} {res : (Int32 × mS)} (hf : fX10_shownCode k1 x2 x3 s = some res) (hP : P (some (.int res.1)) (V res.2)) : mC ρ (d + 6) 121 [.ref qT, .ref (qM k1), .int x2, .int x3] (V s) P := by
  refine ⟨_, rfl, Nat.le_of_ble_eq_true rfl, by decide, ?_⟩
  show mG ρ (mC ρ (d + 5)) 10 4 cX10_shownCode (some .int) P 0 [(0, .ref qT), (1, .ref (qM k1)), (2, .int x2), (3, .int x3)] [] (V s)
  unfold fX10_shownCode at hf
  refine e_aload_n 0 dX10_shownCode_0 rfl rfl ?_
  refine e_aload_n 1 dX10_shownCode_1 rfl rfl ?_
  refine e_iload_n 2 dX10_shownCode_2 rfl rfl ?_
  refine e_iload_n 3 dX10_shownCode_3 rfl rfl ?_
  refine e_iconst (w := 0) dX10_shownCode_4 (by decide) ?_
  obtain ⟨r1, s2, hg, hf⟩ := bP_some hf
  refine e_callV (as := [.ref (qM k1), .int x2, .int x3, .int 0]) (v := (some (.int r1))) (s' := s2) hV dX10_shownCode_5 (Or.inl rfl) rfl rfl rfl rfl (Nat.le_of_ble_eq_true rfl) lc_T rfl rfl (fun Q hQ => tX10_shown (d := d) hV hk1 hg hQ) ?_
  refine e_aload_n 0 dX10_shownCode_8 rfl rfl ?_
  refine e_aload_n 1 dX10_shownCode_9 rfl rfl ?_
  refine e_iload_n 2 dX10_shownCode_10 rfl rfl ?_
  refine e_iload_n 3 dX10_shownCode_11 rfl rfl ?_
  refine e_iconst (w := 1) dX10_shownCode_12 (by decide) ?_
  obtain ⟨r3, s4, hg, hf⟩ := bP_some hf
  refine e_callV (as := [.ref (qM k1), .int x2, .int x3, .int 1]) (v := (some (.int r3))) (s' := s4) hV dX10_shownCode_13 (Or.inl rfl) rfl rfl rfl rfl (Nat.le_of_ble_eq_true rfl) lc_T rfl rfl (fun Q hQ => tX10_shown (d := d) hV hk1 hg hQ) ?_
  refine e_aload_n 0 dX10_shownCode_16 rfl rfl ?_
  refine e_aload_n 1 dX10_shownCode_17 rfl rfl ?_
  refine e_iload_n 2 dX10_shownCode_18 rfl rfl ?_
  refine e_iload_n 3 dX10_shownCode_19 rfl rfl ?_
  refine e_iconst (w := 2) dX10_shownCode_20 (by decide) ?_
  obtain ⟨r5, s6, hg, hf⟩ := bP_some hf
  refine e_callV (as := [.ref (qM k1), .int x2, .int x3, .int 2]) (v := (some (.int r5))) (s' := s6) hV dX10_shownCode_21 (Or.inl rfl) rfl rfl rfl rfl (Nat.le_of_ble_eq_true rfl) lc_T rfl rfl (fun Q hQ => tX10_shown (d := d) hV hk1 hg hQ) ?_
  obtain ⟨r7, hg, hf⟩ := bO_some hf
  refine e_callS (as := [.int r1, .int r3, .int r5]) (v := (some (.int r7))) (s' := s6) dX10_shownCode_24 rfl rfl rfl rfl rfl (Nat.le_of_ble_eq_true rfl) (fun Q hQ => tX2_code (d := (d + 4)) hV  hg hQ) ?_
  cases hf
  exact e_iret dX10_shownCode_27 trivial hP

theorem dX10_letter_0 : decode cX10_letter 0 = .ok (.iload_n 2, 1) := by decide +kernel
theorem dX10_letter_1 : decode cX10_letter 1 = .ok (.iconst (-1), 1) := by decide +kernel
theorem dX10_letter_2 : decode cX10_letter 2 = .ok (.if_icmp .ge 5, 3) := by decide +kernel
theorem dX10_letter_5 : decode cX10_letter 5 = .ok (.iconst (-1), 1) := by decide +kernel
theorem dX10_letter_6 : decode cX10_letter 6 = .ok (.ireturn, 1) := by decide +kernel
theorem dX10_letter_7 : decode cX10_letter 7 = .ok (.aload_n 0, 1) := by decide +kernel
theorem dX10_letter_8 : decode cX10_letter 8 = .ok (.iload_n 1, 1) := by decide +kernel
theorem dX10_letter_9 : decode cX10_letter 9 = .ok (.iconst 0, 1) := by decide +kernel
theorem dX10_letter_10 : decode cX10_letter 10 = .ok (.invokevirtual 177, 3) := by decide +kernel
theorem dX10_letter_13 : decode cX10_letter 13 = .ok (.istore_n 3, 1) := by decide +kernel
theorem dX10_letter_14 : decode cX10_letter 14 = .ok (.iload_n 3, 1) := by decide +kernel
theorem dX10_letter_15 : decode cX10_letter 15 = .ok (.ifCond .eq 5, 3) := by decide +kernel
theorem dX10_letter_18 : decode cX10_letter 18 = .ok (.iload_n 3, 1) := by decide +kernel
theorem dX10_letter_19 : decode cX10_letter 19 = .ok (.ireturn, 1) := by decide +kernel
theorem dX10_letter_20 : decode cX10_letter 20 = .ok (.aload_n 0, 1) := by decide +kernel
theorem dX10_letter_21 : decode cX10_letter 21 = .ok (.getfield 42, 3) := by decide +kernel
theorem dX10_letter_24 : decode cX10_letter 24 = .ok (.iload_n 1, 1) := by decide +kernel
theorem dX10_letter_25 : decode cX10_letter 25 = .ok (.aaload, 1) := by decide +kernel
theorem dX10_letter_26 : decode cX10_letter 26 = .ok (.astore 4, 2) := by decide +kernel
theorem dX10_letter_28 : decode cX10_letter 28 = .ok (.iload_n 2, 1) := by decide +kernel
theorem dX10_letter_29 : decode cX10_letter 29 = .ok (.iconst (-1), 1) := by decide +kernel
theorem dX10_letter_30 : decode cX10_letter 30 = .ok (.if_icmp .ne 12, 3) := by decide +kernel
theorem dX10_letter_33 : decode cX10_letter 33 = .ok (.aload_n 0, 1) := by decide +kernel
theorem dX10_letter_34 : decode cX10_letter 34 = .ok (.aload 4, 2) := by decide +kernel
theorem dX10_letter_36 : decode cX10_letter 36 = .ok (.bipush 30, 2) := by decide +kernel
theorem dX10_letter_38 : decode cX10_letter 38 = .ok (.invokevirtual 180, 3) := by decide +kernel
theorem dX10_letter_41 : decode cX10_letter 41 = .ok (.ireturn, 1) := by decide +kernel
theorem dX10_letter_42 : decode cX10_letter 42 = .ok (.iload_n 2, 1) := by decide +kernel
theorem dX10_letter_43 : decode cX10_letter 43 = .ok (.bipush 30, 2) := by decide +kernel
theorem dX10_letter_45 : decode cX10_letter 45 = .ok (.if_icmp .ge 24, 3) := by decide +kernel
theorem dX10_letter_48 : decode cX10_letter 48 = .ok (.aload_n 0, 1) := by decide +kernel
theorem dX10_letter_49 : decode cX10_letter 49 = .ok (.aload 4, 2) := by decide +kernel
theorem dX10_letter_51 : decode cX10_letter 51 = .ok (.iload_n 2, 1) := by decide +kernel
theorem dX10_letter_52 : decode cX10_letter 52 = .ok (.invokevirtual 180, 3) := by decide +kernel
theorem dX10_letter_55 : decode cX10_letter 55 = .ok (.iload_n 2, 1) := by decide +kernel
theorem dX10_letter_56 : decode cX10_letter 56 = .ok (.if_icmp .lt 13, 3) := by decide +kernel
theorem dX10_letter_59 : decode cX10_letter 59 = .ok (.aload_n 0, 1) := by decide +kernel
theorem dX10_letter_60 : decode cX10_letter 60 = .ok (.aload 4, 2) := by decide +kernel
theorem dX10_letter_62 : decode cX10_letter 62 = .ok (.iload_n 2, 1) := by decide +kernel
theorem dX10_letter_63 : decode cX10_letter 63 = .ok (.invokevirtual 190, 3) := by decide +kernel
theorem dX10_letter_66 : decode cX10_letter 66 = .ok (.ifCond .ne 6, 3) := by decide +kernel
theorem dX10_letter_69 : decode cX10_letter 69 = .ok (.bipush (-2), 2) := by decide +kernel
theorem dX10_letter_71 : decode cX10_letter 71 = .ok (.ireturn, 1) := by decide +kernel
theorem dX10_letter_72 : decode cX10_letter 72 = .ok (.aload_n 0, 1) := by decide +kernel
theorem dX10_letter_73 : decode cX10_letter 73 = .ok (.aload_n 0, 1) := by decide +kernel
theorem dX10_letter_74 : decode cX10_letter 74 = .ok (.getfield 16, 3) := by decide +kernel
theorem dX10_letter_77 : decode cX10_letter 77 = .ok (.aload 4, 2) := by decide +kernel
theorem dX10_letter_79 : decode cX10_letter 79 = .ok (.getfield 117, 3) := by decide +kernel
theorem dX10_letter_82 : decode cX10_letter 82 = .ok (.iconst 2, 1) := by decide +kernel
theorem dX10_letter_83 : decode cX10_letter 83 = .ok (.iload_n 2, 1) := by decide +kernel
theorem dX10_letter_84 : decode cX10_letter 84 = .ok (.imul, 1) := by decide +kernel
theorem dX10_letter_85 : decode cX10_letter 85 = .ok (.laload, 1) := by decide +kernel
theorem dX10_letter_86 : decode cX10_letter 86 = .ok (.l2i, 1) := by decide +kernel
theorem dX10_letter_87 : decode cX10_letter 87 = .ok (.aload 4, 2) := by decide +kernel
theorem dX10_letter_89 : decode cX10_letter 89 = .ok (.getfield 117, 3) := by decide +kernel
theorem dX10_letter_92 : decode cX10_letter 92 = .ok (.iconst 2, 1) := by decide +kernel
theorem dX10_letter_93 : decode cX10_letter 93 = .ok (.iload_n 2, 1) := by decide +kernel
theorem dX10_letter_94 : decode cX10_letter 94 = .ok (.imul, 1) := by decide +kernel
theorem dX10_letter_95 : decode cX10_letter 95 = .ok (.iconst 1, 1) := by decide +kernel
theorem dX10_letter_96 : decode cX10_letter 96 = .ok (.iadd, 1) := by decide +kernel
theorem dX10_letter_97 : decode cX10_letter 97 = .ok (.laload, 1) := by decide +kernel
theorem dX10_letter_98 : decode cX10_letter 98 = .ok (.l2i, 1) := by decide +kernel
theorem dX10_letter_99 : decode cX10_letter 99 = .ok (.invokevirtual 193, 3) := by decide +kernel
theorem dX10_letter_102 : decode cX10_letter 102 = .ok (.ireturn, 1) := by decide +kernel
def fX10_letter (x1 : Int32) (x2 : Int32) (s : mS) : Option (Int32 × mS) :=
  if (-1) ≤ x2 then
    bO (fX10_rowRefusal x1 0 s) fun r1 =>
    bnd r1 fun v2 =>
    if v2 = 0 then
      ldS 6 x1 fun j3 =>
      if x2 = (-1) then
        bP (fX10_thinkDay j3 30 s) fun r11 s12 =>
        some (r11, s12)
      else
        if 30 ≤ x2 then
          some ((-2), s)
        else
          bP (fX10_thinkDay j3 x2 s) fun r4 s5 =>
          if r4 < x2 then
            some ((-2), s5)
          else
            bO (fX10_dayHas j3 x2 s5) fun r6 =>
            if r6 = 0 then
              some ((-2), s5)
            else
              ldL s5 (lS_cells j3) 60 (2 * x2) fun v7 =>
              ldL s5 (lS_cells j3) 60 ((2 * x2) + 1) fun v8 =>
              bP (fX10_shownCode 1 (Int64.toInt32 v7) (Int64.toInt32 v8) s5) fun r9 s10 =>
              some (r9, s10)
    else
      some (v2, s)
  else
    some ((-1), s)

set_option maxRecDepth 20000 in
theorem tX10_letter {ρ : mRo} {d : Nat} {P : mPo} {V : mS → List mE} (hV : mView LC V)  {x1 : Int32} {x2 : Int32} {s : mS} {res : (Int32 × mS)} (hf : fX10_letter x1 x2 s = some res) (hP : P (some (.int res.1)) (V res.2)) : mC ρ (d + 7) 73 [.ref qT, .int x1, .int x2] (V s) P := by
  refine ⟨_, rfl, Nat.le_of_ble_eq_true rfl, by decide, ?_⟩
  show mG ρ (mC ρ (d + 6)) 10 5 cX10_letter (some .int) P 0 [(0, .ref qT), (1, .int x1), (2, .int x2)] [] (V s)
  unfold fX10_letter at hf
  refine e_iload_n 2 dX10_letter_0 rfl rfl ?_
  refine e_iconst (w := (-1)) dX10_letter_1 (by decide) ?_
  refine e_icmp_ge 7 dX10_letter_2 (by decide) hf (fun hf => ?_) (fun hf => ?_)
  · refine e_aload_n 0 dX10_letter_7 rfl rfl ?_
    refine e_iload_n 1 dX10_letter_8 rfl rfl ?_
    refine e_iconst (w := 0) dX10_letter_9 (by decide) ?_
    obtain ⟨r1, hg, hf⟩ := bO_some hf
    refine e_callV (as := [.int x1, .int 0]) (v := (some (.int r1))) (s' := s) hV dX10_letter_10 (Or.inl rfl) rfl rfl rfl rfl (Nat.le_of_ble_eq_true rfl) lc_T rfl rfl (fun Q hQ => tX10_rowRefusal (d := (d + 4)) hV  hg hQ) ?_
    refine e_istore_n dX10_letter_13 rfl (by decide) hf (fun v2 hf => ?_)
    refine e_iload_n 0 dX10_letter_14 rfl rfl ?_
    refine e_if_eq 20 dX10_letter_15 (by decide) hf (fun hf => ?_) (fun hf => ?_)
    · refine e_aload_n 1 dX10_letter_20 rfl rfl ?_
      refine e_getr hV dX10_letter_21 rfl lc_T rfl ?_
      refine e_iload_n 2 dX10_letter_24 rfl rfl ?_
      refine e_aald hV dX10_letter_25 lc_T_shelves rfl lc_T_shelves_at hf (fun j3 hj3 hf => ?_)
      refine e_astore dX10_letter_26 (by decide) ?_
      refine e_iload_n 4 dX10_letter_28 rfl rfl ?_
      refine e_iconst (w := (-1)) dX10_letter_29 (by decide) ?_
      refine e_icmp_ne 42 dX10_letter_30 (by decide) hf (fun hf => ?_) (fun hf => ?_)
      · refine e_iload_n 4 dX10_letter_42 rfl rfl ?_
        refine e_bipush (w := 30) dX10_letter_43 (by decide) ?_
        refine e_icmp_ge 69 dX10_letter_45 (by decide) hf (fun hf => ?_) (fun hf => ?_)
        · refine e_bipush (w := (-2)) dX10_letter_69 (by decide) ?_
          cases hf
          exact e_iret dX10_letter_71 trivial hP
        · refine e_aload_n 2 dX10_letter_48 rfl rfl ?_
          refine e_aload 0 dX10_letter_49 rfl ?_
          refine e_iload_n 4 dX10_letter_51 rfl rfl ?_
          obtain ⟨r4, s5, hg, hf⟩ := bP_some hf
          refine e_callV (as := [.ref (qS j3), .int x2]) (v := (some (.int r4))) (s' := s5) hV dX10_letter_52 (Or.inl rfl) rfl rfl rfl rfl (Nat.le_of_ble_eq_true rfl) lc_T rfl rfl (fun Q hQ => tX10_thinkDay (d := (d + 3)) hV hj3 hg hQ) ?_
          refine e_iload_n 4 dX10_letter_55 rfl rfl ?_
          refine e_icmp_lt 69 dX10_letter_56 (by decide) hf (fun hf => ?_) (fun hf => ?_)
          · refine e_bipush (w := (-2)) dX10_letter_69 (by decide) ?_
            cases hf
            exact e_iret dX10_letter_71 trivial hP
          · refine e_aload_n 2 dX10_letter_59 rfl rfl ?_
            refine e_aload 0 dX10_letter_60 rfl ?_
            refine e_iload_n 4 dX10_letter_62 rfl rfl ?_
            obtain ⟨r6, hg, hf⟩ := bO_some hf
            refine e_callV (as := [.ref (qS j3), .int x2]) (v := (some (.int r6))) (s' := s5) hV dX10_letter_63 (Or.inl rfl) rfl rfl rfl rfl (Nat.le_of_ble_eq_true rfl) lc_T rfl rfl (fun Q hQ => tX10_dayHas (d := (d + 4)) hV hj3 hg hQ) ?_
            refine e_if_ne 72 dX10_letter_66 (by decide) hf (fun hf => ?_) (fun hf => ?_)
            · refine e_aload_n 2 dX10_letter_72 rfl rfl ?_
              refine e_aload_n 2 dX10_letter_73 rfl rfl ?_
              refine e_getr hV dX10_letter_74 rfl lc_T rfl ?_
              refine e_aload 0 dX10_letter_77 rfl ?_
              refine e_getr hV dX10_letter_79 rfl (lc_S hj3) rfl ?_
              refine e_iconst (w := 2) dX10_letter_82 (by decide) ?_
              refine e_iload_n 4 dX10_letter_83 rfl rfl ?_
              refine e_imul dX10_letter_84 ?_
              refine e_lald hV dX10_letter_85 (lc_S_cells hj3) hf (fun v7 hf => ?_)
              refine e_l2i dX10_letter_86 ?_
              refine e_aload 0 dX10_letter_87 rfl ?_
              refine e_getr hV dX10_letter_89 rfl (lc_S hj3) rfl ?_
              refine e_iconst (w := 2) dX10_letter_92 (by decide) ?_
              refine e_iload_n 4 dX10_letter_93 rfl rfl ?_
              refine e_imul dX10_letter_94 ?_
              refine e_iconst (w := 1) dX10_letter_95 (by decide) ?_
              refine e_iadd dX10_letter_96 ?_
              refine e_lald hV dX10_letter_97 (lc_S_cells hj3) hf (fun v8 hf => ?_)
              refine e_l2i dX10_letter_98 ?_
              obtain ⟨r9, s10, hg, hf⟩ := bP_some hf
              refine e_callV (as := [.ref (qM 1), .int (Int64.toInt32 v7), .int (Int64.toInt32 v8)]) (v := (some (.int r9))) (s' := s10) hV dX10_letter_99 (Or.inl rfl) rfl rfl rfl rfl (Nat.le_of_ble_eq_true rfl) lc_T rfl rfl (fun Q hQ => tX10_shownCode (d := d) hV (by decide) hg hQ) ?_
              cases hf
              exact e_iret dX10_letter_102 trivial hP
            · refine e_bipush (w := (-2)) dX10_letter_69 (by decide) ?_
              cases hf
              exact e_iret dX10_letter_71 trivial hP
      · refine e_aload_n 2 dX10_letter_33 rfl rfl ?_
        refine e_aload 0 dX10_letter_34 rfl ?_
        refine e_bipush (w := 30) dX10_letter_36 (by decide) ?_
        obtain ⟨r11, s12, hg, hf⟩ := bP_some hf
        refine e_callV (as := [.ref (qS j3), .int 30]) (v := (some (.int r11))) (s' := s12) hV dX10_letter_38 (Or.inl rfl) rfl rfl rfl rfl (Nat.le_of_ble_eq_true rfl) lc_T rfl rfl (fun Q hQ => tX10_thinkDay (d := (d + 3)) hV hj3 hg hQ) ?_
        cases hf
        exact e_iret dX10_letter_41 trivial hP
    · refine e_iload_n 0 dX10_letter_18 rfl rfl ?_
      cases hf
      exact e_iret dX10_letter_19 trivial hP
  · refine e_iconst (w := (-1)) dX10_letter_5 (by decide) ?_
    cases hf
    exact e_iret dX10_letter_6 trivial hP

theorem dX10_playRound_0 : decode cX10_playRound 0 = .ok (.aload_n 0, 1) := by decide +kernel
theorem dX10_playRound_1 : decode cX10_playRound 1 = .ok (.getfield 16, 3) := by decide +kernel
theorem dX10_playRound_4 : decode cX10_playRound 4 = .ok (.invokevirtual 444, 3) := by decide +kernel
theorem dX10_playRound_7 : decode cX10_playRound 7 = .ok (.iconst 0, 1) := by decide +kernel
theorem dX10_playRound_8 : decode cX10_playRound 8 = .ok (.istore_n 2, 1) := by decide +kernel
theorem dX10_playRound_9 : decode cX10_playRound 9 = .ok (.iload_n 2, 1) := by decide +kernel
theorem dX10_playRound_10 : decode cX10_playRound 10 = .ok (.bipush 30, 2) := by decide +kernel
theorem dX10_playRound_12 : decode cX10_playRound 12 = .ok (.if_icmp .ge 46, 3) := by decide +kernel
theorem dX10_playRound_15 : decode cX10_playRound 15 = .ok (.aload_n 0, 1) := by decide +kernel
theorem dX10_playRound_16 : decode cX10_playRound 16 = .ok (.aload_n 1, 1) := by decide +kernel
theorem dX10_playRound_17 : decode cX10_playRound 17 = .ok (.iload_n 2, 1) := by decide +kernel
theorem dX10_playRound_18 : decode cX10_playRound 18 = .ok (.invokevirtual 190, 3) := by decide +kernel
theorem dX10_playRound_21 : decode cX10_playRound 21 = .ok (.ifCond .eq 37, 3) := by decide +kernel
theorem dX10_playRound_24 : decode cX10_playRound 24 = .ok (.aload_n 0, 1) := by decide +kernel
theorem dX10_playRound_25 : decode cX10_playRound 25 = .ok (.aload_n 0, 1) := by decide +kernel
theorem dX10_playRound_26 : decode cX10_playRound 26 = .ok (.getfield 16, 3) := by decide +kernel
theorem dX10_playRound_29 : decode cX10_playRound 29 = .ok (.aload_n 1, 1) := by decide +kernel
theorem dX10_playRound_30 : decode cX10_playRound 30 = .ok (.getfield 117, 3) := by decide +kernel
theorem dX10_playRound_33 : decode cX10_playRound 33 = .ok (.iconst 2, 1) := by decide +kernel
theorem dX10_playRound_34 : decode cX10_playRound 34 = .ok (.iload_n 2, 1) := by decide +kernel
theorem dX10_playRound_35 : decode cX10_playRound 35 = .ok (.imul, 1) := by decide +kernel
theorem dX10_playRound_36 : decode cX10_playRound 36 = .ok (.laload, 1) := by decide +kernel
theorem dX10_playRound_37 : decode cX10_playRound 37 = .ok (.l2i, 1) := by decide +kernel
theorem dX10_playRound_38 : decode cX10_playRound 38 = .ok (.aload_n 1, 1) := by decide +kernel
theorem dX10_playRound_39 : decode cX10_playRound 39 = .ok (.getfield 117, 3) := by decide +kernel
theorem dX10_playRound_42 : decode cX10_playRound 42 = .ok (.iconst 2, 1) := by decide +kernel
theorem dX10_playRound_43 : decode cX10_playRound 43 = .ok (.iload_n 2, 1) := by decide +kernel
theorem dX10_playRound_44 : decode cX10_playRound 44 = .ok (.imul, 1) := by decide +kernel
theorem dX10_playRound_45 : decode cX10_playRound 45 = .ok (.iconst 1, 1) := by decide +kernel
theorem dX10_playRound_46 : decode cX10_playRound 46 = .ok (.iadd, 1) := by decide +kernel
theorem dX10_playRound_47 : decode cX10_playRound 47 = .ok (.laload, 1) := by decide +kernel
theorem dX10_playRound_48 : decode cX10_playRound 48 = .ok (.l2i, 1) := by decide +kernel
theorem dX10_playRound_49 : decode cX10_playRound 49 = .ok (.invokevirtual 254, 3) := by decide +kernel
theorem dX10_playRound_52 : decode cX10_playRound 52 = .ok (.iinc 2 1, 3) := by decide +kernel
theorem dX10_playRound_55 : decode cX10_playRound 55 = .ok (.goto (-46), 3) := by decide +kernel
theorem dX10_playRound_58 : decode cX10_playRound 58 = .ok (.aload_n 0, 1) := by decide +kernel
theorem dX10_playRound_59 : decode cX10_playRound 59 = .ok (.getfield 16, 3) := by decide +kernel
theorem dX10_playRound_62 : decode cX10_playRound 62 = .ok (.invokevirtual 447, 3) := by decide +kernel
theorem dX10_playRound_65 : decode cX10_playRound 65 = .ok (.ireturn, 1) := by decide +kernel
def fX10_playRound_b58 (s : mS) : Option (Int32 × mS) :=
  bO (fX6_haveMoved 1 s) fun r3 =>
  rB r3 (some (r3, s))

def fX10_playRound_b9 : Nat → Nat → Int32 → mS → Option (Int32 × mS)
  | 0, _, _, _ => none
  | k + 1, k1, y2, s =>
    if 30 ≤ y2 then
      fX10_playRound_b58 s
    else
      bO (fX10_dayHas k1 y2 s) fun r4 =>
      if r4 = 0 then
        fX10_playRound_b58 s
      else
        ldL s (lS_cells k1) 60 (2 * y2) fun v5 =>
        ldL s (lS_cells k1) 60 ((2 * y2) + 1) fun v6 =>
        bO (fX10_pass 1 (Int64.toInt32 v5) (Int64.toInt32 v6) s) fun s7 =>
        bnd (y2 + 1) fun v8 =>
        fX10_playRound_b9 k k1 v8 s7

def fX10_playRound (k1 : Nat) (s : mS) : Option (Int32 × mS) :=
  bO (fX6_markPulls 1 s) fun s1 =>
  bnd 0 fun v2 =>
  fX10_playRound_b9 mFu k1 v2 s1

set_option maxRecDepth 20000 in
theorem wX10_playRound_b58 {ρ : mRo} {d : Nat} {P : mPo} {V : mS → List mE} (hV : mView LC V)  {res : (Int32 × mS)} (hP : P (some (.int res.1)) (V res.2)) (s : mS) (hf : fX10_playRound_b58 s = some res) : mG ρ (mC ρ (d + 2)) 10 3 cX10_playRound (some .boolean) P 58 [(0, .ref qT)] [] (V s) := by
  unfold fX10_playRound_b58 at hf
  refine e_aload_n 0 dX10_playRound_58 rfl rfl ?_
  refine e_getr hV dX10_playRound_59 rfl lc_T rfl ?_
  obtain ⟨r3, hg, hf⟩ := bO_some hf
  refine e_callV (as := []) (v := (some (.int r3))) (s' := s) hV dX10_playRound_62 (Or.inl rfl) rfl rfl rfl rfl (Nat.le_of_ble_eq_true rfl) (lc_M (by decide)) rfl rfl (fun Q hQ => tX6_haveMoved (d := (d + 1)) hV (by decide) hg hQ) ?_
  obtain ⟨hb0, hf⟩ := rB_some hf
  cases hf
  exact e_iret dX10_playRound_65 hb0 hP
set_option maxRecDepth 20000 in
theorem wX10_playRound_b9 {ρ : mRo} {d : Nat} {P : mPo} {V : mS → List mE} (hV : mView LC V)  {res : (Int32 × mS)} (hP : P (some (.int res.1)) (V res.2)) : ∀ (k : Nat) (k1 : Nat) (hk1 : k1 < 6) (y2 : Int32) (s : mS), fX10_playRound_b9 k k1 y2 s = some res → mG ρ (mC ρ (d + 2)) 10 3 cX10_playRound (some .boolean) P 9 [(0, .ref qT), (1, .ref (qS k1)), (2, .int y2)] [] (V s) := by
  intro k
  induction k with
  | zero => intro k1 hk1 y2 s hf; rw [fX10_playRound_b9] at hf; cases hf
  | succ k ih =>
    intro k1 hk1 y2 s hf
    rw [fX10_playRound_b9] at hf
    refine e_iload_n 2 dX10_playRound_9 rfl rfl ?_
    refine e_bipush (w := 30) dX10_playRound_10 (by decide) ?_
    refine e_icmp_ge 58 dX10_playRound_12 (by decide) hf (fun hf => ?_) (fun hf => ?_)
    · refine e_pick [0] rfl ?_
      exact wX10_playRound_b58 hV hP s hf
    · refine e_aload_n 0 dX10_playRound_15 rfl rfl ?_
      refine e_aload_n 1 dX10_playRound_16 rfl rfl ?_
      refine e_iload_n 2 dX10_playRound_17 rfl rfl ?_
      obtain ⟨r4, hg, hf⟩ := bO_some hf
      refine e_callV (as := [.ref (qS k1), .int y2]) (v := (some (.int r4))) (s' := s) hV dX10_playRound_18 (Or.inl rfl) rfl rfl rfl rfl (Nat.le_of_ble_eq_true rfl) lc_T rfl rfl (fun Q hQ => tX10_dayHas (d := d) hV hk1 hg hQ) ?_
      refine e_if_eq 58 dX10_playRound_21 (by decide) hf (fun hf => ?_) (fun hf => ?_)
      · refine e_pick [0] rfl ?_
        exact wX10_playRound_b58 hV hP s hf
      · refine e_aload_n 0 dX10_playRound_24 rfl rfl ?_
        refine e_aload_n 0 dX10_playRound_25 rfl rfl ?_
        refine e_getr hV dX10_playRound_26 rfl lc_T rfl ?_
        refine e_aload_n 1 dX10_playRound_29 rfl rfl ?_
        refine e_getr hV dX10_playRound_30 rfl (lc_S hk1) rfl ?_
        refine e_iconst (w := 2) dX10_playRound_33 (by decide) ?_
        refine e_iload_n 2 dX10_playRound_34 rfl rfl ?_
        refine e_imul dX10_playRound_35 ?_
        refine e_lald hV dX10_playRound_36 (lc_S_cells hk1) hf (fun v5 hf => ?_)
        refine e_l2i dX10_playRound_37 ?_
        refine e_aload_n 1 dX10_playRound_38 rfl rfl ?_
        refine e_getr hV dX10_playRound_39 rfl (lc_S hk1) rfl ?_
        refine e_iconst (w := 2) dX10_playRound_42 (by decide) ?_
        refine e_iload_n 2 dX10_playRound_43 rfl rfl ?_
        refine e_imul dX10_playRound_44 ?_
        refine e_iconst (w := 1) dX10_playRound_45 (by decide) ?_
        refine e_iadd dX10_playRound_46 ?_
        refine e_lald hV dX10_playRound_47 (lc_S_cells hk1) hf (fun v6 hf => ?_)
        refine e_l2i dX10_playRound_48 ?_
        obtain ⟨s7, hg, hf⟩ := bO_some hf
        refine e_callV (as := [.ref (qM 1), .int (Int64.toInt32 v5), .int (Int64.toInt32 v6)]) (v := none) (s' := s7) hV dX10_playRound_49 (Or.inl rfl) rfl rfl rfl rfl (Nat.le_of_ble_eq_true rfl) lc_T rfl rfl (fun Q hQ => tX10_pass (d := d) hV (by decide) hg hQ) ?_
        refine e_iinc 2 dX10_playRound_52 rfl rfl hf (fun v8 hf => ?_)
        refine e_goto 9 dX10_playRound_55 (by decide) ?_
        refine e_pick [1, 2, 0] rfl ?_
        exact ih k1 hk1 v8 s7 hf
set_option maxRecDepth 20000 in
theorem tX10_playRound {ρ : mRo} {d : Nat} {P : mPo} {V : mS → List mE} (hV : mView LC V)  {k1 : Nat} (hk1 : k1 < 6) {s : mS} {res : (Int32 × mS)} (hf : fX10_playRound k1 s = some res) (hP : P (some (.int res.1)) (V res.2)) : mC ρ (d + 3) 125 [.ref qT, .ref (qS k1)] (V s) P := by
  refine ⟨_, rfl, Nat.le_of_ble_eq_true rfl, by decide, ?_⟩
  show mG ρ (mC ρ (d + 2)) 10 3 cX10_playRound (some .boolean) P 0 [(0, .ref qT), (1, .ref (qS k1))] [] (V s)
  unfold fX10_playRound at hf
  refine e_aload_n 0 dX10_playRound_0 rfl rfl ?_
  refine e_getr hV dX10_playRound_1 rfl lc_T rfl ?_
  obtain ⟨s1, hg, hf⟩ := bO_some hf
  refine e_callV (as := []) (v := none) (s' := s1) hV dX10_playRound_4 (Or.inl rfl) rfl rfl rfl rfl (Nat.le_of_ble_eq_true rfl) (lc_M (by decide)) rfl rfl (fun Q hQ => tX6_markPulls (d := (d + 1)) hV (by decide) hg hQ) ?_
  refine e_iconst (w := 0) dX10_playRound_7 (by decide) ?_
  refine e_istore_n dX10_playRound_8 rfl (by decide) hf (fun v2 hf => ?_)
  refine e_pick [1, 2, 0] rfl ?_
  exact wX10_playRound_b9 hV hP mFu k1 hk1 v2 s1 hf

theorem dX10_still_0 : decode cX10_still 0 = .ok (.aload_n 0, 1) := by decide +kernel
theorem dX10_still_1 : decode cX10_still 1 = .ok (.iload_n 1, 1) := by decide +kernel
theorem dX10_still_2 : decode cX10_still 2 = .ok (.iconst 0, 1) := by decide +kernel
theorem dX10_still_3 : decode cX10_still 3 = .ok (.invokevirtual 177, 3) := by decide +kernel
theorem dX10_still_6 : decode cX10_still 6 = .ok (.istore_n 2, 1) := by decide +kernel
theorem dX10_still_7 : decode cX10_still 7 = .ok (.iload_n 2, 1) := by decide +kernel
theorem dX10_still_8 : decode cX10_still 8 = .ok (.ifCond .eq 5, 3) := by decide +kernel
theorem dX10_still_11 : decode cX10_still 11 = .ok (.iload_n 2, 1) := by decide +kernel
theorem dX10_still_12 : decode cX10_still 12 = .ok (.ireturn, 1) := by decide +kernel
theorem dX10_still_13 : decode cX10_still 13 = .ok (.aload_n 0, 1) := by decide +kernel
theorem dX10_still_14 : decode cX10_still 14 = .ok (.getfield 42, 3) := by decide +kernel
theorem dX10_still_17 : decode cX10_still 17 = .ok (.iload_n 1, 1) := by decide +kernel
theorem dX10_still_18 : decode cX10_still 18 = .ok (.aaload, 1) := by decide +kernel
theorem dX10_still_19 : decode cX10_still 19 = .ok (.astore_n 3, 1) := by decide +kernel
theorem dX10_still_20 : decode cX10_still 20 = .ok (.aload_n 0, 1) := by decide +kernel
theorem dX10_still_21 : decode cX10_still 21 = .ok (.getfield 16, 3) := by decide +kernel
theorem dX10_still_24 : decode cX10_still 24 = .ok (.aload_n 0, 1) := by decide +kernel
theorem dX10_still_25 : decode cX10_still 25 = .ok (.getfield 10, 3) := by decide +kernel
theorem dX10_still_28 : decode cX10_still 28 = .ok (.invokevirtual 197, 3) := by decide +kernel
theorem dX10_still_31 : decode cX10_still 31 = .ok (.iconst 0, 1) := by decide +kernel
theorem dX10_still_32 : decode cX10_still 32 = .ok (.istore 4, 2) := by decide +kernel
theorem dX10_still_34 : decode cX10_still 34 = .ok (.iload 4, 2) := by decide +kernel
theorem dX10_still_36 : decode cX10_still 36 = .ok (.bipush 99, 2) := by decide +kernel
theorem dX10_still_38 : decode cX10_still 38 = .ok (.if_icmp .gt 20, 3) := by decide +kernel
theorem dX10_still_41 : decode cX10_still 41 = .ok (.aload_n 0, 1) := by decide +kernel
theorem dX10_still_42 : decode cX10_still 42 = .ok (.aload_n 3, 1) := by decide +kernel
theorem dX10_still_43 : decode cX10_still 43 = .ok (.invokevirtual 201, 3) := by decide +kernel
theorem dX10_still_46 : decode cX10_still 46 = .ok (.ifCond .ne 6, 3) := by decide +kernel
theorem dX10_still_49 : decode cX10_still 49 = .ok (.iload 4, 2) := by decide +kernel
theorem dX10_still_51 : decode cX10_still 51 = .ok (.ireturn, 1) := by decide +kernel
theorem dX10_still_52 : decode cX10_still 52 = .ok (.iinc 4 1, 3) := by decide +kernel
theorem dX10_still_55 : decode cX10_still 55 = .ok (.goto (-21), 3) := by decide +kernel
theorem dX10_still_58 : decode cX10_still 58 = .ok (.bipush (-2), 2) := by decide +kernel
theorem dX10_still_60 : decode cX10_still 60 = .ok (.ireturn, 1) := by decide +kernel
def fX10_still_b34 : Nat → Nat → Int32 → mS → Option (Int32 × mS)
  | 0, _, _, _ => none
  | k + 1, j3, y4, s =>
    if 99 < y4 then
      some ((-2), s)
    else
      bP (fX10_playRound j3 s) fun r6 s7 =>
      if r6 = 0 then
        some (y4, s7)
      else
        bnd (y4 + 1) fun v8 =>
        fX10_still_b34 k j3 v8 s7

def fX10_still (x1 : Int32) (s : mS) : Option (Int32 × mS) :=
  bO (fX10_rowRefusal x1 0 s) fun r1 =>
  bnd r1 fun v2 =>
  if v2 = 0 then
    ldS 6 x1 fun j3 =>
    bO (fX6_copy 1 0 s) fun s4 =>
    bnd 0 fun v5 =>
    fX10_still_b34 mFu j3 v5 s4
  else
    some (v2, s)

set_option maxRecDepth 20000 in
theorem wX10_still_b34 {ρ : mRo} {d : Nat} {P : mPo} {V : mS → List mE} (hV : mView LC V)  {res : (Int32 × mS)} (hP : P (some (.int res.1)) (V res.2)) : ∀ (k : Nat) (j3 : Nat) (hj3 : j3 < 6) (y4 : Int32) (s : mS), fX10_still_b34 k j3 y4 s = some res → mG ρ (mC ρ (d + 3)) 10 5 cX10_still (some .int) P 34 [(0, .ref qT), (3, .ref (qS j3)), (4, .int y4)] [] (V s) := by
  intro k
  induction k with
  | zero => intro j3 hj3 y4 s hf; rw [fX10_still_b34] at hf; cases hf
  | succ k ih =>
    intro j3 hj3 y4 s hf
    rw [fX10_still_b34] at hf
    refine e_iload 2 dX10_still_34 rfl ?_
    refine e_bipush (w := 99) dX10_still_36 (by decide) ?_
    refine e_icmp_gt 58 dX10_still_38 (by decide) hf (fun hf => ?_) (fun hf => ?_)
    · refine e_bipush (w := (-2)) dX10_still_58 (by decide) ?_
      cases hf
      exact e_iret dX10_still_60 trivial hP
    · refine e_aload_n 0 dX10_still_41 rfl rfl ?_
      refine e_aload_n 1 dX10_still_42 rfl rfl ?_
      obtain ⟨r6, s7, hg, hf⟩ := bP_some hf
      refine e_callV (as := [.ref (qS j3)]) (v := (some (.int r6))) (s' := s7) hV dX10_still_43 (Or.inl rfl) rfl rfl rfl rfl (Nat.le_of_ble_eq_true rfl) lc_T rfl rfl (fun Q hQ => tX10_playRound (d := d) hV hj3 hg hQ) ?_
      refine e_if_ne 52 dX10_still_46 (by decide) hf (fun hf => ?_) (fun hf => ?_)
      · refine e_iinc 2 dX10_still_52 rfl rfl hf (fun v8 hf => ?_)
        refine e_goto 34 dX10_still_55 (by decide) ?_
        refine e_pick [1, 2, 0] rfl ?_
        exact ih j3 hj3 v8 s7 hf
      · refine e_iload 2 dX10_still_49 rfl ?_
        cases hf
        exact e_iret dX10_still_51 trivial hP
set_option maxRecDepth 20000 in
theorem tX10_still {ρ : mRo} {d : Nat} {P : mPo} {V : mS → List mE} (hV : mView LC V)  {x1 : Int32} {s : mS} {res : (Int32 × mS)} (hf : fX10_still x1 s = some res) (hP : P (some (.int res.1)) (V res.2)) : mC ρ (d + 4) 74 [.ref qT, .int x1] (V s) P := by
  refine ⟨_, rfl, Nat.le_of_ble_eq_true rfl, by decide, ?_⟩
  show mG ρ (mC ρ (d + 3)) 10 5 cX10_still (some .int) P 0 [(0, .ref qT), (1, .int x1)] [] (V s)
  unfold fX10_still at hf
  refine e_aload_n 0 dX10_still_0 rfl rfl ?_
  refine e_iload_n 1 dX10_still_1 rfl rfl ?_
  refine e_iconst (w := 0) dX10_still_2 (by decide) ?_
  obtain ⟨r1, hg, hf⟩ := bO_some hf
  refine e_callV (as := [.int x1, .int 0]) (v := (some (.int r1))) (s' := s) hV dX10_still_3 (Or.inl rfl) rfl rfl rfl rfl (Nat.le_of_ble_eq_true rfl) lc_T rfl rfl (fun Q hQ => tX10_rowRefusal (d := (d + 1)) hV  hg hQ) ?_
  refine e_istore_n dX10_still_6 rfl (by decide) hf (fun v2 hf => ?_)
  refine e_iload_n 0 dX10_still_7 rfl rfl ?_
  refine e_if_eq 13 dX10_still_8 (by decide) hf (fun hf => ?_) (fun hf => ?_)
  · refine e_aload_n 1 dX10_still_13 rfl rfl ?_
    refine e_getr hV dX10_still_14 rfl lc_T rfl ?_
    refine e_iload_n 2 dX10_still_17 rfl rfl ?_
    refine e_aald hV dX10_still_18 lc_T_shelves rfl lc_T_shelves_at hf (fun j3 hj3 hf => ?_)
    refine e_astore_n dX10_still_19 rfl (by decide) ?_
    refine e_aload_n 2 dX10_still_20 rfl rfl ?_
    refine e_getr hV dX10_still_21 rfl lc_T rfl ?_
    refine e_aload_n 2 dX10_still_24 rfl rfl ?_
    refine e_getr hV dX10_still_25 rfl lc_T rfl ?_
    obtain ⟨s4, hg, hf⟩ := bO_some hf
    refine e_callV (as := [.ref (qM 0)]) (v := none) (s' := s4) hV dX10_still_28 (Or.inl rfl) rfl rfl rfl rfl (Nat.le_of_ble_eq_true rfl) (lc_M (by decide)) rfl rfl (fun Q hQ => tX6_copy (d := (d + 1)) hV (by decide) (by decide) hg hQ) ?_
    refine e_iconst (w := 0) dX10_still_31 (by decide) ?_
    refine e_istore dX10_still_32 (by decide) hf (fun v5 hf => ?_)
    refine e_pick [3, 1, 0] rfl ?_
    exact wX10_still_b34 hV hP mFu j3 hj3 v5 s4 hf
  · refine e_iload_n 0 dX10_still_11 rfl rfl ?_
    cases hf
    exact e_iret dX10_still_12 trivial hP
