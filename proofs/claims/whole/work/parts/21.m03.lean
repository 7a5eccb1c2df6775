-- bytecode to functions, by program (wip/gen/decomp.py)
theorem dX11_sticksAs_0 : decode cX11_sticksAs 0 = .ok (.iload_n 1, 1) := by decide +kernel
theorem dX11_sticksAs_1 : decode cX11_sticksAs 1 = .ok (.iconst 3, 1) := by decide +kernel
theorem dX11_sticksAs_2 : decode cX11_sticksAs 2 = .ok (.if_icmp .eq 8, 3) := by decide +kernel
theorem dX11_sticksAs_5 : decode cX11_sticksAs 5 = .ok (.iload_n 1, 1) := by decide +kernel
theorem dX11_sticksAs_6 : decode cX11_sticksAs 6 = .ok (.iconst 5, 1) := by decide +kernel
theorem dX11_sticksAs_7 : decode cX11_sticksAs 7 = .ok (.if_icmp .ne 18, 3) := by decide +kernel
theorem dX11_sticksAs_10 : decode cX11_sticksAs 10 = .ok (.aload_n 0, 1) := by decide +kernel
theorem dX11_sticksAs_11 : decode cX11_sticksAs 11 = .ok (.bipush 41, 2) := by decide +kernel
theorem dX11_sticksAs_13 : decode cX11_sticksAs 13 = .ok (.invokevirtual 290, 3) := by decide +kernel
theorem dX11_sticksAs_16 : decode cX11_sticksAs 16 = .ok (.aload_n 0, 1) := by decide +kernel
theorem dX11_sticksAs_17 : decode cX11_sticksAs 17 = .ok (.iconst 2, 1) := by decide +kernel
theorem dX11_sticksAs_18 : decode cX11_sticksAs 18 = .ok (.iload_n 2, 1) := by decide +kernel
theorem dX11_sticksAs_19 : decode cX11_sticksAs 19 = .ok (.iconst 1, 1) := by decide +kernel
theorem dX11_sticksAs_20 : decode cX11_sticksAs 20 = .ok (.iadd, 1) := by decide +kernel
theorem dX11_sticksAs_21 : decode cX11_sticksAs 21 = .ok (.invokevirtual 300, 3) := by decide +kernel
theorem dX11_sticksAs_24 : decode cX11_sticksAs 24 = .ok (.ireturn, 1) := by decide +kernel
theorem dX11_sticksAs_25 : decode cX11_sticksAs 25 = .ok (.iload_n 1, 1) := by decide +kernel
theorem dX11_sticksAs_26 : decode cX11_sticksAs 26 = .ok (.iconst 2, 1) := by decide +kernel
theorem dX11_sticksAs_27 : decode cX11_sticksAs 27 = .ok (.if_icmp .ne 17, 3) := by decide +kernel
theorem dX11_sticksAs_30 : decode cX11_sticksAs 30 = .ok (.aload_n 0, 1) := by decide +kernel
theorem dX11_sticksAs_31 : decode cX11_sticksAs 31 = .ok (.bipush 30, 2) := by decide +kernel
theorem dX11_sticksAs_33 : decode cX11_sticksAs 33 = .ok (.invokevirtual 290, 3) := by decide +kernel
theorem dX11_sticksAs_36 : decode cX11_sticksAs 36 = .ok (.aload_n 0, 1) := by decide +kernel
theorem dX11_sticksAs_37 : decode cX11_sticksAs 37 = .ok (.iconst 0, 1) := by decide +kernel
theorem dX11_sticksAs_38 : decode cX11_sticksAs 38 = .ok (.iload_n 2, 1) := by decide +kernel
theorem dX11_sticksAs_39 : decode cX11_sticksAs 39 = .ok (.invokevirtual 300, 3) := by decide +kernel
theorem dX11_sticksAs_42 : decode cX11_sticksAs 42 = .ok (.ineg, 1) := by decide +kernel
theorem dX11_sticksAs_43 : decode cX11_sticksAs 43 = .ok (.ireturn, 1) := by decide +kernel
theorem dX11_sticksAs_44 : decode cX11_sticksAs 44 = .ok (.iload_n 1, 1) := by decide +kernel
theorem dX11_sticksAs_45 : decode cX11_sticksAs 45 = .ok (.bipush 7, 2) := by decide +kernel
theorem dX11_sticksAs_47 : decode cX11_sticksAs 47 = .ok (.if_icmp .ne 28, 3) := by decide +kernel
theorem dX11_sticksAs_50 : decode cX11_sticksAs 50 = .ok (.aload_n 0, 1) := by decide +kernel
theorem dX11_sticksAs_51 : decode cX11_sticksAs 51 = .ok (.bipush 80, 2) := by decide +kernel
theorem dX11_sticksAs_53 : decode cX11_sticksAs 53 = .ok (.invokevirtual 290, 3) := by decide +kernel
theorem dX11_sticksAs_56 : decode cX11_sticksAs 56 = .ok (.aload_n 0, 1) := by decide +kernel
theorem dX11_sticksAs_57 : decode cX11_sticksAs 57 = .ok (.iconst 4, 1) := by decide +kernel
theorem dX11_sticksAs_58 : decode cX11_sticksAs 58 = .ok (.iload_n 2, 1) := by decide +kernel
theorem dX11_sticksAs_59 : decode cX11_sticksAs 59 = .ok (.invokevirtual 300, 3) := by decide +kernel
theorem dX11_sticksAs_62 : decode cX11_sticksAs 62 = .ok (.istore_n 3, 1) := by decide +kernel
theorem dX11_sticksAs_63 : decode cX11_sticksAs 63 = .ok (.iload_n 3, 1) := by decide +kernel
theorem dX11_sticksAs_64 : decode cX11_sticksAs 64 = .ok (.aload_n 0, 1) := by decide +kernel
theorem dX11_sticksAs_65 : decode cX11_sticksAs 65 = .ok (.aload_n 0, 1) := by decide +kernel
theorem dX11_sticksAs_66 : decode cX11_sticksAs 66 = .ok (.getfield 303, 3) := by decide +kernel
theorem dX11_sticksAs_69 : decode cX11_sticksAs 69 = .ok (.iconst 2, 1) := by decide +kernel
theorem dX11_sticksAs_70 : decode cX11_sticksAs 70 = .ok (.invokevirtual 306, 3) := by decide +kernel
theorem dX11_sticksAs_73 : decode cX11_sticksAs 73 = .ok (.iadd, 1) := by decide +kernel
theorem dX11_sticksAs_74 : decode cX11_sticksAs 74 = .ok (.ireturn, 1) := by decide +kernel
theorem dX11_sticksAs_75 : decode cX11_sticksAs 75 = .ok (.aload_n 0, 1) := by decide +kernel
theorem dX11_sticksAs_76 : decode cX11_sticksAs 76 = .ok (.bipush 10, 2) := by decide +kernel
theorem dX11_sticksAs_78 : decode cX11_sticksAs 78 = .ok (.invokevirtual 290, 3) := by decide +kernel
theorem dX11_sticksAs_81 : decode cX11_sticksAs 81 = .ok (.aload_n 0, 1) := by decide +kernel
theorem dX11_sticksAs_82 : decode cX11_sticksAs 82 = .ok (.aload_n 0, 1) := by decide +kernel
theorem dX11_sticksAs_83 : decode cX11_sticksAs 83 = .ok (.getfield 303, 3) := by decide +kernel
theorem dX11_sticksAs_86 : decode cX11_sticksAs 86 = .ok (.iload_n 2, 1) := by decide +kernel
theorem dX11_sticksAs_87 : decode cX11_sticksAs 87 = .ok (.invokevirtual 294, 3) := by decide +kernel
theorem dX11_sticksAs_90 : decode cX11_sticksAs 90 = .ok (.iconst 2, 1) := by decide +kernel
theorem dX11_sticksAs_91 : decode cX11_sticksAs 91 = .ok (.imul, 1) := by decide +kernel
theorem dX11_sticksAs_92 : decode cX11_sticksAs 92 = .ok (.ireturn, 1) := by decide +kernel
def gX11_sticksAs_b10 (R0 : Int32 → Int32 → mS → Option (Int32 × mS)) (y2 : Int32) (s : mS) : Option (Int32 × mS) :=
  bO (fX11_runs 41 s) fun s1 =>
  bP (R0 2 (y2 + 1) s1) fun r2 s3 =>
  some (r2, s3)

def gX11_sticksAs (R0 : Int32 → Int32 → mS → Option (Int32 × mS)) (x1 : Int32) (x2 : Int32) (s : mS) : Option (Int32 × mS) :=
  if x1 = 3 then
    gX11_sticksAs_b10 R0 x2 s
  else
    if x1 = 5 then
      gX11_sticksAs_b10 R0 x2 s
    else
      if x1 = 2 then
        bO (fX11_runs 30 s) fun s13 =>
        bP (R0 0 x2 s13) fun r14 s15 =>
        some (-r14, s15)
      else
        if x1 = 7 then
          bO (fX11_runs 80 s) fun s7 =>
          bP (R0 4 x2 s7) fun r8 s9 =>
          bnd r8 fun v10 =>
          bP (fX11_ringsAs (gI s9 iX_ownKind) 2 s9) fun r11 s12 =>
          some (v10 + r11, s12)
        else
          bO (fX11_runs 10 s) fun s4 =>
          bP (fX11_typesAs (gI s4 iX_ownKind) x2 s4) fun r5 s6 =>
          some (r5 * 2, s6)

set_option maxRecDepth 20000 in
theorem wX11_sticksAs_b10 {ρ : mRo} {n d : Nat} {P : mPo} {V : mS → List mE} (hV : mView LX V) {R0 : Int32 → Int32 → mS → Option (Int32 × mS)} (hR0 : ∀ {x1 x2 : Int32} {s : mS} {res : (Int32 × mS)} {Q : mPo}, R0 x1 x2 s = some res → Q (some (.int res.1)) (V res.2) → mC ρ (n + d + 121) 217 [.ref qX, .int x1, .int x2] (V s) Q)  {res : (Int32 × mS)} (hP : P (some (.int res.1)) (V res.2)) (y2 : Int32) (s : mS) (hf : gX11_sticksAs_b10 R0 y2 s = some res) : mG ρ (mC ρ (n + d + 121)) 11 4 cX11_sticksAs (some .int) P 10 [(0, .ref qX), (2, .int y2)] [] (V s) := by
  unfold gX11_sticksAs_b10 at hf
  refine e_aload_n 0 dX11_sticksAs_10 rfl rfl ?_
  refine e_bipush (w := 41) dX11_sticksAs_11 (by decide) ?_
  obtain ⟨s1, hg, hf⟩ := bO_some hf
  refine e_callV (as := [.int 41]) (v := none) (s' := s1) hV dX11_sticksAs_13 (Or.inl rfl) rfl rfl rfl rfl (Nat.le_of_ble_eq_true rfl) lx_X rfl rfl (fun Q hQ => tX11_runs (d := (n + d + 120)) hV  hg hQ) ?_
  refine e_aload_n 0 dX11_sticksAs_16 rfl rfl ?_
  refine e_iconst (w := 2) dX11_sticksAs_17 (by decide) ?_
  refine e_iload_n 1 dX11_sticksAs_18 rfl rfl ?_
  refine e_iconst (w := 1) dX11_sticksAs_19 (by decide) ?_
  refine e_iadd dX11_sticksAs_20 ?_
  obtain ⟨r2, s3, hg, hf⟩ := bP_some hf
  refine e_callV (as := [.int 2, .int (y2 + 1)]) (v := (some (.int r2))) (s' := s3) hV dX11_sticksAs_21 (Or.inl rfl) rfl rfl rfl rfl (Nat.le_of_ble_eq_true rfl) lx_X rfl rfl (fun Q hQ => hR0 hg hQ) ?_
  obtain rfl := Option.some.inj hf
  exact e_iret dX11_sticksAs_24 trivial hP
set_option maxRecDepth 20000 in
theorem uX11_sticksAs {ρ : mRo} {n d : Nat} {P : mPo} {V : mS → List mE} (hV : mView LX V) {R0 : Int32 → Int32 → mS → Option (Int32 × mS)} (hR0 : ∀ {x1 x2 : Int32} {s : mS} {res : (Int32 × mS)} {Q : mPo}, R0 x1 x2 s = some res → Q (some (.int res.1)) (V res.2) → mC ρ (n + d + 121) 217 [.ref qX, .int x1, .int x2] (V s) Q)  {x1 : Int32} {x2 : Int32} {s : mS} {res : (Int32 × mS)} (hf : gX11_sticksAs R0 x1 x2 s = some res) (hP : P (some (.int res.1)) (V res.2)) : mC ρ (n + d + 121 + 1) 217 [.ref qX, .int x1, .int x2] (V s) P := by
  refine ⟨_, rfl, Nat.le_of_ble_eq_true rfl, by decide, ?_⟩
  show mG ρ (mC ρ (n + d + 121)) 11 4 cX11_sticksAs (some .int) P 0 [(0, .ref qX), (1, .int x1), (2, .int x2)] [] (V s)
  unfold gX11_sticksAs at hf
  refine e_iload_n 1 dX11_sticksAs_0 rfl rfl ?_
  refine e_iconst (w := 3) dX11_sticksAs_1 (by decide) ?_
  refine e_icmp_eq 10 dX11_sticksAs_2 (by decide) hf (fun hf => ?_) (fun hf => ?_)
  · refine e_pick [0, 2] rfl ?_
    exact wX11_sticksAs_b10 hV hR0 hP x2 s hf
  · refine e_iload_n 1 dX11_sticksAs_5 rfl rfl ?_
    refine e_iconst (w := 5) dX11_sticksAs_6 (by decide) ?_
    refine e_icmp_ne 25 dX11_sticksAs_7 (by decide) hf (fun hf => ?_) (fun hf => ?_)
    · refine e_iload_n 1 dX11_sticksAs_25 rfl rfl ?_
      refine e_iconst (w := 2) dX11_sticksAs_26 (by decide) ?_
      refine e_icmp_ne 44 dX11_sticksAs_27 (by decide) hf (fun hf => ?_) (fun hf => ?_)
      · refine e_iload_n 1 dX11_sticksAs_44 rfl rfl ?_
        refine e_bipush (w := 7) dX11_sticksAs_45 (by decide) ?_
        refine e_icmp_ne 75 dX11_sticksAs_47 (by decide) hf (fun hf => ?_) (fun hf => ?_)
        · refine e_aload_n 0 dX11_sticksAs_75 rfl rfl ?_
          refine e_bipush (w := 10) dX11_sticksAs_76 (by decide) ?_
          obtain ⟨s4, hg, hf⟩ := bO_some hf
          refine e_callV (as := [.int 10]) (v := none) (s' := s4) hV dX11_sticksAs_78 (Or.inl rfl) rfl rfl rfl rfl (Nat.le_of_ble_eq_true rfl) lx_X rfl rfl (fun Q hQ => tX11_runs (d := (n + d + 120)) hV  hg hQ) ?_
          refine e_aload_n 0 dX11_sticksAs_81 rfl rfl ?_
          refine e_aload_n 0 dX11_sticksAs_82 rfl rfl ?_
          refine e_geti hV dX11_sticksAs_83 rfl lx_X rfl ?_
          refine e_iload_n 2 dX11_sticksAs_86 rfl rfl ?_
          obtain ⟨r5, s6, hg, hf⟩ := bP_some hf
          refine e_callV (as := [.int (gI s4 iX_ownKind), .int x2]) (v := (some (.int r5))) (s' := s6) hV dX11_sticksAs_87 (Or.inl rfl) rfl rfl rfl rfl (Nat.le_of_ble_eq_true rfl) lx_X rfl rfl (fun Q hQ => tX11_typesAs (d := (n + d + 60)) hV  hg hQ) ?_
          refine e_iconst (w := 2) dX11_sticksAs_90 (by decide) ?_
          refine e_imul dX11_sticksAs_91 ?_
          obtain rfl := Option.some.inj hf
          exact e_iret dX11_sticksAs_92 trivial hP
        · refine e_aload_n 0 dX11_sticksAs_50 rfl rfl ?_
          refine e_bipush (w := 80) dX11_sticksAs_51 (by decide) ?_
          obtain ⟨s7, hg, hf⟩ := bO_some hf
          refine e_callV (as := [.int 80]) (v := none) (s' := s7) hV dX11_sticksAs_53 (Or.inl rfl) rfl rfl rfl rfl (Nat.le_of_ble_eq_true rfl) lx_X rfl rfl (fun Q hQ => tX11_runs (d := (n + d + 120)) hV  hg hQ) ?_
          refine e_aload_n 0 dX11_sticksAs_56 rfl rfl ?_
          refine e_iconst (w := 4) dX11_sticksAs_57 (by decide) ?_
          refine e_iload_n 2 dX11_sticksAs_58 rfl rfl ?_
          obtain ⟨r8, s9, hg, hf⟩ := bP_some hf
          refine e_callV (as := [.int 4, .int x2]) (v := (some (.int r8))) (s' := s9) hV dX11_sticksAs_59 (Or.inl rfl) rfl rfl rfl rfl (Nat.le_of_ble_eq_true rfl) lx_X rfl rfl (fun Q hQ => hR0 hg hQ) ?_
          refine e_istore_n dX11_sticksAs_62 rfl (by decide) hf (fun v10 hf => ?_)
          refine e_iload_n 0 dX11_sticksAs_63 rfl rfl ?_
          refine e_aload_n 1 dX11_sticksAs_64 rfl rfl ?_
          refine e_aload_n 1 dX11_sticksAs_65 rfl rfl ?_
          refine e_geti hV dX11_sticksAs_66 rfl lx_X rfl ?_
          refine e_iconst (w := 2) dX11_sticksAs_69 (by decide) ?_
          obtain ⟨r11, s12, hg, hf⟩ := bP_some hf
          refine e_callV (as := [.int (gI s9 iX_ownKind), .int 2]) (v := (some (.int r11))) (s' := s12) hV dX11_sticksAs_70 (Or.inl rfl) rfl rfl rfl rfl (Nat.le_of_ble_eq_true rfl) lx_X rfl rfl (fun Q hQ => tX11_ringsAs (d := (n + d)) hV  hg hQ) ?_
          refine e_iadd dX11_sticksAs_73 ?_
          obtain rfl := Option.some.inj hf
          exact e_iret dX11_sticksAs_74 trivial hP
      · refine e_aload_n 0 dX11_sticksAs_30 rfl rfl ?_
        refine e_bipush (w := 30) dX11_sticksAs_31 (by decide) ?_
        obtain ⟨s13, hg, hf⟩ := bO_some hf
        refine e_callV (as := [.int 30]) (v := none) (s' := s13) hV dX11_sticksAs_33 (Or.inl rfl) rfl rfl rfl rfl (Nat.le_of_ble_eq_true rfl) lx_X rfl rfl (fun Q hQ => tX11_runs (d := (n + d + 120)) hV  hg hQ) ?_
        refine e_aload_n 0 dX11_sticksAs_36 rfl rfl ?_
        refine e_iconst (w := 0) dX11_sticksAs_37 (by decide) ?_
        refine e_iload_n 2 dX11_sticksAs_38 rfl rfl ?_
        obtain ⟨r14, s15, hg, hf⟩ := bP_some hf
        refine e_callV (as := [.int 0, .int x2]) (v := (some (.int r14))) (s' := s15) hV dX11_sticksAs_39 (Or.inl rfl) rfl rfl rfl rfl (Nat.le_of_ble_eq_true rfl) lx_X rfl rfl (fun Q hQ => hR0 hg hQ) ?_
        refine e_ineg dX11_sticksAs_42 ?_
        obtain rfl := Option.some.inj hf
        exact e_iret dX11_sticksAs_43 trivial hP
    · refine e_pick [0, 2] rfl ?_
      exact wX11_sticksAs_b10 hV hR0 hP x2 s hf

def sccX11_sticksAs : Nat → (Int32 → Int32 → mS → Option (Int32 × mS))
  | 0 => (fun _ _ _ => none)
  | n + 1 => (gX11_sticksAs (sccX11_sticksAs n))
theorem tsccX11_sticksAs {ρ : mRo} {d : Nat} {V : mS → List mE} (hV : mView LX V) : ∀ n : Nat, (∀ {x1 x2 : Int32} {s : mS} {res : (Int32 × mS)} {Q : mPo}, sccX11_sticksAs n x1 x2 s = some res → Q (some (.int res.1)) (V res.2) → mC ρ (n + d + 121) 217 [.ref qX, .int x1, .int x2] (V s) Q) := by
  intro n
  induction n with
  | zero => exact (fun hf _ => nomatch hf)
  | succ n ih =>
    rw [show n + 1 + d + 121 = n + d + 121 + 1 by omega]
    exact (fun hf hP => uX11_sticksAs hV ih hf hP)
def fX11_sticksAs (x1 : Int32) (x2 : Int32) (s : mS) : Option (Int32 × mS) := sccX11_sticksAs 60 x1 x2 s
theorem tX11_sticksAs {ρ : mRo} {d : Nat} {P : mPo} {V : mS → List mE} (hV : mView LX V) {x1 : Int32} {x2 : Int32} {s : mS} {res : (Int32 × mS)} (hf : fX11_sticksAs x1 x2 s = some res) (hP : P (some (.int res.1)) (V res.2)) : mC ρ (d + 181) 217 [.ref qX, .int x1, .int x2] (V s) P := by
  rw [show d + 181 = 60 + d + 121 by omega]
  exact (tsccX11_sticksAs hV 60) hf hP

theorem dX11_tellsAs_0 : decode cX11_tellsAs 0 = .ok (.iload_n 1, 1) := by decide +kernel
theorem dX11_tellsAs_1 : decode cX11_tellsAs 1 = .ok (.iconst 5, 1) := by decide +kernel
theorem dX11_tellsAs_2 : decode cX11_tellsAs 2 = .ok (.if_icmp .ne 18, 3) := by decide +kernel
theorem dX11_tellsAs_5 : decode cX11_tellsAs 5 = .ok (.aload_n 0, 1) := by decide +kernel
theorem dX11_tellsAs_6 : decode cX11_tellsAs 6 = .ok (.bipush 60, 2) := by decide +kernel
theorem dX11_tellsAs_8 : decode cX11_tellsAs 8 = .ok (.invokevirtual 290, 3) := by decide +kernel
theorem dX11_tellsAs_11 : decode cX11_tellsAs 11 = .ok (.aload_n 0, 1) := by decide +kernel
theorem dX11_tellsAs_12 : decode cX11_tellsAs 12 = .ok (.iconst 3, 1) := by decide +kernel
theorem dX11_tellsAs_13 : decode cX11_tellsAs 13 = .ok (.iload_n 2, 1) := by decide +kernel
theorem dX11_tellsAs_14 : decode cX11_tellsAs 14 = .ok (.invokevirtual 309, 3) := by decide +kernel
theorem dX11_tellsAs_17 : decode cX11_tellsAs 17 = .ok (.iconst 5, 1) := by decide +kernel
theorem dX11_tellsAs_18 : decode cX11_tellsAs 18 = .ok (.ixor, 1) := by decide +kernel
theorem dX11_tellsAs_19 : decode cX11_tellsAs 19 = .ok (.ireturn, 1) := by decide +kernel
theorem dX11_tellsAs_20 : decode cX11_tellsAs 20 = .ok (.iload_n 1, 1) := by decide +kernel
theorem dX11_tellsAs_21 : decode cX11_tellsAs 21 = .ok (.bipush 7, 2) := by decide +kernel
theorem dX11_tellsAs_23 : decode cX11_tellsAs 23 = .ok (.if_icmp .ne 18, 3) := by decide +kernel
theorem dX11_tellsAs_26 : decode cX11_tellsAs 26 = .ok (.aload_n 0, 1) := by decide +kernel
theorem dX11_tellsAs_27 : decode cX11_tellsAs 27 = .ok (.bipush 81, 2) := by decide +kernel
theorem dX11_tellsAs_29 : decode cX11_tellsAs 29 = .ok (.invokevirtual 290, 3) := by decide +kernel
theorem dX11_tellsAs_32 : decode cX11_tellsAs 32 = .ok (.aload_n 0, 1) := by decide +kernel
theorem dX11_tellsAs_33 : decode cX11_tellsAs 33 = .ok (.iconst 4, 1) := by decide +kernel
theorem dX11_tellsAs_34 : decode cX11_tellsAs 34 = .ok (.iload_n 2, 1) := by decide +kernel
theorem dX11_tellsAs_35 : decode cX11_tellsAs 35 = .ok (.invokevirtual 309, 3) := by decide +kernel
theorem dX11_tellsAs_38 : decode cX11_tellsAs 38 = .ok (.iconst 1, 1) := by decide +kernel
theorem dX11_tellsAs_39 : decode cX11_tellsAs 39 = .ok (.isub, 1) := by decide +kernel
theorem dX11_tellsAs_40 : decode cX11_tellsAs 40 = .ok (.ireturn, 1) := by decide +kernel
theorem dX11_tellsAs_41 : decode cX11_tellsAs 41 = .ok (.aload_n 0, 1) := by decide +kernel
theorem dX11_tellsAs_42 : decode cX11_tellsAs 42 = .ok (.iconst 2, 1) := by decide +kernel
theorem dX11_tellsAs_43 : decode cX11_tellsAs 43 = .ok (.invokevirtual 290, 3) := by decide +kernel
theorem dX11_tellsAs_46 : decode cX11_tellsAs 46 = .ok (.aload_n 0, 1) := by decide +kernel
theorem dX11_tellsAs_47 : decode cX11_tellsAs 47 = .ok (.aload_n 0, 1) := by decide +kernel
theorem dX11_tellsAs_48 : decode cX11_tellsAs 48 = .ok (.getfield 303, 3) := by decide +kernel
theorem dX11_tellsAs_51 : decode cX11_tellsAs 51 = .ok (.iload_n 2, 1) := by decide +kernel
theorem dX11_tellsAs_52 : decode cX11_tellsAs 52 = .ok (.invokevirtual 300, 3) := by decide +kernel
theorem dX11_tellsAs_55 : decode cX11_tellsAs 55 = .ok (.istore_n 3, 1) := by decide +kernel
theorem dX11_tellsAs_56 : decode cX11_tellsAs 56 = .ok (.iload_n 3, 1) := by decide +kernel
theorem dX11_tellsAs_57 : decode cX11_tellsAs 57 = .ok (.aload_n 0, 1) := by decide +kernel
theorem dX11_tellsAs_58 : decode cX11_tellsAs 58 = .ok (.aload_n 0, 1) := by decide +kernel
theorem dX11_tellsAs_59 : decode cX11_tellsAs 59 = .ok (.getfield 303, 3) := by decide +kernel
theorem dX11_tellsAs_62 : decode cX11_tellsAs 62 = .ok (.iconst 1, 1) := by decide +kernel
theorem dX11_tellsAs_63 : decode cX11_tellsAs 63 = .ok (.invokevirtual 306, 3) := by decide +kernel
theorem dX11_tellsAs_66 : decode cX11_tellsAs 66 = .ok (.isub, 1) := by decide +kernel
theorem dX11_tellsAs_67 : decode cX11_tellsAs 67 = .ok (.ireturn, 1) := by decide +kernel
def gX11_tellsAs (R0 : Int32 → Int32 → mS → Option (Int32 × mS)) (x1 : Int32) (x2 : Int32) (s : mS) : Option (Int32 × mS) :=
  if x1 = 5 then
    bO (fX11_runs 60 s) fun s10 =>
    bP (R0 3 x2 s10) fun r11 s12 =>
    some (r11 ^^^ 5, s12)
  else
    if x1 = 7 then
      bO (fX11_runs 81 s) fun s7 =>
      bP (R0 4 x2 s7) fun r8 s9 =>
      some (r8 - 1, s9)
    else
      bO (fX11_runs 2 s) fun s1 =>
      bP (fX11_sticksAs (gI s1 iX_ownKind) x2 s1) fun r2 s3 =>
      bnd r2 fun v4 =>
      bP (fX11_ringsAs (gI s3 iX_ownKind) 1 s3) fun r5 s6 =>
      some (v4 - r5, s6)

set_option maxRecDepth 20000 in
theorem uX11_tellsAs {ρ : mRo} {n d : Nat} {P : mPo} {V : mS → List mE} (hV : mView LX V) {R0 : Int32 → Int32 → mS → Option (Int32 × mS)} (hR0 : ∀ {x1 x2 : Int32} {s : mS} {res : (Int32 × mS)} {Q : mPo}, R0 x1 x2 s = some res → Q (some (.int res.1)) (V res.2) → mC ρ (n + d + 181) 219 [.ref qX, .int x1, .int x2] (V s) Q)  {x1 : Int32} {x2 : Int32} {s : mS} {res : (Int32 × mS)} (hf : gX11_tellsAs R0 x1 x2 s = some res) (hP : P (some (.int res.1)) (V res.2)) : mC ρ (n + d + 181 + 1) 219 [.ref qX, .int x1, .int x2] (V s) P := by
  refine ⟨_, rfl, Nat.le_of_ble_eq_true rfl, by decide, ?_⟩
  show mG ρ (mC ρ (n + d + 181)) 11 4 cX11_tellsAs (some .int) P 0 [(0, .ref qX), (1, .int x1), (2, .int x2)] [] (V s)
  unfold gX11_tellsAs at hf
  refine e_iload_n 1 dX11_tellsAs_0 rfl rfl ?_
  refine e_iconst (w := 5) dX11_tellsAs_1 (by decide) ?_
  refine e_icmp_ne 20 dX11_tellsAs_2 (by decide) hf (fun hf => ?_) (fun hf => ?_)
  · refine e_iload_n 1 dX11_tellsAs_20 rfl rfl ?_
    refine e_bipush (w := 7) dX11_tellsAs_21 (by decide) ?_
    refine e_icmp_ne 41 dX11_tellsAs_23 (by decide) hf (fun hf => ?_) (fun hf => ?_)
    · refine e_aload_n 0 dX11_tellsAs_41 rfl rfl ?_
      refine e_iconst (w := 2) dX11_tellsAs_42 (by decide) ?_
      obtain ⟨s1, hg, hf⟩ := bO_some hf
      refine e_callV (as := [.int 2]) (v := none) (s' := s1) hV dX11_tellsAs_43 (Or.inl rfl) rfl rfl rfl rfl (Nat.le_of_ble_eq_true rfl) lx_X rfl rfl (fun Q hQ => tX11_runs (d := (n + d + 180)) hV  hg hQ) ?_
      refine e_aload_n 0 dX11_tellsAs_46 rfl rfl ?_
      refine e_aload_n 0 dX11_tellsAs_47 rfl rfl ?_
      refine e_geti hV dX11_tellsAs_48 rfl lx_X rfl ?_
      refine e_iload_n 2 dX11_tellsAs_51 rfl rfl ?_
      obtain ⟨r2, s3, hg, hf⟩ := bP_some hf
      refine e_callV (as := [.int (gI s1 iX_ownKind), .int x2]) (v := (some (.int r2))) (s' := s3) hV dX11_tellsAs_52 (Or.inl rfl) rfl rfl rfl rfl (Nat.le_of_ble_eq_true rfl) lx_X rfl rfl (fun Q hQ => tX11_sticksAs (d := (n + d)) hV  hg hQ) ?_
      refine e_istore_n dX11_tellsAs_55 rfl (by decide) hf (fun v4 hf => ?_)
      refine e_iload_n 0 dX11_tellsAs_56 rfl rfl ?_
      refine e_aload_n 1 dX11_tellsAs_57 rfl rfl ?_
      refine e_aload_n 1 dX11_tellsAs_58 rfl rfl ?_
      refine e_geti hV dX11_tellsAs_59 rfl lx_X rfl ?_
      refine e_iconst (w := 1) dX11_tellsAs_62 (by decide) ?_
      obtain ⟨r5, s6, hg, hf⟩ := bP_some hf
      refine e_callV (as := [.int (gI s3 iX_ownKind), .int 1]) (v := (some (.int r5))) (s' := s6) hV dX11_tellsAs_63 (Or.inl rfl) rfl rfl rfl rfl (Nat.le_of_ble_eq_true rfl) lx_X rfl rfl (fun Q hQ => tX11_ringsAs (d := (n + d + 60)) hV  hg hQ) ?_
      refine e_isub dX11_tellsAs_66 ?_
      obtain rfl := Option.some.inj hf
      exact e_iret dX11_tellsAs_67 trivial hP
    · refine e_aload_n 0 dX11_tellsAs_26 rfl rfl ?_
      refine e_bipush (w := 81) dX11_tellsAs_27 (by decide) ?_
      obtain ⟨s7, hg, hf⟩ := bO_some hf
      refine e_callV (as := [.int 81]) (v := none) (s' := s7) hV dX11_tellsAs_29 (Or.inl rfl) rfl rfl rfl rfl (Nat.le_of_ble_eq_true rfl) lx_X rfl rfl (fun Q hQ => tX11_runs (d := (n + d + 180)) hV  hg hQ) ?_
      refine e_aload_n 0 dX11_tellsAs_32 rfl rfl ?_
      refine e_iconst (w := 4) dX11_tellsAs_33 (by decide) ?_
      refine e_iload_n 2 dX11_tellsAs_34 rfl rfl ?_
      obtain ⟨r8, s9, hg, hf⟩ := bP_some hf
      refine e_callV (as := [.int 4, .int x2]) (v := (some (.int r8))) (s' := s9) hV dX11_tellsAs_35 (Or.inl rfl) rfl rfl rfl rfl (Nat.le_of_ble_eq_true rfl) lx_X rfl rfl (fun Q hQ => hR0 hg hQ) ?_
      refine e_iconst (w := 1) dX11_tellsAs_38 (by decide) ?_
      refine e_isub dX11_tellsAs_39 ?_
      obtain rfl := Option.some.inj hf
      exact e_iret dX11_tellsAs_40 trivial hP
  · refine e_aload_n 0 dX11_tellsAs_5 rfl rfl ?_
    refine e_bipush (w := 60) dX11_tellsAs_6 (by decide) ?_
    obtain ⟨s10, hg, hf⟩ := bO_some hf
    refine e_callV (as := [.int 60]) (v := none) (s' := s10) hV dX11_tellsAs_8 (Or.inl rfl) rfl rfl rfl rfl (Nat.le_of_ble_eq_true rfl) lx_X rfl rfl (fun Q hQ => tX11_runs (d := (n + d + 180)) hV  hg hQ) ?_
    refine e_aload_n 0 dX11_tellsAs_11 rfl rfl ?_
    refine e_iconst (w := 3) dX11_tellsAs_12 (by decide) ?_
    refine e_iload_n 2 dX11_tellsAs_13 rfl rfl ?_
    obtain ⟨r11, s12, hg, hf⟩ := bP_some hf
    refine e_callV (as := [.int 3, .int x2]) (v := (some (.int r11))) (s' := s12) hV dX11_tellsAs_14 (Or.inl rfl) rfl rfl rfl rfl (Nat.le_of_ble_eq_true rfl) lx_X rfl rfl (fun Q hQ => hR0 hg hQ) ?_
    refine e_iconst (w := 5) dX11_tellsAs_17 (by decide) ?_
    refine e_ixor dX11_tellsAs_18 ?_
    obtain rfl := Option.some.inj hf
    exact e_iret dX11_tellsAs_19 trivial hP

def sccX11_tellsAs : Nat → (Int32 → Int32 → mS → Option (Int32 × mS))
  | 0 => (fun _ _ _ => none)
  | n + 1 => (gX11_tellsAs (sccX11_tellsAs n))
theorem tsccX11_tellsAs {ρ : mRo} {d : Nat} {V : mS → List mE} (hV : mView LX V) : ∀ n : Nat, (∀ {x1 x2 : Int32} {s : mS} {res : (Int32 × mS)} {Q : mPo}, sccX11_tellsAs n x1 x2 s = some res → Q (some (.int res.1)) (V res.2) → mC ρ (n + d + 181) 219 [.ref qX, .int x1, .int x2] (V s) Q) := by
  intro n
  induction n with
  | zero => exact (fun hf _ => nomatch hf)
  | succ n ih =>
    rw [show n + 1 + d + 181 = n + d + 181 + 1 by omega]
    exact (fun hf hP => uX11_tellsAs hV ih hf hP)
def fX11_tellsAs (x1 : Int32) (x2 : Int32) (s : mS) : Option (Int32 × mS) := sccX11_tellsAs 60 x1 x2 s
theorem tX11_tellsAs {ρ : mRo} {d : Nat} {P : mPo} {V : mS → List mE} (hV : mView LX V) {x1 : Int32} {x2 : Int32} {s : mS} {res : (Int32 × mS)} (hf : fX11_tellsAs x1 x2 s = some res) (hP : P (some (.int res.1)) (V res.2)) : mC ρ (d + 241) 219 [.ref qX, .int x1, .int x2] (V s) P := by
  rw [show d + 241 = 60 + d + 181 by omega]
  exact (tsccX11_tellsAs hV 60) hf hP

theorem dX11_act_0 : decode cX11_act 0 = .ok (.aload_n 0, 1) := by decide +kernel
theorem dX11_act_1 : decode cX11_act 1 = .ok (.iconst 0, 1) := by decide +kernel
theorem dX11_act_2 : decode cX11_act 2 = .ok (.putfield 287, 3) := by decide +kernel
theorem dX11_act_5 : decode cX11_act 5 = .ok (.aload_n 0, 1) := by decide +kernel
theorem dX11_act_6 : decode cX11_act 6 = .ok (.iload_n 1, 1) := by decide +kernel
theorem dX11_act_7 : decode cX11_act 7 = .ok (.invokevirtual 312, 3) := by decide +kernel
theorem dX11_act_10 : decode cX11_act 10 = .ok (.ifCond .ne 5, 3) := by decide +kernel
theorem dX11_act_13 : decode cX11_act 13 = .ok (.iconst 0, 1) := by decide +kernel
theorem dX11_act_14 : decode cX11_act 14 = .ok (.ireturn, 1) := by decide +kernel
theorem dX11_act_15 : decode cX11_act 15 = .ok (.aload_n 0, 1) := by decide +kernel
theorem dX11_act_16 : decode cX11_act 16 = .ok (.aload_n 0, 1) := by decide +kernel
theorem dX11_act_17 : decode cX11_act 17 = .ok (.getfield 62, 3) := by decide +kernel
theorem dX11_act_20 : decode cX11_act 20 = .ok (.iload_n 1, 1) := by decide +kernel
theorem dX11_act_21 : decode cX11_act 21 = .ok (.iaload, 1) := by decide +kernel
theorem dX11_act_22 : decode cX11_act 22 = .ok (.putfield 303, 3) := by decide +kernel
theorem dX11_act_25 : decode cX11_act 25 = .ok (.aload_n 0, 1) := by decide +kernel
theorem dX11_act_26 : decode cX11_act 26 = .ok (.iload_n 1, 1) := by decide +kernel
theorem dX11_act_27 : decode cX11_act 27 = .ok (.putfield 297, 3) := by decide +kernel
theorem dX11_act_30 : decode cX11_act 30 = .ok (.iload_n 2, 1) := by decide +kernel
theorem dX11_act_31 : decode cX11_act 31 = .ok (.tableswitch 69 0 3 #[29, 39, 49, 59], 29) := by decide +kernel
theorem dX11_act_60 : decode cX11_act 60 = .ok (.aload_n 0, 1) := by decide +kernel
theorem dX11_act_61 : decode cX11_act 61 = .ok (.aload_n 0, 1) := by decide +kernel
theorem dX11_act_62 : decode cX11_act 62 = .ok (.getfield 303, 3) := by decide +kernel
theorem dX11_act_65 : decode cX11_act 65 = .ok (.iload_n 3, 1) := by decide +kernel
theorem dX11_act_66 : decode cX11_act 66 = .ok (.invokevirtual 294, 3) := by decide +kernel
theorem dX11_act_69 : decode cX11_act 69 = .ok (.ireturn, 1) := by decide +kernel
theorem dX11_act_70 : decode cX11_act 70 = .ok (.aload_n 0, 1) := by decide +kernel
theorem dX11_act_71 : decode cX11_act 71 = .ok (.aload_n 0, 1) := by decide +kernel
theorem dX11_act_72 : decode cX11_act 72 = .ok (.getfield 303, 3) := by decide +kernel
theorem dX11_act_75 : decode cX11_act 75 = .ok (.iload_n 3, 1) := by decide +kernel
theorem dX11_act_76 : decode cX11_act 76 = .ok (.invokevirtual 300, 3) := by decide +kernel
theorem dX11_act_79 : decode cX11_act 79 = .ok (.ireturn, 1) := by decide +kernel
theorem dX11_act_80 : decode cX11_act 80 = .ok (.aload_n 0, 1) := by decide +kernel
theorem dX11_act_81 : decode cX11_act 81 = .ok (.aload_n 0, 1) := by decide +kernel
theorem dX11_act_82 : decode cX11_act 82 = .ok (.getfield 303, 3) := by decide +kernel
theorem dX11_act_85 : decode cX11_act 85 = .ok (.iload_n 3, 1) := by decide +kernel
theorem dX11_act_86 : decode cX11_act 86 = .ok (.invokevirtual 306, 3) := by decide +kernel
theorem dX11_act_89 : decode cX11_act 89 = .ok (.ireturn, 1) := by decide +kernel
theorem dX11_act_90 : decode cX11_act 90 = .ok (.aload_n 0, 1) := by decide +kernel
theorem dX11_act_91 : decode cX11_act 91 = .ok (.aload_n 0, 1) := by decide +kernel
theorem dX11_act_92 : decode cX11_act 92 = .ok (.getfield 303, 3) := by decide +kernel
theorem dX11_act_95 : decode cX11_act 95 = .ok (.iload_n 3, 1) := by decide +kernel
theorem dX11_act_96 : decode cX11_act 96 = .ok (.invokevirtual 309, 3) := by decide +kernel
theorem dX11_act_99 : decode cX11_act 99 = .ok (.ireturn, 1) := by decide +kernel
theorem dX11_act_100 : decode cX11_act 100 = .ok (.iconst 0, 1) := by decide +kernel
theorem dX11_act_101 : decode cX11_act 101 = .ok (.ireturn, 1) := by decide +kernel
def fX11_act (x1 : Int32) (x2 : Int32) (x3 : Int32) (s : mS) : Option (Int32 × mS) :=
  bnd (pI s iX_ran 0) fun s1 =>
  bO (fX11_isBody x1 s1) fun r2 =>
  if r2 = 0 then
    some (0, s1)
  else
    ldA s1 aX_bodyKind 50 x1 fun v3 =>
    bnd (pI s1 iX_ownKind v3) fun s4 =>
    bnd (pI s4 iX_ownNumber x1) fun s5 =>
    if x2 = 0 then
      bP (fX11_typesAs (gI s5 iX_ownKind) x3 s5) fun r6 s7 =>
      some (r6, s7)
    else if x2 = 1 then
      bP (fX11_sticksAs (gI s5 iX_ownKind) x3 s5) fun r8 s9 =>
      some (r8, s9)
    else if x2 = 2 then
      bP (fX11_ringsAs (gI s5 iX_ownKind) x3 s5) fun r10 s11 =>
      some (r10, s11)
    else if x2 = 3 then
      bP (fX11_tellsAs (gI s5 iX_ownKind) x3 s5) fun r12 s13 =>
      some (r12, s13)
    else
      some (0, s5)

set_option maxRecDepth 20000 in
theorem tX11_act {ρ : mRo} {d : Nat} {P : mPo} {V : mS → List mE} (hV : mView LX V)  {x1 : Int32} {x2 : Int32} {x3 : Int32} {s : mS} {res : (Int32 × mS)} (hf : fX11_act x1 x2 x3 s = some res) (hP : P (some (.int res.1)) (V res.2)) : mC ρ (d + 242) 220 [.ref qX, .int x1, .int x2, .int x3] (V s) P := by
  refine ⟨_, rfl, Nat.le_of_ble_eq_true rfl, by decide, ?_⟩
  show mG ρ (mC ρ (d + 241)) 11 4 cX11_act (some .int) P 0 [(0, .ref qX), (1, .int x1), (2, .int x2), (3, .int x3)] [] (V s)
  unfold fX11_act at hf
  refine e_aload_n 0 dX11_act_0 rfl rfl ?_
  refine e_iconst (w := 0) dX11_act_1 (by decide) ?_
  refine e_puti hV dX11_act_2 rfl rfl rfl (Or.inl rfl) lx_X rfl hf (fun s1 hf => ?_)
  refine e_aload_n 0 dX11_act_5 rfl rfl ?_
  refine e_iload_n 1 dX11_act_6 rfl rfl ?_
  obtain ⟨r2, hg, hf⟩ := bO_some hf
  refine e_callV (as := [.int x1]) (v := (some (.int r2))) (s' := s1) hV dX11_act_7 (Or.inl rfl) rfl rfl rfl rfl (Nat.le_of_ble_eq_true rfl) lx_X rfl rfl (fun Q hQ => tX11_isBody (d := (d + 239)) hV  hg hQ) ?_
  refine e_if_ne 15 dX11_act_10 (by decide) hf (fun hf => ?_) (fun hf => ?_)
  · refine e_aload_n 0 dX11_act_15 rfl rfl ?_
    refine e_aload_n 0 dX11_act_16 rfl rfl ?_
    refine e_getr hV dX11_act_17 rfl lx_X rfl ?_
    refine e_iload_n 1 dX11_act_20 rfl rfl ?_
    refine e_iald hV dX11_act_21 lx_X_bodyKind hf (fun v3 hf => ?_)
    refine e_puti hV dX11_act_22 rfl rfl rfl (Or.inl rfl) lx_X rfl hf (fun s4 hf => ?_)
    refine e_aload_n 0 dX11_act_25 rfl rfl ?_
    refine e_iload_n 1 dX11_act_26 rfl rfl ?_
    refine e_puti hV dX11_act_27 rfl rfl rfl (Or.inl rfl) lx_X rfl hf (fun s5 hf => ?_)
    refine e_iload_n 2 dX11_act_30 rfl rfl ?_
    by_cases hc0 : x2 = 0
    · rw [if_pos hc0] at hf
      refine e_tabI (off := 29) (tgt := 60) dX11_act_31 hc0 (by decide) (by decide) ?_
      refine e_aload_n 0 dX11_act_60 rfl rfl ?_
      refine e_aload_n 0 dX11_act_61 rfl rfl ?_
      refine e_geti hV dX11_act_62 rfl lx_X rfl ?_
      refine e_iload_n 3 dX11_act_65 rfl rfl ?_
      obtain ⟨r6, s7, hg, hf⟩ := bP_some hf
      refine e_callV (as := [.int (gI s5 iX_ownKind), .int x3]) (v := (some (.int r6))) (s' := s7) hV dX11_act_66 (Or.inl rfl) rfl rfl rfl rfl (Nat.le_of_ble_eq_true rfl) lx_X rfl rfl (fun Q hQ => tX11_typesAs (d := (d + 180)) hV  hg hQ) ?_
      obtain rfl := Option.some.inj hf
      exact e_iret dX11_act_69 trivial hP
    rw [if_neg hc0] at hf
    by_cases hc1 : x2 = 1
    · rw [if_pos hc1] at hf
      refine e_tabI (off := 39) (tgt := 70) dX11_act_31 hc1 (by decide) (by decide) ?_
      refine e_aload_n 0 dX11_act_70 rfl rfl ?_
      refine e_aload_n 0 dX11_act_71 rfl rfl ?_
      refine e_geti hV dX11_act_72 rfl lx_X rfl ?_
      refine e_iload_n 3 dX11_act_75 rfl rfl ?_
      obtain ⟨r8, s9, hg, hf⟩ := bP_some hf
      refine e_callV (as := [.int (gI s5 iX_ownKind), .int x3]) (v := (some (.int r8))) (s' := s9) hV dX11_act_76 (Or.inl rfl) rfl rfl rfl rfl (Nat.le_of_ble_eq_true rfl) lx_X rfl rfl (fun Q hQ => tX11_sticksAs (d := (d + 60)) hV  hg hQ) ?_
      obtain rfl := Option.some.inj hf
      exact e_iret dX11_act_79 trivial hP
    rw [if_neg hc1] at hf
    by_cases hc2 : x2 = 2
    · rw [if_pos hc2] at hf
      refine e_tabI (off := 49) (tgt := 80) dX11_act_31 hc2 (by decide) (by decide) ?_
      refine e_aload_n 0 dX11_act_80 rfl rfl ?_
      refine e_aload_n 0 dX11_act_81 rfl rfl ?_
      refine e_geti hV dX11_act_82 rfl lx_X rfl ?_
      refine e_iload_n 3 dX11_act_85 rfl rfl ?_
      obtain ⟨r10, s11, hg, hf⟩ := bP_some hf
      refine e_callV (as := [.int (gI s5 iX_ownKind), .int x3]) (v := (some (.int r10))) (s' := s11) hV dX11_act_86 (Or.inl rfl) rfl rfl rfl rfl (Nat.le_of_ble_eq_true rfl) lx_X rfl rfl (fun Q hQ => tX11_ringsAs (d := (d + 120)) hV  hg hQ) ?_
      obtain rfl := Option.some.inj hf
      exact e_iret dX11_act_89 trivial hP
    rw [if_neg hc2] at hf
    by_cases hc3 : x2 = 3
    · rw [if_pos hc3] at hf
      refine e_tabI (off := 59) (tgt := 90) dX11_act_31 hc3 (by decide) (by decide) ?_
      refine e_aload_n 0 dX11_act_90 rfl rfl ?_
      refine e_aload_n 0 dX11_act_91 rfl rfl ?_
      refine e_geti hV dX11_act_92 rfl lx_X rfl ?_
      refine e_iload_n 3 dX11_act_95 rfl rfl ?_
      obtain ⟨r12, s13, hg, hf⟩ := bP_some hf
      refine e_callV (as := [.int (gI s5 iX_ownKind), .int x3]) (v := (some (.int r12))) (s' := s13) hV dX11_act_96 (Or.inl rfl) rfl rfl rfl rfl (Nat.le_of_ble_eq_true rfl) lx_X rfl rfl (fun Q hQ => tX11_tellsAs (d := d) hV  hg hQ) ?_
      obtain rfl := Option.some.inj hf
      exact e_iret dX11_act_99 trivial hP
    rw [if_neg hc3] at hf
    refine e_tabD (tgt := 100) (ks := [0, 1, 2, 3]) dX11_act_31 (by decide) (fun z hz => ?_) ?_
    · simp only [List.mem_cons, List.not_mem_nil, or_false] at hz
      rcases hz with rfl | rfl | rfl | rfl
      · exact hc0
      · exact hc1
      · exact hc2
      · exact hc3
    refine e_iconst (w := 0) dX11_act_100 (by decide) ?_
    obtain rfl := Option.some.inj hf
    exact e_iret dX11_act_101 trivial hP
  · refine e_iconst (w := 0) dX11_act_13 (by decide) ?_
    obtain rfl := Option.some.inj hf
    exact e_iret dX11_act_14 trivial hP
