-- ghosts
theorem Rel.run {c x d y : mS} (h : Rel c x) (I : ∀ k, k ∉ ([50] : List Nat) → gI d k = gI c k) (hA : ∀ k, k ∉ ([22] : List Nat) → ∀ i, gA d k i = gA c k i) (hL : ∀ k i, gL d k i = gL c k i) (X : ∀ k, k ∉ ([18, 19, 20] : List Nat) → gI y k = gI x k) (hB : ∀ k, k ∉ ([17] : List Nat) → ∀ i, gA y k i = gA x k i) (hM : ∀ k i, k ≠ lX_carried → gL y k i = gL x k i) (qrU : rU d y) : Rel d y := by
  obtain ⟨h1, h2, h3, h4, h5, h6, h7, h8⟩ := h
  have eA : ∀ k, k ∉ ([22] : List Nat) → gA d k = gA c k := fun k hk => funext (fun i => hA k hk i)
  have eB : ∀ k, k ∉ ([17] : List Nat) → gA y k = gA x k := fun k hk => funext (fun i => hB k hk i)
  refine ⟨?_, ?_, ?_, ?_, ?_, qrU, ?_, ?_⟩
  · unfold rN at h1 ⊢
    rw [I (iM_size 0) (by decide), I (iW_size 0) (by decide), I (iM_ribbon 0) (by decide), X iX_machines (by decide), X iX_writers (by decide), eA (aM_pulls 0) (by decide), eA (aM_ages 0) (by decide), eA (aW_hands 0) (by decide), eA (aW_touches 0) (by decide), eB aX_may (by decide)]
    exact h1
  · unfold rH at h2 ⊢
    rw [I iH_done (by decide), I iH_kept (by decide), X iX_done (by decide), X iX_keptMany (by decide), eA aH_numbers (by decide), eA aH_whats (by decide), eA aH_olds (by decide), eA aH_news (by decide), eB aX_changeAt (by decide), eB aX_changeWas (by decide), eB aX_changeIs (by decide)]
    exact h2
  · unfold rT at h3 ⊢
    rw [I iP_size (by decide), X iX_tapeMany (by decide), eA aP_bytes (by decide), eB aX_tape (by decide)]
    exact h3
  · unfold rL at h4 ⊢
    rw [I iL_told (by decide), X iX_textMany (by decide), I iL_stepsSize (by decide), eA aL_steps (by decide), eB aX_text (by decide)]
    exact h4
  · unfold rI at h5 ⊢
    rw [I iT_imageKept (by decide), X iX_isKept (by decide), I (iM_size 2) (by decide), X iX_imageMachines (by decide), eB aX_imageMay (by decide), eA (aM_pulls 2) (by decide), eA (aM_ages 2) (by decide), I (iW_size 1) (by decide), X iX_imageWriters (by decide), eA (aW_hands 1) (by decide), eB aX_imageLed (by decide), I (iG_letters 1) (by decide), I (iG_cleanings 1) (by decide), I (iG_learnings 1) (by decide), I (iG_showed 1) (by decide), I (iG_latest 1) (by decide), X iX_imageLatest (by decide)]
    exact h5
  · exact h7.keep (fun k k1 k2 => I k (by simp only [List.mem_cons, List.not_mem_nil, or_false]; omega)) (I iU_size (by decide)) hL (eB _ (by decide)) (eB _ (by decide)) (funext (fun i => hM _ i (by decide)))
  · unfold rG at h8 ⊢
    rw [eB aX_ledNow (by decide), I (iG_letters 0) (by decide), I (iG_cleanings 0) (by decide), I (iG_learnings 0) (by decide), I (iG_showed 0) (by decide), I (iG_latest 0) (by decide), X iX_latest (by decide)]
    exact h8
def AC (K b r : Nat) (c x : mS) : Prop := Rel c x ∧ K ≤ 7 ∧ b < 50 ∧ gI x iX_ownKind = nI K ∧ gI x iX_ownNumber = nI b ∧ gA c aU_kinds b = nI K ∧ gI c iU_ran = nI r
theorem note_both {K b r v : Nat} {c x : mS} (h : AC K b r c x) (hr : r + 1 ≤ 1000) : ∃ c' x', fX3_note (nI v) c = some c' ∧ fX11_runs (nI v) x = some x' ∧ AC K b (r + 1) c' x' := by
  obtain ⟨hR, hK, hb, k1, k2, k3, k4⟩ := h
  obtain ⟨u1, r', hr', e1, e2, e3⟩ := hR.2.2.2.2.2.1
  have er : r' = r := (nEq (by omega) (by omega)).mp (e1.symm.trans k4)
  subst er
  unfold fX3_note fX11_runs fX3_note_b19 fX11_runs_b19
  rw [e1, e2]
  by_cases g : 24 ≤ r'
  · have z : nI 24 ≤ nI r' := (nLe (by omega) (by omega)).mpr g
    rw [if_pos z, if_pos z, bnd_d, bnd_d, nA]
    refine ⟨_, _, rfl, rfl, ?_, hK, hb, k1, k2, k3, rfl⟩
    refine hR.run (fun k hk => gI_ne (fun e => hk (e ▸ by decide))) (fun _ _ _ => rfl) (fun _ _ => rfl) (fun k hk => gI_ne (fun e => hk (e ▸ by decide))) (fun _ _ _ => rfl) (fun _ _ _ => rfl) ⟨?_, r' + 1, by omega, rfl, rfl, fun i hi h24 => ?_⟩
    · obtain ⟨n, hn, n1, n2, n3⟩ := u1
      exact ⟨n, hn, n1, n2, n3⟩
    · exact e3 i (by omega) h24
  · have z : ¬ nI 24 ≤ nI r' := fun z => g ((nLe (by omega) (by omega)).mp z)
    rw [if_neg z, if_neg z, stA_n (by omega) (by omega), stA_n (by omega) (by omega), bnd_d, bnd_d]
    have e1' : gI (pA c aU_traced r' (nI v)) iU_ran = nI r' := e1
    have e2' : gI (pA x aX_trace r' (nI v)) iX_ran = nI r' := e2
    rw [e1', e2', nA]
    refine ⟨_, _, rfl, rfl, ?_, hK, hb, k1, k2, ?_, rfl⟩
    · refine hR.run (fun k hk => gI_ne (fun e => hk (e ▸ by decide))) (fun k hk i => ?_) (fun _ _ => rfl) (fun k hk => gI_ne (fun e => hk (e ▸ by decide))) (fun k hk i => ?_) (fun _ _ _ => rfl) ⟨?_, r' + 1, by omega, rfl, rfl, fun i hi h24 => ?_⟩
      · rw [gA_pI, gA_ne (show k ≠ aU_traced from fun e => hk (e ▸ by decide))]
      · rw [gA_pI, gA_ne (show k ≠ aX_trace from fun e => hk (e ▸ by decide))]
      · obtain ⟨n, hn, n1, n2, n3⟩ := u1
        refine ⟨n, hn, n1, n2, fun i hi => ?_⟩
        rw [gA_pI, gA_ne (by decide), gA_pI, gA_ne (by decide)]
        exact n3 i hi
      · rw [gA_pI, gA_eq, gA_pI, gA_eq]
        by_cases e : i = r'
        · rw [if_pos e, if_pos e]
        · rw [if_neg e, if_neg e]; exact e3 i (by omega) h24
    · rw [gA_pI, gA_ne (by decide)]; exact k3
def refA (a m : Nat) : Int32 → Int32 → mS → Option (Int32 × mS) := if a = 0 then sccX11_typesAs m else if a = 1 then sccX11_sticksAs m else if a = 2 then sccX11_ringsAs m else sccX11_tellsAs m
/-- the act a as kind k: the class's and the reference's -/
def SP (a k co de fu : Nat) : Prop := ∀ (n m : Nat), fu ≤ n → fu ≤ m → ∀ (K b r d : Nat) (y : Int32) (c x : mS), d + de ≤ 40 → r + co ≤ 1000 → AC K b r c x → ∃ v c' x' r', (sccX3_perform n).1 (nI b) (nI k) (nI a) y (nI d) c = some (v, c') ∧ refA a m (nI k) y x = some (v, x') ∧ r' ≤ r + co ∧ AC K b r' c' x'
theorem dp_0_0 (R0 : Int32 → Int32 → Int32 → Int32 → Int32 → mS → Option (Int32 × mS)) (R1 R2 : Int32 → Int32 → Int32 → Int32 → mS → Option (Int32 × mS)) (R3 : Int32 → Int32 → Int32 → Int32 → Int32 → mS → Option (Int32 × mS)) (b y d : Int32) (c : mS) : gX3_perform R0 R1 R2 R3 b (nI 0) (nI 0) y d c = gX3_perform_b45 R0 R1 R2 R3 b (nI 0) y d (nI 0) c := by
  unfold gX3_perform
  rw [bnd_d, bnd_d, show mFu = 5990 + 10 from rfl]
  rw [gX3_perform_b6, if_neg (show ¬ nI 8 ≤ nI 0 by decide), if_neg (show ¬ nI 0 < 0 by decide), nM, nA, ldR_n (show 4 * 0 + 0 < 32 by decide) (by decide)]
  rw [if_neg (show ¬ roOwn (4 * 0 + 0) = 0 by decide)]
theorem dp_0_1 (R0 : Int32 → Int32 → Int32 → Int32 → Int32 → mS → Option (Int32 × mS)) (R1 R2 : Int32 → Int32 → Int32 → Int32 → mS → Option (Int32 × mS)) (R3 : Int32 → Int32 → Int32 → Int32 → Int32 → mS → Option (Int32 × mS)) (b y d : Int32) (c : mS) : gX3_perform R0 R1 R2 R3 b (nI 1) (nI 0) y d c = gX3_perform_b45 R0 R1 R2 R3 b (nI 0) y d (nI 1) c := by
  unfold gX3_perform
  rw [bnd_d, bnd_d, show mFu = 5990 + 10 from rfl]
  rw [gX3_perform_b6, if_neg (show ¬ nI 8 ≤ nI 0 by decide), if_neg (show ¬ nI 1 < 0 by decide), nM, nA, ldR_n (show 4 * 1 + 0 < 32 by decide) (by decide)]
  rw [if_neg (show ¬ roOwn (4 * 1 + 0) = 0 by decide)]
theorem dp_0_2 (R0 : Int32 → Int32 → Int32 → Int32 → Int32 → mS → Option (Int32 × mS)) (R1 R2 : Int32 → Int32 → Int32 → Int32 → mS → Option (Int32 × mS)) (R3 : Int32 → Int32 → Int32 → Int32 → Int32 → mS → Option (Int32 × mS)) (b y d : Int32) (c : mS) : gX3_perform R0 R1 R2 R3 b (nI 2) (nI 0) y d c = gX3_perform_b45 R0 R1 R2 R3 b (nI 0) y d (nI 0) c := by
  unfold gX3_perform
  rw [bnd_d, bnd_d, show mFu = 5990 + 10 from rfl]
  rw [gX3_perform_b6, if_neg (show ¬ nI 8 ≤ nI 0 by decide), if_neg (show ¬ nI 2 < 0 by decide), nM, nA, ldR_n (show 4 * 2 + 0 < 32 by decide) (by decide)]
  rw [if_pos (show roOwn (4 * 2 + 0) = 0 by decide), ldR_n (show 2 < 8 by decide) (by decide), show roAbove 2 = nI 0 by decide, bnd_d, bnd_d, show nI 0 + nI 1 = nI 1 by decide]
  rw [gX3_perform_b6, if_neg (show ¬ nI 8 ≤ nI 1 by decide), if_neg (show ¬ nI 0 < 0 by decide), nM, nA, ldR_n (show 4 * 0 + 0 < 32 by decide) (by decide)]
  rw [if_neg (show ¬ roOwn (4 * 0 + 0) = 0 by decide)]
theorem dp_0_3 (R0 : Int32 → Int32 → Int32 → Int32 → Int32 → mS → Option (Int32 × mS)) (R1 R2 : Int32 → Int32 → Int32 → Int32 → mS → Option (Int32 × mS)) (R3 : Int32 → Int32 → Int32 → Int32 → Int32 → mS → Option (Int32 × mS)) (b y d : Int32) (c : mS) : gX3_perform R0 R1 R2 R3 b (nI 3) (nI 0) y d c = gX3_perform_b45 R0 R1 R2 R3 b (nI 0) y d (nI 0) c := by
  unfold gX3_perform
  rw [bnd_d, bnd_d, show mFu = 5990 + 10 from rfl]
  rw [gX3_perform_b6, if_neg (show ¬ nI 8 ≤ nI 0 by decide), if_neg (show ¬ nI 3 < 0 by decide), nM, nA, ldR_n (show 4 * 3 + 0 < 32 by decide) (by decide)]
  rw [if_pos (show roOwn (4 * 3 + 0) = 0 by decide), ldR_n (show 3 < 8 by decide) (by decide), show roAbove 3 = nI 2 by decide, bnd_d, bnd_d, show nI 0 + nI 1 = nI 1 by decide]
  rw [gX3_perform_b6, if_neg (show ¬ nI 8 ≤ nI 1 by decide), if_neg (show ¬ nI 2 < 0 by decide), nM, nA, ldR_n (show 4 * 2 + 0 < 32 by decide) (by decide)]
  rw [if_pos (show roOwn (4 * 2 + 0) = 0 by decide), ldR_n (show 2 < 8 by decide) (by decide), show roAbove 2 = nI 0 by decide, bnd_d, bnd_d, show nI 1 + nI 1 = nI 2 by decide]
  rw [gX3_perform_b6, if_neg (show ¬ nI 8 ≤ nI 2 by decide), if_neg (show ¬ nI 0 < 0 by decide), nM, nA, ldR_n (show 4 * 0 + 0 < 32 by decide) (by decide)]
  rw [if_neg (show ¬ roOwn (4 * 0 + 0) = 0 by decide)]
theorem dp_0_4 (R0 : Int32 → Int32 → Int32 → Int32 → Int32 → mS → Option (Int32 × mS)) (R1 R2 : Int32 → Int32 → Int32 → Int32 → mS → Option (Int32 × mS)) (R3 : Int32 → Int32 → Int32 → Int32 → Int32 → mS → Option (Int32 × mS)) (b y d : Int32) (c : mS) : gX3_perform R0 R1 R2 R3 b (nI 4) (nI 0) y d c = gX3_perform_b45 R0 R1 R2 R3 b (nI 0) y d (nI 1) c := by
  unfold gX3_perform
  rw [bnd_d, bnd_d, show mFu = 5990 + 10 from rfl]
  rw [gX3_perform_b6, if_neg (show ¬ nI 8 ≤ nI 0 by decide), if_neg (show ¬ nI 4 < 0 by decide), nM, nA, ldR_n (show 4 * 4 + 0 < 32 by decide) (by decide)]
  rw [if_pos (show roOwn (4 * 4 + 0) = 0 by decide), ldR_n (show 4 < 8 by decide) (by decide), show roAbove 4 = nI 1 by decide, bnd_d, bnd_d, show nI 0 + nI 1 = nI 1 by decide]
  rw [gX3_perform_b6, if_neg (show ¬ nI 8 ≤ nI 1 by decide), if_neg (show ¬ nI 1 < 0 by decide), nM, nA, ldR_n (show 4 * 1 + 0 < 32 by decide) (by decide)]
  rw [if_neg (show ¬ roOwn (4 * 1 + 0) = 0 by decide)]
theorem dp_0_5 (R0 : Int32 → Int32 → Int32 → Int32 → Int32 → mS → Option (Int32 × mS)) (R1 R2 : Int32 → Int32 → Int32 → Int32 → mS → Option (Int32 × mS)) (R3 : Int32 → Int32 → Int32 → Int32 → Int32 → mS → Option (Int32 × mS)) (b y d : Int32) (c : mS) : gX3_perform R0 R1 R2 R3 b (nI 5) (nI 0) y d c = gX3_perform_b45 R0 R1 R2 R3 b (nI 0) y d (nI 0) c := by
  unfold gX3_perform
  rw [bnd_d, bnd_d, show mFu = 5990 + 10 from rfl]
  rw [gX3_perform_b6, if_neg (show ¬ nI 8 ≤ nI 0 by decide), if_neg (show ¬ nI 5 < 0 by decide), nM, nA, ldR_n (show 4 * 5 + 0 < 32 by decide) (by decide)]
  rw [if_pos (show roOwn (4 * 5 + 0) = 0 by decide), ldR_n (show 5 < 8 by decide) (by decide), show roAbove 5 = nI 3 by decide, bnd_d, bnd_d, show nI 0 + nI 1 = nI 1 by decide]
  rw [gX3_perform_b6, if_neg (show ¬ nI 8 ≤ nI 1 by decide), if_neg (show ¬ nI 3 < 0 by decide), nM, nA, ldR_n (show 4 * 3 + 0 < 32 by decide) (by decide)]
  rw [if_pos (show roOwn (4 * 3 + 0) = 0 by decide), ldR_n (show 3 < 8 by decide) (by decide), show roAbove 3 = nI 2 by decide, bnd_d, bnd_d, show nI 1 + nI 1 = nI 2 by decide]
  rw [gX3_perform_b6, if_neg (show ¬ nI 8 ≤ nI 2 by decide), if_neg (show ¬ nI 2 < 0 by decide), nM, nA, ldR_n (show 4 * 2 + 0 < 32 by decide) (by decide)]
  rw [if_pos (show roOwn (4 * 2 + 0) = 0 by decide), ldR_n (show 2 < 8 by decide) (by decide), show roAbove 2 = nI 0 by decide, bnd_d, bnd_d, show nI 2 + nI 1 = nI 3 by decide]
  rw [gX3_perform_b6, if_neg (show ¬ nI 8 ≤ nI 3 by decide), if_neg (show ¬ nI 0 < 0 by decide), nM, nA, ldR_n (show 4 * 0 + 0 < 32 by decide) (by decide)]
  rw [if_neg (show ¬ roOwn (4 * 0 + 0) = 0 by decide)]
theorem dp_0_6 (R0 : Int32 → Int32 → Int32 → Int32 → Int32 → mS → Option (Int32 × mS)) (R1 R2 : Int32 → Int32 → Int32 → Int32 → mS → Option (Int32 × mS)) (R3 : Int32 → Int32 → Int32 → Int32 → Int32 → mS → Option (Int32 × mS)) (b y d : Int32) (c : mS) : gX3_perform R0 R1 R2 R3 b (nI 6) (nI 0) y d c = gX3_perform_b45 R0 R1 R2 R3 b (nI 0) y d (nI 6) c := by
  unfold gX3_perform
  rw [bnd_d, bnd_d, show mFu = 5990 + 10 from rfl]
  rw [gX3_perform_b6, if_neg (show ¬ nI 8 ≤ nI 0 by decide), if_neg (show ¬ nI 6 < 0 by decide), nM, nA, ldR_n (show 4 * 6 + 0 < 32 by decide) (by decide)]
  rw [if_neg (show ¬ roOwn (4 * 6 + 0) = 0 by decide)]
theorem dp_0_7 (R0 : Int32 → Int32 → Int32 → Int32 → Int32 → mS → Option (Int32 × mS)) (R1 R2 : Int32 → Int32 → Int32 → Int32 → mS → Option (Int32 × mS)) (R3 : Int32 → Int32 → Int32 → Int32 → Int32 → mS → Option (Int32 × mS)) (b y d : Int32) (c : mS) : gX3_perform R0 R1 R2 R3 b (nI 7) (nI 0) y d c = gX3_perform_b45 R0 R1 R2 R3 b (nI 0) y d (nI 1) c := by
  unfold gX3_perform
  rw [bnd_d, bnd_d, show mFu = 5990 + 10 from rfl]
  rw [gX3_perform_b6, if_neg (show ¬ nI 8 ≤ nI 0 by decide), if_neg (show ¬ nI 7 < 0 by decide), nM, nA, ldR_n (show 4 * 7 + 0 < 32 by decide) (by decide)]
  rw [if_pos (show roOwn (4 * 7 + 0) = 0 by decide), ldR_n (show 7 < 8 by decide) (by decide), show roAbove 7 = nI 4 by decide, bnd_d, bnd_d, show nI 0 + nI 1 = nI 1 by decide]
  rw [gX3_perform_b6, if_neg (show ¬ nI 8 ≤ nI 1 by decide), if_neg (show ¬ nI 4 < 0 by decide), nM, nA, ldR_n (show 4 * 4 + 0 < 32 by decide) (by decide)]
  rw [if_pos (show roOwn (4 * 4 + 0) = 0 by decide), ldR_n (show 4 < 8 by decide) (by decide), show roAbove 4 = nI 1 by decide, bnd_d, bnd_d, show nI 1 + nI 1 = nI 2 by decide]
  rw [gX3_perform_b6, if_neg (show ¬ nI 8 ≤ nI 2 by decide), if_neg (show ¬ nI 1 < 0 by decide), nM, nA, ldR_n (show 4 * 1 + 0 < 32 by decide) (by decide)]
  rw [if_neg (show ¬ roOwn (4 * 1 + 0) = 0 by decide)]
theorem dp_1_0 (R0 : Int32 → Int32 → Int32 → Int32 → Int32 → mS → Option (Int32 × mS)) (R1 R2 : Int32 → Int32 → Int32 → Int32 → mS → Option (Int32 × mS)) (R3 : Int32 → Int32 → Int32 → Int32 → Int32 → mS → Option (Int32 × mS)) (b y d : Int32) (c : mS) : gX3_perform R0 R1 R2 R3 b (nI 0) (nI 1) y d c = gX3_perform_b45 R0 R1 R2 R3 b (nI 1) y d (nI 0) c := by
  unfold gX3_perform
  rw [bnd_d, bnd_d, show mFu = 5990 + 10 from rfl]
  rw [gX3_perform_b6, if_neg (show ¬ nI 8 ≤ nI 0 by decide), if_neg (show ¬ nI 0 < 0 by decide), nM, nA, ldR_n (show 4 * 0 + 1 < 32 by decide) (by decide)]
  rw [if_neg (show ¬ roOwn (4 * 0 + 1) = 0 by decide)]
theorem dp_1_1 (R0 : Int32 → Int32 → Int32 → Int32 → Int32 → mS → Option (Int32 × mS)) (R1 R2 : Int32 → Int32 → Int32 → Int32 → mS → Option (Int32 × mS)) (R3 : Int32 → Int32 → Int32 → Int32 → Int32 → mS → Option (Int32 × mS)) (b y d : Int32) (c : mS) : gX3_perform R0 R1 R2 R3 b (nI 1) (nI 1) y d c = gX3_perform_b45 R0 R1 R2 R3 b (nI 1) y d (nI 0) c := by
  unfold gX3_perform
  rw [bnd_d, bnd_d, show mFu = 5990 + 10 from rfl]
  rw [gX3_perform_b6, if_neg (show ¬ nI 8 ≤ nI 0 by decide), if_neg (show ¬ nI 1 < 0 by decide), nM, nA, ldR_n (show 4 * 1 + 1 < 32 by decide) (by decide)]
  rw [if_pos (show roOwn (4 * 1 + 1) = 0 by decide), ldR_n (show 1 < 8 by decide) (by decide), show roAbove 1 = nI 0 by decide, bnd_d, bnd_d, show nI 0 + nI 1 = nI 1 by decide]
  rw [gX3_perform_b6, if_neg (show ¬ nI 8 ≤ nI 1 by decide), if_neg (show ¬ nI 0 < 0 by decide), nM, nA, ldR_n (show 4 * 0 + 1 < 32 by decide) (by decide)]
  rw [if_neg (show ¬ roOwn (4 * 0 + 1) = 0 by decide)]
theorem dp_1_2 (R0 : Int32 → Int32 → Int32 → Int32 → Int32 → mS → Option (Int32 × mS)) (R1 R2 : Int32 → Int32 → Int32 → Int32 → mS → Option (Int32 × mS)) (R3 : Int32 → Int32 → Int32 → Int32 → Int32 → mS → Option (Int32 × mS)) (b y d : Int32) (c : mS) : gX3_perform R0 R1 R2 R3 b (nI 2) (nI 1) y d c = gX3_perform_b45 R0 R1 R2 R3 b (nI 1) y d (nI 2) c := by
  unfold gX3_perform
  rw [bnd_d, bnd_d, show mFu = 5990 + 10 from rfl]
  rw [gX3_perform_b6, if_neg (show ¬ nI 8 ≤ nI 0 by decide), if_neg (show ¬ nI 2 < 0 by decide), nM, nA, ldR_n (show 4 * 2 + 1 < 32 by decide) (by decide)]
  rw [if_neg (show ¬ roOwn (4 * 2 + 1) = 0 by decide)]
theorem dp_1_3 (R0 : Int32 → Int32 → Int32 → Int32 → Int32 → mS → Option (Int32 × mS)) (R1 R2 : Int32 → Int32 → Int32 → Int32 → mS → Option (Int32 × mS)) (R3 : Int32 → Int32 → Int32 → Int32 → Int32 → mS → Option (Int32 × mS)) (b y d : Int32) (c : mS) : gX3_perform R0 R1 R2 R3 b (nI 3) (nI 1) y d c = gX3_perform_b45 R0 R1 R2 R3 b (nI 1) y d (nI 3) c := by
  unfold gX3_perform
  rw [bnd_d, bnd_d, show mFu = 5990 + 10 from rfl]
  rw [gX3_perform_b6, if_neg (show ¬ nI 8 ≤ nI 0 by decide), if_neg (show ¬ nI 3 < 0 by decide), nM, nA, ldR_n (show 4 * 3 + 1 < 32 by decide) (by decide)]
  rw [if_neg (show ¬ roOwn (4 * 3 + 1) = 0 by decide)]
theorem dp_1_4 (R0 : Int32 → Int32 → Int32 → Int32 → Int32 → mS → Option (Int32 × mS)) (R1 R2 : Int32 → Int32 → Int32 → Int32 → mS → Option (Int32 × mS)) (R3 : Int32 → Int32 → Int32 → Int32 → Int32 → mS → Option (Int32 × mS)) (b y d : Int32) (c : mS) : gX3_perform R0 R1 R2 R3 b (nI 4) (nI 1) y d c = gX3_perform_b45 R0 R1 R2 R3 b (nI 1) y d (nI 0) c := by
  unfold gX3_perform
  rw [bnd_d, bnd_d, show mFu = 5990 + 10 from rfl]
  rw [gX3_perform_b6, if_neg (show ¬ nI 8 ≤ nI 0 by decide), if_neg (show ¬ nI 4 < 0 by decide), nM, nA, ldR_n (show 4 * 4 + 1 < 32 by decide) (by decide)]
  rw [if_pos (show roOwn (4 * 4 + 1) = 0 by decide), ldR_n (show 4 < 8 by decide) (by decide), show roAbove 4 = nI 1 by decide, bnd_d, bnd_d, show nI 0 + nI 1 = nI 1 by decide]
  rw [gX3_perform_b6, if_neg (show ¬ nI 8 ≤ nI 1 by decide), if_neg (show ¬ nI 1 < 0 by decide), nM, nA, ldR_n (show 4 * 1 + 1 < 32 by decide) (by decide)]
  rw [if_pos (show roOwn (4 * 1 + 1) = 0 by decide), ldR_n (show 1 < 8 by decide) (by decide), show roAbove 1 = nI 0 by decide, bnd_d, bnd_d, show nI 1 + nI 1 = nI 2 by decide]
  rw [gX3_perform_b6, if_neg (show ¬ nI 8 ≤ nI 2 by decide), if_neg (show ¬ nI 0 < 0 by decide), nM, nA, ldR_n (show 4 * 0 + 1 < 32 by decide) (by decide)]
  rw [if_neg (show ¬ roOwn (4 * 0 + 1) = 0 by decide)]
theorem dp_1_5 (R0 : Int32 → Int32 → Int32 → Int32 → Int32 → mS → Option (Int32 × mS)) (R1 R2 : Int32 → Int32 → Int32 → Int32 → mS → Option (Int32 × mS)) (R3 : Int32 → Int32 → Int32 → Int32 → Int32 → mS → Option (Int32 × mS)) (b y d : Int32) (c : mS) : gX3_perform R0 R1 R2 R3 b (nI 5) (nI 1) y d c = gX3_perform_b45 R0 R1 R2 R3 b (nI 1) y d (nI 3) c := by
  unfold gX3_perform
  rw [bnd_d, bnd_d, show mFu = 5990 + 10 from rfl]
  rw [gX3_perform_b6, if_neg (show ¬ nI 8 ≤ nI 0 by decide), if_neg (show ¬ nI 5 < 0 by decide), nM, nA, ldR_n (show 4 * 5 + 1 < 32 by decide) (by decide)]
  rw [if_pos (show roOwn (4 * 5 + 1) = 0 by decide), ldR_n (show 5 < 8 by decide) (by decide), show roAbove 5 = nI 3 by decide, bnd_d, bnd_d, show nI 0 + nI 1 = nI 1 by decide]
  rw [gX3_perform_b6, if_neg (show ¬ nI 8 ≤ nI 1 by decide), if_neg (show ¬ nI 3 < 0 by decide), nM, nA, ldR_n (show 4 * 3 + 1 < 32 by decide) (by decide)]
  rw [if_neg (show ¬ roOwn (4 * 3 + 1) = 0 by decide)]
theorem dp_1_6 (R0 : Int32 → Int32 → Int32 → Int32 → Int32 → mS → Option (Int32 × mS)) (R1 R2 : Int32 → Int32 → Int32 → Int32 → mS → Option (Int32 × mS)) (R3 : Int32 → Int32 → Int32 → Int32 → Int32 → mS → Option (Int32 × mS)) (b y d : Int32) (c : mS) : gX3_perform R0 R1 R2 R3 b (nI 6) (nI 1) y d c = gX3_perform_b45 R0 R1 R2 R3 b (nI 1) y d (nI 0) c := by
  unfold gX3_perform
  rw [bnd_d, bnd_d, show mFu = 5990 + 10 from rfl]
  rw [gX3_perform_b6, if_neg (show ¬ nI 8 ≤ nI 0 by decide), if_neg (show ¬ nI 6 < 0 by decide), nM, nA, ldR_n (show 4 * 6 + 1 < 32 by decide) (by decide)]
  rw [if_pos (show roOwn (4 * 6 + 1) = 0 by decide), ldR_n (show 6 < 8 by decide) (by decide), show roAbove 6 = nI 0 by decide, bnd_d, bnd_d, show nI 0 + nI 1 = nI 1 by decide]
  rw [gX3_perform_b6, if_neg (show ¬ nI 8 ≤ nI 1 by decide), if_neg (show ¬ nI 0 < 0 by decide), nM, nA, ldR_n (show 4 * 0 + 1 < 32 by decide) (by decide)]
  rw [if_neg (show ¬ roOwn (4 * 0 + 1) = 0 by decide)]
theorem dp_1_7 (R0 : Int32 → Int32 → Int32 → Int32 → Int32 → mS → Option (Int32 × mS)) (R1 R2 : Int32 → Int32 → Int32 → Int32 → mS → Option (Int32 × mS)) (R3 : Int32 → Int32 → Int32 → Int32 → Int32 → mS → Option (Int32 × mS)) (b y d : Int32) (c : mS) : gX3_perform R0 R1 R2 R3 b (nI 7) (nI 1) y d c = gX3_perform_b45 R0 R1 R2 R3 b (nI 1) y d (nI 7) c := by
  unfold gX3_perform
  rw [bnd_d, bnd_d, show mFu = 5990 + 10 from rfl]
  rw [gX3_perform_b6, if_neg (show ¬ nI 8 ≤ nI 0 by decide), if_neg (show ¬ nI 7 < 0 by decide), nM, nA, ldR_n (show 4 * 7 + 1 < 32 by decide) (by decide)]
  rw [if_neg (show ¬ roOwn (4 * 7 + 1) = 0 by decide)]
theorem dp_2_0 (R0 : Int32 → Int32 → Int32 → Int32 → Int32 → mS → Option (Int32 × mS)) (R1 R2 : Int32 → Int32 → Int32 → Int32 → mS → Option (Int32 × mS)) (R3 : Int32 → Int32 → Int32 → Int32 → Int32 → mS → Option (Int32 × mS)) (b y d : Int32) (c : mS) : gX3_perform R0 R1 R2 R3 b (nI 0) (nI 2) y d c = gX3_perform_b45 R0 R1 R2 R3 b (nI 2) y d (nI 0) c := by
  unfold gX3_perform
  rw [bnd_d, bnd_d, show mFu = 5990 + 10 from rfl]
  rw [gX3_perform_b6, if_neg (show ¬ nI 8 ≤ nI 0 by decide), if_neg (show ¬ nI 0 < 0 by decide), nM, nA, ldR_n (show 4 * 0 + 2 < 32 by decide) (by decide)]
  rw [if_neg (show ¬ roOwn (4 * 0 + 2) = 0 by decide)]
theorem dp_2_1 (R0 : Int32 → Int32 → Int32 → Int32 → Int32 → mS → Option (Int32 × mS)) (R1 R2 : Int32 → Int32 → Int32 → Int32 → mS → Option (Int32 × mS)) (R3 : Int32 → Int32 → Int32 → Int32 → Int32 → mS → Option (Int32 × mS)) (b y d : Int32) (c : mS) : gX3_perform R0 R1 R2 R3 b (nI 1) (nI 2) y d c = gX3_perform_b45 R0 R1 R2 R3 b (nI 2) y d (nI 0) c := by
  unfold gX3_perform
  rw [bnd_d, bnd_d, show mFu = 5990 + 10 from rfl]
  rw [gX3_perform_b6, if_neg (show ¬ nI 8 ≤ nI 0 by decide), if_neg (show ¬ nI 1 < 0 by decide), nM, nA, ldR_n (show 4 * 1 + 2 < 32 by decide) (by decide)]
  rw [if_pos (show roOwn (4 * 1 + 2) = 0 by decide), ldR_n (show 1 < 8 by decide) (by decide), show roAbove 1 = nI 0 by decide, bnd_d, bnd_d, show nI 0 + nI 1 = nI 1 by decide]
  rw [gX3_perform_b6, if_neg (show ¬ nI 8 ≤ nI 1 by decide), if_neg (show ¬ nI 0 < 0 by decide), nM, nA, ldR_n (show 4 * 0 + 2 < 32 by decide) (by decide)]
  rw [if_neg (show ¬ roOwn (4 * 0 + 2) = 0 by decide)]
theorem dp_2_2 (R0 : Int32 → Int32 → Int32 → Int32 → Int32 → mS → Option (Int32 × mS)) (R1 R2 : Int32 → Int32 → Int32 → Int32 → mS → Option (Int32 × mS)) (R3 : Int32 → Int32 → Int32 → Int32 → Int32 → mS → Option (Int32 × mS)) (b y d : Int32) (c : mS) : gX3_perform R0 R1 R2 R3 b (nI 2) (nI 2) y d c = gX3_perform_b45 R0 R1 R2 R3 b (nI 2) y d (nI 0) c := by
  unfold gX3_perform
  rw [bnd_d, bnd_d, show mFu = 5990 + 10 from rfl]
  rw [gX3_perform_b6, if_neg (show ¬ nI 8 ≤ nI 0 by decide), if_neg (show ¬ nI 2 < 0 by decide), nM, nA, ldR_n (show 4 * 2 + 2 < 32 by decide) (by decide)]
  rw [if_pos (show roOwn (4 * 2 + 2) = 0 by decide), ldR_n (show 2 < 8 by decide) (by decide), show roAbove 2 = nI 0 by decide, bnd_d, bnd_d, show nI 0 + nI 1 = nI 1 by decide]
  rw [gX3_perform_b6, if_neg (show ¬ nI 8 ≤ nI 1 by decide), if_neg (show ¬ nI 0 < 0 by decide), nM, nA, ldR_n (show 4 * 0 + 2 < 32 by decide) (by decide)]
  rw [if_neg (show ¬ roOwn (4 * 0 + 2) = 0 by decide)]
theorem dp_2_3 (R0 : Int32 → Int32 → Int32 → Int32 → Int32 → mS → Option (Int32 × mS)) (R1 R2 : Int32 → Int32 → Int32 → Int32 → mS → Option (Int32 × mS)) (R3 : Int32 → Int32 → Int32 → Int32 → Int32 → mS → Option (Int32 × mS)) (b y d : Int32) (c : mS) : gX3_perform R0 R1 R2 R3 b (nI 3) (nI 2) y d c = gX3_perform_b45 R0 R1 R2 R3 b (nI 2) y d (nI 3) c := by
  unfold gX3_perform
  rw [bnd_d, bnd_d, show mFu = 5990 + 10 from rfl]
  rw [gX3_perform_b6, if_neg (show ¬ nI 8 ≤ nI 0 by decide), if_neg (show ¬ nI 3 < 0 by decide), nM, nA, ldR_n (show 4 * 3 + 2 < 32 by decide) (by decide)]
  rw [if_neg (show ¬ roOwn (4 * 3 + 2) = 0 by decide)]
theorem dp_2_4 (R0 : Int32 → Int32 → Int32 → Int32 → Int32 → mS → Option (Int32 × mS)) (R1 R2 : Int32 → Int32 → Int32 → Int32 → mS → Option (Int32 × mS)) (R3 : Int32 → Int32 → Int32 → Int32 → Int32 → mS → Option (Int32 × mS)) (b y d : Int32) (c : mS) : gX3_perform R0 R1 R2 R3 b (nI 4) (nI 2) y d c = gX3_perform_b45 R0 R1 R2 R3 b (nI 2) y d (nI 4) c := by
  unfold gX3_perform
  rw [bnd_d, bnd_d, show mFu = 5990 + 10 from rfl]
  rw [gX3_perform_b6, if_neg (show ¬ nI 8 ≤ nI 0 by decide), if_neg (show ¬ nI 4 < 0 by decide), nM, nA, ldR_n (show 4 * 4 + 2 < 32 by decide) (by decide)]
  rw [if_neg (show ¬ roOwn (4 * 4 + 2) = 0 by decide)]
theorem dp_2_5 (R0 : Int32 → Int32 → Int32 → Int32 → Int32 → mS → Option (Int32 × mS)) (R1 R2 : Int32 → Int32 → Int32 → Int32 → mS → Option (Int32 × mS)) (R3 : Int32 → Int32 → Int32 → Int32 → Int32 → mS → Option (Int32 × mS)) (b y d : Int32) (c : mS) : gX3_perform R0 R1 R2 R3 b (nI 5) (nI 2) y d c = gX3_perform_b45 R0 R1 R2 R3 b (nI 2) y d (nI 3) c := by
  unfold gX3_perform
  rw [bnd_d, bnd_d, show mFu = 5990 + 10 from rfl]
  rw [gX3_perform_b6, if_neg (show ¬ nI 8 ≤ nI 0 by decide), if_neg (show ¬ nI 5 < 0 by decide), nM, nA, ldR_n (show 4 * 5 + 2 < 32 by decide) (by decide)]
  rw [if_pos (show roOwn (4 * 5 + 2) = 0 by decide), ldR_n (show 5 < 8 by decide) (by decide), show roAbove 5 = nI 3 by decide, bnd_d, bnd_d, show nI 0 + nI 1 = nI 1 by decide]
  rw [gX3_perform_b6, if_neg (show ¬ nI 8 ≤ nI 1 by decide), if_neg (show ¬ nI 3 < 0 by decide), nM, nA, ldR_n (show 4 * 3 + 2 < 32 by decide) (by decide)]
  rw [if_neg (show ¬ roOwn (4 * 3 + 2) = 0 by decide)]
theorem dp_2_6 (R0 : Int32 → Int32 → Int32 → Int32 → Int32 → mS → Option (Int32 × mS)) (R1 R2 : Int32 → Int32 → Int32 → Int32 → mS → Option (Int32 × mS)) (R3 : Int32 → Int32 → Int32 → Int32 → Int32 → mS → Option (Int32 × mS)) (b y d : Int32) (c : mS) : gX3_perform R0 R1 R2 R3 b (nI 6) (nI 2) y d c = gX3_perform_b45 R0 R1 R2 R3 b (nI 2) y d (nI 0) c := by
  unfold gX3_perform
  rw [bnd_d, bnd_d, show mFu = 5990 + 10 from rfl]
  rw [gX3_perform_b6, if_neg (show ¬ nI 8 ≤ nI 0 by decide), if_neg (show ¬ nI 6 < 0 by decide), nM, nA, ldR_n (show 4 * 6 + 2 < 32 by decide) (by decide)]
  rw [if_pos (show roOwn (4 * 6 + 2) = 0 by decide), ldR_n (show 6 < 8 by decide) (by decide), show roAbove 6 = nI 0 by decide, bnd_d, bnd_d, show nI 0 + nI 1 = nI 1 by decide]
  rw [gX3_perform_b6, if_neg (show ¬ nI 8 ≤ nI 1 by decide), if_neg (show ¬ nI 0 < 0 by decide), nM, nA, ldR_n (show 4 * 0 + 2 < 32 by decide) (by decide)]
  rw [if_neg (show ¬ roOwn (4 * 0 + 2) = 0 by decide)]
theorem dp_2_7 (R0 : Int32 → Int32 → Int32 → Int32 → Int32 → mS → Option (Int32 × mS)) (R1 R2 : Int32 → Int32 → Int32 → Int32 → mS → Option (Int32 × mS)) (R3 : Int32 → Int32 → Int32 → Int32 → Int32 → mS → Option (Int32 × mS)) (b y d : Int32) (c : mS) : gX3_perform R0 R1 R2 R3 b (nI 7) (nI 2) y d c = gX3_perform_b45 R0 R1 R2 R3 b (nI 2) y d (nI 4) c := by
  unfold gX3_perform
  rw [bnd_d, bnd_d, show mFu = 5990 + 10 from rfl]
  rw [gX3_perform_b6, if_neg (show ¬ nI 8 ≤ nI 0 by decide), if_neg (show ¬ nI 7 < 0 by decide), nM, nA, ldR_n (show 4 * 7 + 2 < 32 by decide) (by decide)]
  rw [if_pos (show roOwn (4 * 7 + 2) = 0 by decide), ldR_n (show 7 < 8 by decide) (by decide), show roAbove 7 = nI 4 by decide, bnd_d, bnd_d, show nI 0 + nI 1 = nI 1 by decide]
  rw [gX3_perform_b6, if_neg (show ¬ nI 8 ≤ nI 1 by decide), if_neg (show ¬ nI 4 < 0 by decide), nM, nA, ldR_n (show 4 * 4 + 2 < 32 by decide) (by decide)]
  rw [if_neg (show ¬ roOwn (4 * 4 + 2) = 0 by decide)]
theorem dp_3_0 (R0 : Int32 → Int32 → Int32 → Int32 → Int32 → mS → Option (Int32 × mS)) (R1 R2 : Int32 → Int32 → Int32 → Int32 → mS → Option (Int32 × mS)) (R3 : Int32 → Int32 → Int32 → Int32 → Int32 → mS → Option (Int32 × mS)) (b y d : Int32) (c : mS) : gX3_perform R0 R1 R2 R3 b (nI 0) (nI 3) y d c = gX3_perform_b45 R0 R1 R2 R3 b (nI 3) y d (nI 0) c := by
  unfold gX3_perform
  rw [bnd_d, bnd_d, show mFu = 5990 + 10 from rfl]
  rw [gX3_perform_b6, if_neg (show ¬ nI 8 ≤ nI 0 by decide), if_neg (show ¬ nI 0 < 0 by decide), nM, nA, ldR_n (show 4 * 0 + 3 < 32 by decide) (by decide)]
  rw [if_neg (show ¬ roOwn (4 * 0 + 3) = 0 by decide)]
theorem dp_3_1 (R0 : Int32 → Int32 → Int32 → Int32 → Int32 → mS → Option (Int32 × mS)) (R1 R2 : Int32 → Int32 → Int32 → Int32 → mS → Option (Int32 × mS)) (R3 : Int32 → Int32 → Int32 → Int32 → Int32 → mS → Option (Int32 × mS)) (b y d : Int32) (c : mS) : gX3_perform R0 R1 R2 R3 b (nI 1) (nI 3) y d c = gX3_perform_b45 R0 R1 R2 R3 b (nI 3) y d (nI 0) c := by
  unfold gX3_perform
  rw [bnd_d, bnd_d, show mFu = 5990 + 10 from rfl]
  rw [gX3_perform_b6, if_neg (show ¬ nI 8 ≤ nI 0 by decide), if_neg (show ¬ nI 1 < 0 by decide), nM, nA, ldR_n (show 4 * 1 + 3 < 32 by decide) (by decide)]
  rw [if_pos (show roOwn (4 * 1 + 3) = 0 by decide), ldR_n (show 1 < 8 by decide) (by decide), show roAbove 1 = nI 0 by decide, bnd_d, bnd_d, show nI 0 + nI 1 = nI 1 by decide]
  rw [gX3_perform_b6, if_neg (show ¬ nI 8 ≤ nI 1 by decide), if_neg (show ¬ nI 0 < 0 by decide), nM, nA, ldR_n (show 4 * 0 + 3 < 32 by decide) (by decide)]
  rw [if_neg (show ¬ roOwn (4 * 0 + 3) = 0 by decide)]
theorem dp_3_2 (R0 : Int32 → Int32 → Int32 → Int32 → Int32 → mS → Option (Int32 × mS)) (R1 R2 : Int32 → Int32 → Int32 → Int32 → mS → Option (Int32 × mS)) (R3 : Int32 → Int32 → Int32 → Int32 → Int32 → mS → Option (Int32 × mS)) (b y d : Int32) (c : mS) : gX3_perform R0 R1 R2 R3 b (nI 2) (nI 3) y d c = gX3_perform_b45 R0 R1 R2 R3 b (nI 3) y d (nI 0) c := by
  unfold gX3_perform
  rw [bnd_d, bnd_d, show mFu = 5990 + 10 from rfl]
  rw [gX3_perform_b6, if_neg (show ¬ nI 8 ≤ nI 0 by decide), if_neg (show ¬ nI 2 < 0 by decide), nM, nA, ldR_n (show 4 * 2 + 3 < 32 by decide) (by decide)]
  rw [if_pos (show roOwn (4 * 2 + 3) = 0 by decide), ldR_n (show 2 < 8 by decide) (by decide), show roAbove 2 = nI 0 by decide, bnd_d, bnd_d, show nI 0 + nI 1 = nI 1 by decide]
  rw [gX3_perform_b6, if_neg (show ¬ nI 8 ≤ nI 1 by decide), if_neg (show ¬ nI 0 < 0 by decide), nM, nA, ldR_n (show 4 * 0 + 3 < 32 by decide) (by decide)]
  rw [if_neg (show ¬ roOwn (4 * 0 + 3) = 0 by decide)]
theorem dp_3_3 (R0 : Int32 → Int32 → Int32 → Int32 → Int32 → mS → Option (Int32 × mS)) (R1 R2 : Int32 → Int32 → Int32 → Int32 → mS → Option (Int32 × mS)) (R3 : Int32 → Int32 → Int32 → Int32 → Int32 → mS → Option (Int32 × mS)) (b y d : Int32) (c : mS) : gX3_perform R0 R1 R2 R3 b (nI 3) (nI 3) y d c = gX3_perform_b45 R0 R1 R2 R3 b (nI 3) y d (nI 0) c := by
  unfold gX3_perform
  rw [bnd_d, bnd_d, show mFu = 5990 + 10 from rfl]
  rw [gX3_perform_b6, if_neg (show ¬ nI 8 ≤ nI 0 by decide), if_neg (show ¬ nI 3 < 0 by decide), nM, nA, ldR_n (show 4 * 3 + 3 < 32 by decide) (by decide)]
  rw [if_pos (show roOwn (4 * 3 + 3) = 0 by decide), ldR_n (show 3 < 8 by decide) (by decide), show roAbove 3 = nI 2 by decide, bnd_d, bnd_d, show nI 0 + nI 1 = nI 1 by decide]
  rw [gX3_perform_b6, if_neg (show ¬ nI 8 ≤ nI 1 by decide), if_neg (show ¬ nI 2 < 0 by decide), nM, nA, ldR_n (show 4 * 2 + 3 < 32 by decide) (by decide)]
  rw [if_pos (show roOwn (4 * 2 + 3) = 0 by decide), ldR_n (show 2 < 8 by decide) (by decide), show roAbove 2 = nI 0 by decide, bnd_d, bnd_d, show nI 1 + nI 1 = nI 2 by decide]
  rw [gX3_perform_b6, if_neg (show ¬ nI 8 ≤ nI 2 by decide), if_neg (show ¬ nI 0 < 0 by decide), nM, nA, ldR_n (show 4 * 0 + 3 < 32 by decide) (by decide)]
  rw [if_neg (show ¬ roOwn (4 * 0 + 3) = 0 by decide)]
theorem dp_3_4 (R0 : Int32 → Int32 → Int32 → Int32 → Int32 → mS → Option (Int32 × mS)) (R1 R2 : Int32 → Int32 → Int32 → Int32 → mS → Option (Int32 × mS)) (R3 : Int32 → Int32 → Int32 → Int32 → Int32 → mS → Option (Int32 × mS)) (b y d : Int32) (c : mS) : gX3_perform R0 R1 R2 R3 b (nI 4) (nI 3) y d c = gX3_perform_b45 R0 R1 R2 R3 b (nI 3) y d (nI 0) c := by
  unfold gX3_perform
  rw [bnd_d, bnd_d, show mFu = 5990 + 10 from rfl]
  rw [gX3_perform_b6, if_neg (show ¬ nI 8 ≤ nI 0 by decide), if_neg (show ¬ nI 4 < 0 by decide), nM, nA, ldR_n (show 4 * 4 + 3 < 32 by decide) (by decide)]
  rw [if_pos (show roOwn (4 * 4 + 3) = 0 by decide), ldR_n (show 4 < 8 by decide) (by decide), show roAbove 4 = nI 1 by decide, bnd_d, bnd_d, show nI 0 + nI 1 = nI 1 by decide]
  rw [gX3_perform_b6, if_neg (show ¬ nI 8 ≤ nI 1 by decide), if_neg (show ¬ nI 1 < 0 by decide), nM, nA, ldR_n (show 4 * 1 + 3 < 32 by decide) (by decide)]
  rw [if_pos (show roOwn (4 * 1 + 3) = 0 by decide), ldR_n (show 1 < 8 by decide) (by decide), show roAbove 1 = nI 0 by decide, bnd_d, bnd_d, show nI 1 + nI 1 = nI 2 by decide]
  rw [gX3_perform_b6, if_neg (show ¬ nI 8 ≤ nI 2 by decide), if_neg (show ¬ nI 0 < 0 by decide), nM, nA, ldR_n (show 4 * 0 + 3 < 32 by decide) (by decide)]
  rw [if_neg (show ¬ roOwn (4 * 0 + 3) = 0 by decide)]
theorem dp_3_5 (R0 : Int32 → Int32 → Int32 → Int32 → Int32 → mS → Option (Int32 × mS)) (R1 R2 : Int32 → Int32 → Int32 → Int32 → mS → Option (Int32 × mS)) (R3 : Int32 → Int32 → Int32 → Int32 → Int32 → mS → Option (Int32 × mS)) (b y d : Int32) (c : mS) : gX3_perform R0 R1 R2 R3 b (nI 5) (nI 3) y d c = gX3_perform_b45 R0 R1 R2 R3 b (nI 3) y d (nI 5) c := by
  unfold gX3_perform
  rw [bnd_d, bnd_d, show mFu = 5990 + 10 from rfl]
  rw [gX3_perform_b6, if_neg (show ¬ nI 8 ≤ nI 0 by decide), if_neg (show ¬ nI 5 < 0 by decide), nM, nA, ldR_n (show 4 * 5 + 3 < 32 by decide) (by decide)]
  rw [if_neg (show ¬ roOwn (4 * 5 + 3) = 0 by decide)]
theorem dp_3_6 (R0 : Int32 → Int32 → Int32 → Int32 → Int32 → mS → Option (Int32 × mS)) (R1 R2 : Int32 → Int32 → Int32 → Int32 → mS → Option (Int32 × mS)) (R3 : Int32 → Int32 → Int32 → Int32 → Int32 → mS → Option (Int32 × mS)) (b y d : Int32) (c : mS) : gX3_perform R0 R1 R2 R3 b (nI 6) (nI 3) y d c = gX3_perform_b45 R0 R1 R2 R3 b (nI 3) y d (nI 0) c := by
  unfold gX3_perform
  rw [bnd_d, bnd_d, show mFu = 5990 + 10 from rfl]
  rw [gX3_perform_b6, if_neg (show ¬ nI 8 ≤ nI 0 by decide), if_neg (show ¬ nI 6 < 0 by decide), nM, nA, ldR_n (show 4 * 6 + 3 < 32 by decide) (by decide)]
  rw [if_pos (show roOwn (4 * 6 + 3) = 0 by decide), ldR_n (show 6 < 8 by decide) (by decide), show roAbove 6 = nI 0 by decide, bnd_d, bnd_d, show nI 0 + nI 1 = nI 1 by decide]
  rw [gX3_perform_b6, if_neg (show ¬ nI 8 ≤ nI 1 by decide), if_neg (show ¬ nI 0 < 0 by decide), nM, nA, ldR_n (show 4 * 0 + 3 < 32 by decide) (by decide)]
  rw [if_neg (show ¬ roOwn (4 * 0 + 3) = 0 by decide)]
theorem dp_3_7 (R0 : Int32 → Int32 → Int32 → Int32 → Int32 → mS → Option (Int32 × mS)) (R1 R2 : Int32 → Int32 → Int32 → Int32 → mS → Option (Int32 × mS)) (R3 : Int32 → Int32 → Int32 → Int32 → Int32 → mS → Option (Int32 × mS)) (b y d : Int32) (c : mS) : gX3_perform R0 R1 R2 R3 b (nI 7) (nI 3) y d c = gX3_perform_b45 R0 R1 R2 R3 b (nI 3) y d (nI 7) c := by
  unfold gX3_perform
  rw [bnd_d, bnd_d, show mFu = 5990 + 10 from rfl]
  rw [gX3_perform_b6, if_neg (show ¬ nI 8 ≤ nI 0 by decide), if_neg (show ¬ nI 7 < 0 by decide), nM, nA, ldR_n (show 4 * 7 + 3 < 32 by decide) (by decide)]
  rw [if_neg (show ¬ roOwn (4 * 7 + 3) = 0 by decide)]
theorem pf_s (n : Nat) (b k a y d : Int32) (c : mS) : (sccX3_perform (n + 1)).1 b k a y d c = gX3_perform (sccX3_perform n).1 (sccX3_perform n).2.1 (sccX3_perform n).2.2.1 (sccX3_perform n).2.2.2 b k a y d c := by rw [sccX3_perform]
theorem ow_s (n : Nat) (b a y d : Int32) (c : mS) : (sccX3_perform (n + 1)).2.1 b a y d c = gX3_own (sccX3_perform n).1 (sccX3_perform n).2.1 (sccX3_perform n).2.2.1 (sccX3_perform n).2.2.2 b a y d c := by rw [sccX3_perform]
theorem rg_s (n : Nat) (v b y d : Int32) (c : mS) : (sccX3_perform (n + 1)).2.2.1 v b y d c = gX3_runGhost (sccX3_perform n).1 (sccX3_perform n).2.1 (sccX3_perform n).2.2.1 (sccX3_perform n).2.2.2 v b y d c := by rw [sccX3_perform]
theorem ru_s (n : Nat) (v b y d u : Int32) (c : mS) : (sccX3_perform (n + 1)).2.2.2 v b y d u c = gX3_runUnder (sccX3_perform n).1 (sccX3_perform n).2.1 (sccX3_perform n).2.2.1 (sccX3_perform n).2.2.2 v b y d u c := by rw [sccX3_perform]
theorem bP_id (o : Option (Int32 × mS)) : (bP o fun r s => some (r, s)) = o := by
  cases o <;> rfl
theorem own_c {K b r d a n : Nat} {y : Int32} {c x : mS} (h : AC K b r c x) : (sccX3_perform (n + 1)).2.1 (nI b) (nI a) y (nI d) c = (sccX3_perform n).1 (nI b) (nI K) (nI a) y (nI (d + 1)) c := by
  rw [ow_s]
  unfold gX3_own
  rw [ldA_n h.2.2.1 (by omega), h.2.2.2.2.2.1, nA, bP_id]
theorem SP.mono {a k co de fu co' de' fu' : Nat} (h : SP a k co de fu) (h1 : co ≤ co') (h2 : de ≤ de') (h3 : fu ≤ fu') : SP a k co' de' fu' := by
  intro n m hn hm K b r d y c x hd hr hA
  obtain ⟨v, c', x', r', e1, e2, e3, e4⟩ := h n m (by omega) (by omega) K b r d y c x (by omega) (by omega) hA
  exact ⟨v, c', x', r', e1, e2, by omega, e4⟩
theorem sp_0_0 : SP 0 0 1 0 2 := by
  intro n m hn hm K b r d y c x hd hr h
  obtain ⟨n, rfl⟩ : ∃ n', n = n' + 2 := ⟨n - 2, by omega⟩
  obtain ⟨m, rfl⟩ : ∃ m', m = m' + 1 := ⟨m - 1, by omega⟩
  obtain ⟨c0, x0, e1, e2, h0⟩ := note_both (v := 1) h (by omega)
  have C : (sccX3_perform (n + 2)).1 (nI b) (nI 0) (nI 0) y (nI d) c = bP (gX3_runGhost (sccX3_perform (n)).1 (sccX3_perform (n)).2.1 (sccX3_perform (n)).2.2.1 (sccX3_perform (n)).2.2.2 (nI 1) (nI b) y (nI d) c0) fun r9 s10 => some (r9, s10) := by
    rw [show n + 2 = n + 1 + 1 from rfl, pf_s, dp_0_0]
    unfold gX3_perform_b45
    rw [if_neg (show ¬ nI 0 < 0 by decide), if_pos ((nLe (by omega) (by omega)).mpr (by omega)), nM, nA, ldR_n (show 4 * 0 + 0 < 32 by decide) (by decide), show roOwn (4 * 0 + 0) = nI 1 by decide, bnd_d, e1, bO_s]
    rw [if_pos (show nI 0 = 0 by decide), rg_s]
  rw [C, bP_id]
  show ∃ v' c' x' r', _ ∧ gX11_typesAs (sccX11_typesAs m) (nI 0) y x = some (v', x') ∧ _
  unfold gX3_runGhost gX11_typesAs
  rw [if_pos (show nI 1 = nI 1 from rfl)]
  rw [if_neg (show ¬ nI 0 = nI 1 by decide)]
  rw [if_neg (show ¬ nI 0 = nI 4 by decide)]
  rw [if_neg (show ¬ nI 0 = nI 7 by decide)]
  rw [if_neg (show ¬ nI 0 = nI 6 by decide)]
  rw [e2, bO_s]
  rw [h0.2.2.2.2.1]
  exact ⟨_, _, _, (r + 1), rfl, rfl, by omega, h0⟩
theorem sp_0_1 : SP 0 1 2 1 4 := by
  intro n m hn hm K b r d y c x hd hr h
  obtain ⟨n, rfl⟩ : ∃ n', n = n' + 2 := ⟨n - 2, by omega⟩
  obtain ⟨m, rfl⟩ : ∃ m', m = m' + 1 := ⟨m - 1, by omega⟩
  obtain ⟨c0, x0, e1, e2, h0⟩ := note_both (v := 20) h (by omega)
  have C : (sccX3_perform (n + 2)).1 (nI b) (nI 1) (nI 0) y (nI d) c = bP (gX3_runUnder (sccX3_perform (n)).1 (sccX3_perform (n)).2.1 (sccX3_perform (n)).2.2.1 (sccX3_perform (n)).2.2.2 (nI 20) (nI b) y (nI d) (nI 0) c0) fun r9 s10 => some (r9, s10) := by
    rw [show n + 2 = n + 1 + 1 from rfl, pf_s, dp_0_1]
    unfold gX3_perform_b45
    rw [if_neg (show ¬ nI 1 < 0 by decide), if_pos ((nLe (by omega) (by omega)).mpr (by omega)), nM, nA, ldR_n (show 4 * 1 + 0 < 32 by decide) (by decide), show roOwn (4 * 1 + 0) = nI 20 by decide, bnd_d, e1, bO_s]
    rw [if_neg (show ¬ nI 1 = 0 by decide), ldR_n (show 1 < 8 by decide) (by decide), show roAbove 1 = nI 0 by decide, ru_s]
  rw [C, bP_id]
  show ∃ v' c' x' r', _ ∧ gX11_typesAs (sccX11_typesAs m) (nI 1) y x = some (v', x') ∧ _
  unfold gX3_runUnder gX11_typesAs gX11_typesAs_b16
  rw [if_pos (show nI 20 = nI 20 from rfl)]
  rw [if_pos (show nI 1 = nI 1 from rfl)]
  rw [e2, bO_s]
  obtain ⟨v1, c1, x1, r1, f1, g1, hr1, h1⟩ := sp_0_0 (n) m (by omega) (by omega) K b (r + 1) (d + 1) y c0 x0 (by omega) (by omega) h0
  have g1' : sccX11_typesAs m (nI 0) y x0 = some (v1, x1) := g1
  rw [nA, f1, bP_s, g1', bP_s]
  exact ⟨_, _, _, r1, rfl, rfl, by omega, h1⟩
theorem sp_0_2 : SP 0 2 1 0 2 := by
  intro n m hn hm K b r d y c x hd hr h
  obtain ⟨n, rfl⟩ : ∃ n', n = n' + 2 := ⟨n - 2, by omega⟩
  obtain ⟨m, rfl⟩ : ∃ m', m = m' + 1 := ⟨m - 1, by omega⟩
  obtain ⟨c0, x0, e1, e2, h0⟩ := note_both (v := 1) h (by omega)
  have C : (sccX3_perform (n + 2)).1 (nI b) (nI 2) (nI 0) y (nI d) c = bP (gX3_runGhost (sccX3_perform (n)).1 (sccX3_perform (n)).2.1 (sccX3_perform (n)).2.2.1 (sccX3_perform (n)).2.2.2 (nI 1) (nI b) y (nI d) c0) fun r9 s10 => some (r9, s10) := by
    rw [show n + 2 = n + 1 + 1 from rfl, pf_s, dp_0_2]
    unfold gX3_perform_b45
    rw [if_neg (show ¬ nI 0 < 0 by decide), if_pos ((nLe (by omega) (by omega)).mpr (by omega)), nM, nA, ldR_n (show 4 * 0 + 0 < 32 by decide) (by decide), show roOwn (4 * 0 + 0) = nI 1 by decide, bnd_d, e1, bO_s]
    rw [if_pos (show nI 0 = 0 by decide), rg_s]
  rw [C, bP_id]
  show ∃ v' c' x' r', _ ∧ gX11_typesAs (sccX11_typesAs m) (nI 2) y x = some (v', x') ∧ _
  unfold gX3_runGhost gX11_typesAs
  rw [if_pos (show nI 1 = nI 1 from rfl)]
  rw [if_neg (show ¬ nI 2 = nI 1 by decide)]
  rw [if_neg (show ¬ nI 2 = nI 4 by decide)]
  rw [if_neg (show ¬ nI 2 = nI 7 by decide)]
  rw [if_neg (show ¬ nI 2 = nI 6 by decide)]
  rw [e2, bO_s]
  rw [h0.2.2.2.2.1]
  exact ⟨_, _, _, (r + 1), rfl, rfl, by omega, h0⟩
theorem sp_0_3 : SP 0 3 1 0 2 := by
  intro n m hn hm K b r d y c x hd hr h
  obtain ⟨n, rfl⟩ : ∃ n', n = n' + 2 := ⟨n - 2, by omega⟩
  obtain ⟨m, rfl⟩ : ∃ m', m = m' + 1 := ⟨m - 1, by omega⟩
  obtain ⟨c0, x0, e1, e2, h0⟩ := note_both (v := 1) h (by omega)
  have C : (sccX3_perform (n + 2)).1 (nI b) (nI 3) (nI 0) y (nI d) c = bP (gX3_runGhost (sccX3_perform (n)).1 (sccX3_perform (n)).2.1 (sccX3_perform (n)).2.2.1 (sccX3_perform (n)).2.2.2 (nI 1) (nI b) y (nI d) c0) fun r9 s10 => some (r9, s10) := by
    rw [show n + 2 = n + 1 + 1 from rfl, pf_s, dp_0_3]
    unfold gX3_perform_b45
    rw [if_neg (show ¬ nI 0 < 0 by decide), if_pos ((nLe (by omega) (by omega)).mpr (by omega)), nM, nA, ldR_n (show 4 * 0 + 0 < 32 by decide) (by decide), show roOwn (4 * 0 + 0) = nI 1 by decide, bnd_d, e1, bO_s]
    rw [if_pos (show nI 0 = 0 by decide), rg_s]
  rw [C, bP_id]
  show ∃ v' c' x' r', _ ∧ gX11_typesAs (sccX11_typesAs m) (nI 3) y x = some (v', x') ∧ _
  unfold gX3_runGhost gX11_typesAs
  rw [if_pos (show nI 1 = nI 1 from rfl)]
  rw [if_neg (show ¬ nI 3 = nI 1 by decide)]
  rw [if_neg (show ¬ nI 3 = nI 4 by decide)]
  rw [if_neg (show ¬ nI 3 = nI 7 by decide)]
  rw [if_neg (show ¬ nI 3 = nI 6 by decide)]
  rw [e2, bO_s]
  rw [h0.2.2.2.2.1]
  exact ⟨_, _, _, (r + 1), rfl, rfl, by omega, h0⟩
theorem sp_0_4 : SP 0 4 2 1 4 := by
  intro n m hn hm K b r d y c x hd hr h
  obtain ⟨n, rfl⟩ : ∃ n', n = n' + 2 := ⟨n - 2, by omega⟩
  obtain ⟨m, rfl⟩ : ∃ m', m = m' + 1 := ⟨m - 1, by omega⟩
  obtain ⟨c0, x0, e1, e2, h0⟩ := note_both (v := 20) h (by omega)
  have C : (sccX3_perform (n + 2)).1 (nI b) (nI 4) (nI 0) y (nI d) c = bP (gX3_runUnder (sccX3_perform (n)).1 (sccX3_perform (n)).2.1 (sccX3_perform (n)).2.2.1 (sccX3_perform (n)).2.2.2 (nI 20) (nI b) y (nI d) (nI 0) c0) fun r9 s10 => some (r9, s10) := by
    rw [show n + 2 = n + 1 + 1 from rfl, pf_s, dp_0_4]
    unfold gX3_perform_b45
    rw [if_neg (show ¬ nI 1 < 0 by decide), if_pos ((nLe (by omega) (by omega)).mpr (by omega)), nM, nA, ldR_n (show 4 * 1 + 0 < 32 by decide) (by decide), show roOwn (4 * 1 + 0) = nI 20 by decide, bnd_d, e1, bO_s]
    rw [if_neg (show ¬ nI 1 = 0 by decide), ldR_n (show 1 < 8 by decide) (by decide), show roAbove 1 = nI 0 by decide, ru_s]
  rw [C, bP_id]
  show ∃ v' c' x' r', _ ∧ gX11_typesAs (sccX11_typesAs m) (nI 4) y x = some (v', x') ∧ _
  unfold gX3_runUnder gX11_typesAs gX11_typesAs_b16
  rw [if_pos (show nI 20 = nI 20 from rfl)]
  rw [if_neg (show ¬ nI 4 = nI 1 by decide)]
  rw [if_pos (show nI 4 = nI 4 from rfl)]
  rw [e2, bO_s]
  obtain ⟨v1, c1, x1, r1, f1, g1, hr1, h1⟩ := sp_0_0 (n) m (by omega) (by omega) K b (r + 1) (d + 1) y c0 x0 (by omega) (by omega) h0
  have g1' : sccX11_typesAs m (nI 0) y x0 = some (v1, x1) := g1
  rw [nA, f1, bP_s, g1', bP_s]
  exact ⟨_, _, _, r1, rfl, rfl, by omega, h1⟩
theorem sp_0_5 : SP 0 5 1 0 2 := by
  intro n m hn hm K b r d y c x hd hr h
  obtain ⟨n, rfl⟩ : ∃ n', n = n' + 2 := ⟨n - 2, by omega⟩
  obtain ⟨m, rfl⟩ : ∃ m', m = m' + 1 := ⟨m - 1, by omega⟩
  obtain ⟨c0, x0, e1, e2, h0⟩ := note_both (v := 1) h (by omega)
  have C : (sccX3_perform (n + 2)).1 (nI b) (nI 5) (nI 0) y (nI d) c = bP (gX3_runGhost (sccX3_perform (n)).1 (sccX3_perform (n)).2.1 (sccX3_perform (n)).2.2.1 (sccX3_perform (n)).2.2.2 (nI 1) (nI b) y (nI d) c0) fun r9 s10 => some (r9, s10) := by
    rw [show n + 2 = n + 1 + 1 from rfl, pf_s, dp_0_5]
    unfold gX3_perform_b45
    rw [if_neg (show ¬ nI 0 < 0 by decide), if_pos ((nLe (by omega) (by omega)).mpr (by omega)), nM, nA, ldR_n (show 4 * 0 + 0 < 32 by decide) (by decide), show roOwn (4 * 0 + 0) = nI 1 by decide, bnd_d, e1, bO_s]
    rw [if_pos (show nI 0 = 0 by decide), rg_s]
  rw [C, bP_id]
  show ∃ v' c' x' r', _ ∧ gX11_typesAs (sccX11_typesAs m) (nI 5) y x = some (v', x') ∧ _
  unfold gX3_runGhost gX11_typesAs
  rw [if_pos (show nI 1 = nI 1 from rfl)]
  rw [if_neg (show ¬ nI 5 = nI 1 by decide)]
  rw [if_neg (show ¬ nI 5 = nI 4 by decide)]
  rw [if_neg (show ¬ nI 5 = nI 7 by decide)]
  rw [if_neg (show ¬ nI 5 = nI 6 by decide)]
  rw [e2, bO_s]
  rw [h0.2.2.2.2.1]
  exact ⟨_, _, _, (r + 1), rfl, rfl, by omega, h0⟩
theorem sp_0_6 : SP 0 6 2 1 4 := by
  intro n m hn hm K b r d y c x hd hr h
  obtain ⟨n, rfl⟩ : ∃ n', n = n' + 2 := ⟨n - 2, by omega⟩
  obtain ⟨m, rfl⟩ : ∃ m', m = m' + 1 := ⟨m - 1, by omega⟩
  obtain ⟨c0, x0, e1, e2, h0⟩ := note_both (v := 70) h (by omega)
  have C : (sccX3_perform (n + 2)).1 (nI b) (nI 6) (nI 0) y (nI d) c = bP (gX3_runUnder (sccX3_perform (n)).1 (sccX3_perform (n)).2.1 (sccX3_perform (n)).2.2.1 (sccX3_perform (n)).2.2.2 (nI 70) (nI b) y (nI d) (nI 0) c0) fun r9 s10 => some (r9, s10) := by
    rw [show n + 2 = n + 1 + 1 from rfl, pf_s, dp_0_6]
    unfold gX3_perform_b45
    rw [if_neg (show ¬ nI 6 < 0 by decide), if_pos ((nLe (by omega) (by omega)).mpr (by omega)), nM, nA, ldR_n (show 4 * 6 + 0 < 32 by decide) (by decide), show roOwn (4 * 6 + 0) = nI 70 by decide, bnd_d, e1, bO_s]
    rw [if_neg (show ¬ nI 6 = 0 by decide), ldR_n (show 6 < 8 by decide) (by decide), show roAbove 6 = nI 0 by decide, ru_s]
  rw [C, bP_id]
  show ∃ v' c' x' r', _ ∧ gX11_typesAs (sccX11_typesAs m) (nI 6) y x = some (v', x') ∧ _
  unfold gX3_runUnder gX11_typesAs
  rw [if_neg (show ¬ nI 70 = nI 20 by decide)]
  rw [if_neg (show ¬ nI 70 = nI 30 by decide)]
  rw [if_neg (show ¬ nI 70 = nI 40 by decide)]
  rw [if_neg (show ¬ nI 70 = nI 41 by decide)]
  rw [if_neg (show ¬ nI 70 = nI 50 by decide)]
  rw [if_neg (show ¬ nI 70 = nI 60 by decide)]
  rw [if_pos (show nI 70 = nI 70 from rfl)]
  rw [if_neg (show ¬ nI 6 = nI 1 by decide)]
  rw [if_neg (show ¬ nI 6 = nI 4 by decide)]
  rw [if_neg (show ¬ nI 6 = nI 7 by decide)]
  rw [if_pos (show nI 6 = nI 6 from rfl)]
  rw [e2, bO_s]
  obtain ⟨v1, c1, x1, r1, f1, g1, hr1, h1⟩ := sp_0_0 (n) m (by omega) (by omega) K b (r + 1) (d + 1) y c0 x0 (by omega) (by omega) h0
  have g1' : sccX11_typesAs m (nI 0) y x0 = some (v1, x1) := g1
  rw [nA, f1, bP_s, g1', bP_s]
  exact ⟨_, _, _, r1, rfl, rfl, by omega, h1⟩
theorem sp_0_7 : SP 0 7 2 1 4 := by
  intro n m hn hm K b r d y c x hd hr h
  obtain ⟨n, rfl⟩ : ∃ n', n = n' + 2 := ⟨n - 2, by omega⟩
  obtain ⟨m, rfl⟩ : ∃ m', m = m' + 1 := ⟨m - 1, by omega⟩
  obtain ⟨c0, x0, e1, e2, h0⟩ := note_both (v := 20) h (by omega)
  have C : (sccX3_perform (n + 2)).1 (nI b) (nI 7) (nI 0) y (nI d) c = bP (gX3_runUnder (sccX3_perform (n)).1 (sccX3_perform (n)).2.1 (sccX3_perform (n)).2.2.1 (sccX3_perform (n)).2.2.2 (nI 20) (nI b) y (nI d) (nI 0) c0) fun r9 s10 => some (r9, s10) := by
    rw [show n + 2 = n + 1 + 1 from rfl, pf_s, dp_0_7]
    unfold gX3_perform_b45
    rw [if_neg (show ¬ nI 1 < 0 by decide), if_pos ((nLe (by omega) (by omega)).mpr (by omega)), nM, nA, ldR_n (show 4 * 1 + 0 < 32 by decide) (by decide), show roOwn (4 * 1 + 0) = nI 20 by decide, bnd_d, e1, bO_s]
    rw [if_neg (show ¬ nI 1 = 0 by decide), ldR_n (show 1 < 8 by decide) (by decide), show roAbove 1 = nI 0 by decide, ru_s]
  rw [C, bP_id]
  show ∃ v' c' x' r', _ ∧ gX11_typesAs (sccX11_typesAs m) (nI 7) y x = some (v', x') ∧ _
  unfold gX3_runUnder gX11_typesAs gX11_typesAs_b16
  rw [if_pos (show nI 20 = nI 20 from rfl)]
  rw [if_neg (show ¬ nI 7 = nI 1 by decide)]
  rw [if_neg (show ¬ nI 7 = nI 4 by decide)]
  rw [if_pos (show nI 7 = nI 7 from rfl)]
  rw [e2, bO_s]
  obtain ⟨v1, c1, x1, r1, f1, g1, hr1, h1⟩ := sp_0_0 (n) m (by omega) (by omega) K b (r + 1) (d + 1) y c0 x0 (by omega) (by omega) h0
  have g1' : sccX11_typesAs m (nI 0) y x0 = some (v1, x1) := g1
  rw [nA, f1, bP_s, g1', bP_s]
  exact ⟨_, _, _, r1, rfl, rfl, by omega, h1⟩
theorem sa_0 (k : Nat) (hk : k ≤ 7) : SP 0 k 2 1 4 := by
  rcases (show k = 0 ∨ k = 1 ∨ k = 2 ∨ k = 3 ∨ k = 4 ∨ k = 5 ∨ k = 6 ∨ k = 7 by omega) with rfl | rfl | rfl | rfl | rfl | rfl | rfl | rfl
  · exact sp_0_0.mono (by decide) (by decide) (by decide)
  · exact sp_0_1.mono (by decide) (by decide) (by decide)
  · exact sp_0_2.mono (by decide) (by decide) (by decide)
  · exact sp_0_3.mono (by decide) (by decide) (by decide)
  · exact sp_0_4.mono (by decide) (by decide) (by decide)
  · exact sp_0_5.mono (by decide) (by decide) (by decide)
  · exact sp_0_6.mono (by decide) (by decide) (by decide)
  · exact sp_0_7.mono (by decide) (by decide) (by decide)
theorem sp_2_0 : SP 2 0 1 0 2 := by
  intro n m hn hm K b r d y c x hd hr h
  obtain ⟨n, rfl⟩ : ∃ n', n = n' + 2 := ⟨n - 2, by omega⟩
  obtain ⟨m, rfl⟩ : ∃ m', m = m' + 1 := ⟨m - 1, by omega⟩
  obtain ⟨c0, x0, e1, e2, h0⟩ := note_both (v := 11) h (by omega)
  have C : (sccX3_perform (n + 2)).1 (nI b) (nI 0) (nI 2) y (nI d) c = bP (gX3_runGhost (sccX3_perform (n)).1 (sccX3_perform (n)).2.1 (sccX3_perform (n)).2.2.1 (sccX3_perform (n)).2.2.2 (nI 11) (nI b) y (nI d) c0) fun r9 s10 => some (r9, s10) := by
    rw [show n + 2 = n + 1 + 1 from rfl, pf_s, dp_2_0]
    unfold gX3_perform_b45
    rw [if_neg (show ¬ nI 0 < 0 by decide), if_pos ((nLe (by omega) (by omega)).mpr (by omega)), nM, nA, ldR_n (show 4 * 0 + 2 < 32 by decide) (by decide), show roOwn (4 * 0 + 2) = nI 11 by decide, bnd_d, e1, bO_s]
    rw [if_pos (show nI 0 = 0 by decide), rg_s]
  rw [C, bP_id]
  show ∃ v' c' x' r', _ ∧ gX11_ringsAs (sccX11_ringsAs m) (nI 0) y x = some (v', x') ∧ _
  unfold gX3_runGhost gX11_ringsAs
  rw [if_neg (show ¬ nI 11 = nI 1 by decide)]
  rw [if_neg (show ¬ nI 11 = nI 2 by decide)]
  rw [if_neg (show ¬ nI 11 = nI 10 by decide)]
  rw [if_neg (show ¬ nI 0 = nI 3 by decide)]
  rw [if_neg (show ¬ nI 0 = nI 5 by decide)]
  rw [if_neg (show ¬ nI 0 = nI 4 by decide)]
  rw [if_neg (show ¬ nI 0 = nI 7 by decide)]
  rw [e2, bO_s]
  rw [h0.2.2.2.2.1]
  exact ⟨_, _, _, (r + 1), rfl, rfl, by omega, h0⟩
theorem sp_2_1 : SP 2 1 1 0 2 := by
  intro n m hn hm K b r d y c x hd hr h
  obtain ⟨n, rfl⟩ : ∃ n', n = n' + 2 := ⟨n - 2, by omega⟩
  obtain ⟨m, rfl⟩ : ∃ m', m = m' + 1 := ⟨m - 1, by omega⟩
  obtain ⟨c0, x0, e1, e2, h0⟩ := note_both (v := 11) h (by omega)
  have C : (sccX3_perform (n + 2)).1 (nI b) (nI 1) (nI 2) y (nI d) c = bP (gX3_runGhost (sccX3_perform (n)).1 (sccX3_perform (n)).2.1 (sccX3_perform (n)).2.2.1 (sccX3_perform (n)).2.2.2 (nI 11) (nI b) y (nI d) c0) fun r9 s10 => some (r9, s10) := by
    rw [show n + 2 = n + 1 + 1 from rfl, pf_s, dp_2_1]
    unfold gX3_perform_b45
    rw [if_neg (show ¬ nI 0 < 0 by decide), if_pos ((nLe (by omega) (by omega)).mpr (by omega)), nM, nA, ldR_n (show 4 * 0 + 2 < 32 by decide) (by decide), show roOwn (4 * 0 + 2) = nI 11 by decide, bnd_d, e1, bO_s]
    rw [if_pos (show nI 0 = 0 by decide), rg_s]
  rw [C, bP_id]
  show ∃ v' c' x' r', _ ∧ gX11_ringsAs (sccX11_ringsAs m) (nI 1) y x = some (v', x') ∧ _
  unfold gX3_runGhost gX11_ringsAs
  rw [if_neg (show ¬ nI 11 = nI 1 by decide)]
  rw [if_neg (show ¬ nI 11 = nI 2 by decide)]
  rw [if_neg (show ¬ nI 11 = nI 10 by decide)]
  rw [if_neg (show ¬ nI 1 = nI 3 by decide)]
  rw [if_neg (show ¬ nI 1 = nI 5 by decide)]
  rw [if_neg (show ¬ nI 1 = nI 4 by decide)]
  rw [if_neg (show ¬ nI 1 = nI 7 by decide)]
  rw [e2, bO_s]
  rw [h0.2.2.2.2.1]
  exact ⟨_, _, _, (r + 1), rfl, rfl, by omega, h0⟩
theorem sp_2_2 : SP 2 2 1 0 2 := by
  intro n m hn hm K b r d y c x hd hr h
  obtain ⟨n, rfl⟩ : ∃ n', n = n' + 2 := ⟨n - 2, by omega⟩
  obtain ⟨m, rfl⟩ : ∃ m', m = m' + 1 := ⟨m - 1, by omega⟩
  obtain ⟨c0, x0, e1, e2, h0⟩ := note_both (v := 11) h (by omega)
  have C : (sccX3_perform (n + 2)).1 (nI b) (nI 2) (nI 2) y (nI d) c = bP (gX3_runGhost (sccX3_perform (n)).1 (sccX3_perform (n)).2.1 (sccX3_perform (n)).2.2.1 (sccX3_perform (n)).2.2.2 (nI 11) (nI b) y (nI d) c0) fun r9 s10 => some (r9, s10) := by
    rw [show n + 2 = n + 1 + 1 from rfl, pf_s, dp_2_2]
    unfold gX3_perform_b45
    rw [if_neg (show ¬ nI 0 < 0 by decide), if_pos ((nLe (by omega) (by omega)).mpr (by omega)), nM, nA, ldR_n (show 4 * 0 + 2 < 32 by decide) (by decide), show roOwn (4 * 0 + 2) = nI 11 by decide, bnd_d, e1, bO_s]
    rw [if_pos (show nI 0 = 0 by decide), rg_s]
  rw [C, bP_id]
  show ∃ v' c' x' r', _ ∧ gX11_ringsAs (sccX11_ringsAs m) (nI 2) y x = some (v', x') ∧ _
  unfold gX3_runGhost gX11_ringsAs
  rw [if_neg (show ¬ nI 11 = nI 1 by decide)]
  rw [if_neg (show ¬ nI 11 = nI 2 by decide)]
  rw [if_neg (show ¬ nI 11 = nI 10 by decide)]
  rw [if_neg (show ¬ nI 2 = nI 3 by decide)]
  rw [if_neg (show ¬ nI 2 = nI 5 by decide)]
  rw [if_neg (show ¬ nI 2 = nI 4 by decide)]
  rw [if_neg (show ¬ nI 2 = nI 7 by decide)]
  rw [e2, bO_s]
  rw [h0.2.2.2.2.1]
  exact ⟨_, _, _, (r + 1), rfl, rfl, by omega, h0⟩
theorem sp_2_3 : SP 2 3 2 1 4 := by
  intro n m hn hm K b r d y c x hd hr h
  obtain ⟨n, rfl⟩ : ∃ n', n = n' + 2 := ⟨n - 2, by omega⟩
  obtain ⟨m, rfl⟩ : ∃ m', m = m' + 1 := ⟨m - 1, by omega⟩
  obtain ⟨c0, x0, e1, e2, h0⟩ := note_both (v := 40) h (by omega)
  have C : (sccX3_perform (n + 2)).1 (nI b) (nI 3) (nI 2) y (nI d) c = bP (gX3_runUnder (sccX3_perform (n)).1 (sccX3_perform (n)).2.1 (sccX3_perform (n)).2.2.1 (sccX3_perform (n)).2.2.2 (nI 40) (nI b) y (nI d) (nI 2) c0) fun r9 s10 => some (r9, s10) := by
    rw [show n + 2 = n + 1 + 1 from rfl, pf_s, dp_2_3]
    unfold gX3_perform_b45
    rw [if_neg (show ¬ nI 3 < 0 by decide), if_pos ((nLe (by omega) (by omega)).mpr (by omega)), nM, nA, ldR_n (show 4 * 3 + 2 < 32 by decide) (by decide), show roOwn (4 * 3 + 2) = nI 40 by decide, bnd_d, e1, bO_s]
    rw [if_neg (show ¬ nI 3 = 0 by decide), ldR_n (show 3 < 8 by decide) (by decide), show roAbove 3 = nI 2 by decide, ru_s]
  rw [C, bP_id]
  show ∃ v' c' x' r', _ ∧ gX11_ringsAs (sccX11_ringsAs m) (nI 3) y x = some (v', x') ∧ _
  unfold gX3_runUnder gX11_ringsAs gX11_ringsAs_b10
  rw [if_neg (show ¬ nI 40 = nI 20 by decide)]
  rw [if_neg (show ¬ nI 40 = nI 30 by decide)]
  rw [if_pos (show nI 40 = nI 40 from rfl)]
  rw [if_pos (show nI 3 = nI 3 from rfl)]
  rw [e2, bO_s]
  obtain ⟨v1, c1, x1, r1, f1, g1, hr1, h1⟩ := sp_2_2 (n) m (by omega) (by omega) K b (r + 1) (d + 1) y c0 x0 (by omega) (by omega) h0
  have g1' : sccX11_ringsAs m (nI 2) y x0 = some (v1, x1) := g1
  rw [nA, f1, bP_s, g1', bP_s]
  exact ⟨_, _, _, r1, rfl, rfl, by omega, h1⟩
theorem sp_2_4 : SP 2 4 4 2 7 := by
  intro n m hn hm K b r d y c x hd hr h
  obtain ⟨n, rfl⟩ : ∃ n', n = n' + 2 := ⟨n - 2, by omega⟩
  obtain ⟨m, rfl⟩ : ∃ m', m = m' + 1 := ⟨m - 1, by omega⟩
  obtain ⟨n, rfl⟩ : ∃ n', n = n' + 1 := ⟨n - 1, by omega⟩
  obtain ⟨c0, x0, e1, e2, h0⟩ := note_both (v := 50) h (by omega)
  have C : (sccX3_perform (n + 1 + 2)).1 (nI b) (nI 4) (nI 2) y (nI d) c = bP (gX3_runUnder (sccX3_perform (n + 1)).1 (sccX3_perform (n + 1)).2.1 (sccX3_perform (n + 1)).2.2.1 (sccX3_perform (n + 1)).2.2.2 (nI 50) (nI b) y (nI d) (nI 1) c0) fun r9 s10 => some (r9, s10) := by
    rw [show n + 1 + 2 = n + 1 + 1 + 1 from rfl, pf_s, dp_2_4]
    unfold gX3_perform_b45
    rw [if_neg (show ¬ nI 4 < 0 by decide), if_pos ((nLe (by omega) (by omega)).mpr (by omega)), nM, nA, ldR_n (show 4 * 4 + 2 < 32 by decide) (by decide), show roOwn (4 * 4 + 2) = nI 50 by decide, bnd_d, e1, bO_s]
    rw [if_neg (show ¬ nI 4 = 0 by decide), ldR_n (show 4 < 8 by decide) (by decide), show roAbove 4 = nI 1 by decide, ru_s]
  rw [C, bP_id]
  show ∃ v' c' x' r', _ ∧ gX11_ringsAs (sccX11_ringsAs m) (nI 4) y x = some (v', x') ∧ _
  unfold gX3_runUnder gX11_ringsAs gX11_ringsAs_b36
  rw [if_neg (show ¬ nI 50 = nI 20 by decide)]
  rw [if_neg (show ¬ nI 50 = nI 30 by decide)]
  rw [if_neg (show ¬ nI 50 = nI 40 by decide)]
  rw [if_neg (show ¬ nI 50 = nI 41 by decide)]
  rw [if_pos (show nI 50 = nI 50 from rfl)]
  rw [if_neg (show ¬ nI 4 = nI 3 by decide)]
  rw [if_neg (show ¬ nI 4 = nI 5 by decide)]
  rw [if_pos (show nI 4 = nI 4 from rfl)]
  rw [e2, bO_s]
  obtain ⟨v1, c1, x1, r1, f1, g1, hr1, h1⟩ := sp_2_1 (n + 1) m (by omega) (by omega) K b (r + 1) (d + 1) y c0 x0 (by omega) (by omega) h0
  have g1' : sccX11_ringsAs m (nI 1) y x0 = some (v1, x1) := g1
  rw [nA, f1, bP_s, g1', bP_s]
  obtain ⟨v2, c2, x2, r2, f2, g2, hr2, h2⟩ := sa_0 K h.2.1 n 60 (by omega) (by omega) K b r1 (d + 1) (nI 2) c1 x1 (by omega) (by omega) h1
  have g2' : fX11_typesAs (nI K) (nI 2) x1 = some (v2, x2) := g2
  rw [own_c h1, f2, bP_s, bnd_d,  h1.2.2.2.1, g2', bP_s]
  exact ⟨_, _, _, r2, rfl, rfl, by omega, h2⟩
theorem sp_2_5 : SP 2 5 2 1 4 := by
  intro n m hn hm K b r d y c x hd hr h
  obtain ⟨n, rfl⟩ : ∃ n', n = n' + 2 := ⟨n - 2, by omega⟩
  obtain ⟨m, rfl⟩ : ∃ m', m = m' + 1 := ⟨m - 1, by omega⟩
  obtain ⟨c0, x0, e1, e2, h0⟩ := note_both (v := 40) h (by omega)
  have C : (sccX3_perform (n + 2)).1 (nI b) (nI 5) (nI 2) y (nI d) c = bP (gX3_runUnder (sccX3_perform (n)).1 (sccX3_perform (n)).2.1 (sccX3_perform (n)).2.2.1 (sccX3_perform (n)).2.2.2 (nI 40) (nI b) y (nI d) (nI 2) c0) fun r9 s10 => some (r9, s10) := by
    rw [show n + 2 = n + 1 + 1 from rfl, pf_s, dp_2_5]
    unfold gX3_perform_b45
    rw [if_neg (show ¬ nI 3 < 0 by decide), if_pos ((nLe (by omega) (by omega)).mpr (by omega)), nM, nA, ldR_n (show 4 * 3 + 2 < 32 by decide) (by decide), show roOwn (4 * 3 + 2) = nI 40 by decide, bnd_d, e1, bO_s]
    rw [if_neg (show ¬ nI 3 = 0 by decide), ldR_n (show 3 < 8 by decide) (by decide), show roAbove 3 = nI 2 by decide, ru_s]
  rw [C, bP_id]
  show ∃ v' c' x' r', _ ∧ gX11_ringsAs (sccX11_ringsAs m) (nI 5) y x = some (v', x') ∧ _
  unfold gX3_runUnder gX11_ringsAs gX11_ringsAs_b10
  rw [if_neg (show ¬ nI 40 = nI 20 by decide)]
  rw [if_neg (show ¬ nI 40 = nI 30 by decide)]
  rw [if_pos (show nI 40 = nI 40 from rfl)]
  rw [if_neg (show ¬ nI 5 = nI 3 by decide)]
  rw [if_pos (show nI 5 = nI 5 from rfl)]
  rw [e2, bO_s]
  obtain ⟨v1, c1, x1, r1, f1, g1, hr1, h1⟩ := sp_2_2 (n) m (by omega) (by omega) K b (r + 1) (d + 1) y c0 x0 (by omega) (by omega) h0
  have g1' : sccX11_ringsAs m (nI 2) y x0 = some (v1, x1) := g1
  rw [nA, f1, bP_s, g1', bP_s]
  exact ⟨_, _, _, r1, rfl, rfl, by omega, h1⟩
theorem sp_2_6 : SP 2 6 1 0 2 := by
  intro n m hn hm K b r d y c x hd hr h
  obtain ⟨n, rfl⟩ : ∃ n', n = n' + 2 := ⟨n - 2, by omega⟩
  obtain ⟨m, rfl⟩ : ∃ m', m = m' + 1 := ⟨m - 1, by omega⟩
  obtain ⟨c0, x0, e1, e2, h0⟩ := note_both (v := 11) h (by omega)
  have C : (sccX3_perform (n + 2)).1 (nI b) (nI 6) (nI 2) y (nI d) c = bP (gX3_runGhost (sccX3_perform (n)).1 (sccX3_perform (n)).2.1 (sccX3_perform (n)).2.2.1 (sccX3_perform (n)).2.2.2 (nI 11) (nI b) y (nI d) c0) fun r9 s10 => some (r9, s10) := by
    rw [show n + 2 = n + 1 + 1 from rfl, pf_s, dp_2_6]
    unfold gX3_perform_b45
    rw [if_neg (show ¬ nI 0 < 0 by decide), if_pos ((nLe (by omega) (by omega)).mpr (by omega)), nM, nA, ldR_n (show 4 * 0 + 2 < 32 by decide) (by decide), show roOwn (4 * 0 + 2) = nI 11 by decide, bnd_d, e1, bO_s]
    rw [if_pos (show nI 0 = 0 by decide), rg_s]
  rw [C, bP_id]
  show ∃ v' c' x' r', _ ∧ gX11_ringsAs (sccX11_ringsAs m) (nI 6) y x = some (v', x') ∧ _
  unfold gX3_runGhost gX11_ringsAs
  rw [if_neg (show ¬ nI 11 = nI 1 by decide)]
  rw [if_neg (show ¬ nI 11 = nI 2 by decide)]
  rw [if_neg (show ¬ nI 11 = nI 10 by decide)]
  rw [if_neg (show ¬ nI 6 = nI 3 by decide)]
  rw [if_neg (show ¬ nI 6 = nI 5 by decide)]
  rw [if_neg (show ¬ nI 6 = nI 4 by decide)]
  rw [if_neg (show ¬ nI 6 = nI 7 by decide)]
  rw [e2, bO_s]
  rw [h0.2.2.2.2.1]
  exact ⟨_, _, _, (r + 1), rfl, rfl, by omega, h0⟩
theorem sp_2_7 : SP 2 7 4 2 7 := by
  intro n m hn hm K b r d y c x hd hr h
  obtain ⟨n, rfl⟩ : ∃ n', n = n' + 2 := ⟨n - 2, by omega⟩
  obtain ⟨m, rfl⟩ : ∃ m', m = m' + 1 := ⟨m - 1, by omega⟩
  obtain ⟨n, rfl⟩ : ∃ n', n = n' + 1 := ⟨n - 1, by omega⟩
  obtain ⟨c0, x0, e1, e2, h0⟩ := note_both (v := 50) h (by omega)
  have C : (sccX3_perform (n + 1 + 2)).1 (nI b) (nI 7) (nI 2) y (nI d) c = bP (gX3_runUnder (sccX3_perform (n + 1)).1 (sccX3_perform (n + 1)).2.1 (sccX3_perform (n + 1)).2.2.1 (sccX3_perform (n + 1)).2.2.2 (nI 50) (nI b) y (nI d) (nI 1) c0) fun r9 s10 => some (r9, s10) := by
    rw [show n + 1 + 2 = n + 1 + 1 + 1 from rfl, pf_s, dp_2_7]
    unfold gX3_perform_b45
    rw [if_neg (show ¬ nI 4 < 0 by decide), if_pos ((nLe (by omega) (by omega)).mpr (by omega)), nM, nA, ldR_n (show 4 * 4 + 2 < 32 by decide) (by decide), show roOwn (4 * 4 + 2) = nI 50 by decide, bnd_d, e1, bO_s]
    rw [if_neg (show ¬ nI 4 = 0 by decide), ldR_n (show 4 < 8 by decide) (by decide), show roAbove 4 = nI 1 by decide, ru_s]
  rw [C, bP_id]
  show ∃ v' c' x' r', _ ∧ gX11_ringsAs (sccX11_ringsAs m) (nI 7) y x = some (v', x') ∧ _
  unfold gX3_runUnder gX11_ringsAs gX11_ringsAs_b36
  rw [if_neg (show ¬ nI 50 = nI 20 by decide)]
  rw [if_neg (show ¬ nI 50 = nI 30 by decide)]
  rw [if_neg (show ¬ nI 50 = nI 40 by decide)]
  rw [if_neg (show ¬ nI 50 = nI 41 by decide)]
  rw [if_pos (show nI 50 = nI 50 from rfl)]
  rw [if_neg (show ¬ nI 7 = nI 3 by decide)]
  rw [if_neg (show ¬ nI 7 = nI 5 by decide)]
  rw [if_neg (show ¬ nI 7 = nI 4 by decide)]
  rw [if_pos (show nI 7 = nI 7 from rfl)]
  rw [e2, bO_s]
  obtain ⟨v1, c1, x1, r1, f1, g1, hr1, h1⟩ := sp_2_1 (n + 1) m (by omega) (by omega) K b (r + 1) (d + 1) y c0 x0 (by omega) (by omega) h0
  have g1' : sccX11_ringsAs m (nI 1) y x0 = some (v1, x1) := g1
  rw [nA, f1, bP_s, g1', bP_s]
  obtain ⟨v2, c2, x2, r2, f2, g2, hr2, h2⟩ := sa_0 K h.2.1 n 60 (by omega) (by omega) K b r1 (d + 1) (nI 2) c1 x1 (by omega) (by omega) h1
  have g2' : fX11_typesAs (nI K) (nI 2) x1 = some (v2, x2) := g2
  rw [own_c h1, f2, bP_s, bnd_d,  h1.2.2.2.1, g2', bP_s]
  exact ⟨_, _, _, r2, rfl, rfl, by omega, h2⟩
theorem sa_2 (k : Nat) (hk : k ≤ 7) : SP 2 k 4 2 7 := by
  rcases (show k = 0 ∨ k = 1 ∨ k = 2 ∨ k = 3 ∨ k = 4 ∨ k = 5 ∨ k = 6 ∨ k = 7 by omega) with rfl | rfl | rfl | rfl | rfl | rfl | rfl | rfl
  · exact sp_2_0.mono (by decide) (by decide) (by decide)
  · exact sp_2_1.mono (by decide) (by decide) (by decide)
  · exact sp_2_2.mono (by decide) (by decide) (by decide)
  · exact sp_2_3.mono (by decide) (by decide) (by decide)
  · exact sp_2_4.mono (by decide) (by decide) (by decide)
  · exact sp_2_5.mono (by decide) (by decide) (by decide)
  · exact sp_2_6.mono (by decide) (by decide) (by decide)
  · exact sp_2_7.mono (by decide) (by decide) (by decide)
theorem sp_1_0 : SP 1 0 3 2 7 := by
  intro n m hn hm K b r d y c x hd hr h
  obtain ⟨n, rfl⟩ : ∃ n', n = n' + 2 := ⟨n - 2, by omega⟩
  obtain ⟨m, rfl⟩ : ∃ m', m = m' + 1 := ⟨m - 1, by omega⟩
  obtain ⟨n, rfl⟩ : ∃ n', n = n' + 1 := ⟨n - 1, by omega⟩
  obtain ⟨c0, x0, e1, e2, h0⟩ := note_both (v := 10) h (by omega)
  have C : (sccX3_perform (n + 1 + 2)).1 (nI b) (nI 0) (nI 1) y (nI d) c = bP (gX3_runGhost (sccX3_perform (n + 1)).1 (sccX3_perform (n + 1)).2.1 (sccX3_perform (n + 1)).2.2.1 (sccX3_perform (n + 1)).2.2.2 (nI 10) (nI b) y (nI d) c0) fun r9 s10 => some (r9, s10) := by
    rw [show n + 1 + 2 = n + 1 + 1 + 1 from rfl, pf_s, dp_1_0]
    unfold gX3_perform_b45
    rw [if_neg (show ¬ nI 0 < 0 by decide), if_pos ((nLe (by omega) (by omega)).mpr (by omega)), nM, nA, ldR_n (show 4 * 0 + 1 < 32 by decide) (by decide), show roOwn (4 * 0 + 1) = nI 10 by decide, bnd_d, e1, bO_s]
    rw [if_pos (show nI 0 = 0 by decide), rg_s]
  rw [C, bP_id]
  show ∃ v' c' x' r', _ ∧ gX11_sticksAs (sccX11_sticksAs m) (nI 0) y x = some (v', x') ∧ _
  unfold gX3_runGhost gX11_sticksAs
  rw [if_neg (show ¬ nI 10 = nI 1 by decide)]
  rw [if_neg (show ¬ nI 10 = nI 2 by decide)]
  rw [if_pos (show nI 10 = nI 10 from rfl)]
  rw [if_neg (show ¬ nI 0 = nI 3 by decide)]
  rw [if_neg (show ¬ nI 0 = nI 5 by decide)]
  rw [if_neg (show ¬ nI 0 = nI 2 by decide)]
  rw [if_neg (show ¬ nI 0 = nI 7 by decide)]
  rw [e2, bO_s]
  obtain ⟨v1, c1, x1, r1, f1, g1, hr1, h1⟩ := sa_0 K h.2.1 n 60 (by omega) (by omega) K b (r + 1) (d + 1) y c0 x0 (by omega) (by omega) h0
  have g1' : fX11_typesAs (nI K) y x0 = some (v1, x1) := g1
  rw [own_c h0, f1, bP_s,  h0.2.2.2.1, g1', bP_s]
  exact ⟨_, _, _, r1, rfl, rfl, by omega, h1⟩
theorem sp_1_1 : SP 1 1 3 2 7 := by
  intro n m hn hm K b r d y c x hd hr h
  obtain ⟨n, rfl⟩ : ∃ n', n = n' + 2 := ⟨n - 2, by omega⟩
  obtain ⟨m, rfl⟩ : ∃ m', m = m' + 1 := ⟨m - 1, by omega⟩
  obtain ⟨n, rfl⟩ : ∃ n', n = n' + 1 := ⟨n - 1, by omega⟩
  obtain ⟨c0, x0, e1, e2, h0⟩ := note_both (v := 10) h (by omega)
  have C : (sccX3_perform (n + 1 + 2)).1 (nI b) (nI 1) (nI 1) y (nI d) c = bP (gX3_runGhost (sccX3_perform (n + 1)).1 (sccX3_perform (n + 1)).2.1 (sccX3_perform (n + 1)).2.2.1 (sccX3_perform (n + 1)).2.2.2 (nI 10) (nI b) y (nI d) c0) fun r9 s10 => some (r9, s10) := by
    rw [show n + 1 + 2 = n + 1 + 1 + 1 from rfl, pf_s, dp_1_1]
    unfold gX3_perform_b45
    rw [if_neg (show ¬ nI 0 < 0 by decide), if_pos ((nLe (by omega) (by omega)).mpr (by omega)), nM, nA, ldR_n (show 4 * 0 + 1 < 32 by decide) (by decide), show roOwn (4 * 0 + 1) = nI 10 by decide, bnd_d, e1, bO_s]
    rw [if_pos (show nI 0 = 0 by decide), rg_s]
  rw [C, bP_id]
  show ∃ v' c' x' r', _ ∧ gX11_sticksAs (sccX11_sticksAs m) (nI 1) y x = some (v', x') ∧ _
  unfold gX3_runGhost gX11_sticksAs
  rw [if_neg (show ¬ nI 10 = nI 1 by decide)]
  rw [if_neg (show ¬ nI 10 = nI 2 by decide)]
  rw [if_pos (show nI 10 = nI 10 from rfl)]
  rw [if_neg (show ¬ nI 1 = nI 3 by decide)]
  rw [if_neg (show ¬ nI 1 = nI 5 by decide)]
  rw [if_neg (show ¬ nI 1 = nI 2 by decide)]
  rw [if_neg (show ¬ nI 1 = nI 7 by decide)]
  rw [e2, bO_s]
  obtain ⟨v1, c1, x1, r1, f1, g1, hr1, h1⟩ := sa_0 K h.2.1 n 60 (by omega) (by omega) K b (r + 1) (d + 1) y c0 x0 (by omega) (by omega) h0
  have g1' : fX11_typesAs (nI K) y x0 = some (v1, x1) := g1
  rw [own_c h0, f1, bP_s,  h0.2.2.2.1, g1', bP_s]
  exact ⟨_, _, _, r1, rfl, rfl, by omega, h1⟩
theorem sp_1_2 : SP 1 2 4 3 9 := by
  intro n m hn hm K b r d y c x hd hr h
  obtain ⟨n, rfl⟩ : ∃ n', n = n' + 2 := ⟨n - 2, by omega⟩
  obtain ⟨m, rfl⟩ : ∃ m', m = m' + 1 := ⟨m - 1, by omega⟩
  obtain ⟨c0, x0, e1, e2, h0⟩ := note_both (v := 30) h (by omega)
  have C : (sccX3_perform (n + 2)).1 (nI b) (nI 2) (nI 1) y (nI d) c = bP (gX3_runUnder (sccX3_perform (n)).1 (sccX3_perform (n)).2.1 (sccX3_perform (n)).2.2.1 (sccX3_perform (n)).2.2.2 (nI 30) (nI b) y (nI d) (nI 0) c0) fun r9 s10 => some (r9, s10) := by
    rw [show n + 2 = n + 1 + 1 from rfl, pf_s, dp_1_2]
    unfold gX3_perform_b45
    rw [if_neg (show ¬ nI 2 < 0 by decide), if_pos ((nLe (by omega) (by omega)).mpr (by omega)), nM, nA, ldR_n (show 4 * 2 + 1 < 32 by decide) (by decide), show roOwn (4 * 2 + 1) = nI 30 by decide, bnd_d, e1, bO_s]
    rw [if_neg (show ¬ nI 2 = 0 by decide), ldR_n (show 2 < 8 by decide) (by decide), show roAbove 2 = nI 0 by decide, ru_s]
  rw [C, bP_id]
  show ∃ v' c' x' r', _ ∧ gX11_sticksAs (sccX11_sticksAs m) (nI 2) y x = some (v', x') ∧ _
  unfold gX3_runUnder gX11_sticksAs
  rw [if_neg (show ¬ nI 30 = nI 20 by decide)]
  rw [if_pos (show nI 30 = nI 30 from rfl)]
  rw [if_neg (show ¬ nI 2 = nI 3 by decide)]
  rw [if_neg (show ¬ nI 2 = nI 5 by decide)]
  rw [if_pos (show nI 2 = nI 2 from rfl)]
  rw [e2, bO_s]
  obtain ⟨v1, c1, x1, r1, f1, g1, hr1, h1⟩ := sp_1_0 (n) m (by omega) (by omega) K b (r + 1) (d + 1) y c0 x0 (by omega) (by omega) h0
  have g1' : sccX11_sticksAs m (nI 0) y x0 = some (v1, x1) := g1
  rw [nA, f1, bP_s, g1', bP_s]
  exact ⟨_, _, _, r1, rfl, rfl, by omega, h1⟩
theorem sp_1_3 : SP 1 3 5 4 11 := by
  intro n m hn hm K b r d y c x hd hr h
  obtain ⟨n, rfl⟩ : ∃ n', n = n' + 2 := ⟨n - 2, by omega⟩
  obtain ⟨m, rfl⟩ : ∃ m', m = m' + 1 := ⟨m - 1, by omega⟩
  obtain ⟨c0, x0, e1, e2, h0⟩ := note_both (v := 41) h (by omega)
  have C : (sccX3_perform (n + 2)).1 (nI b) (nI 3) (nI 1) y (nI d) c = bP (gX3_runUnder (sccX3_perform (n)).1 (sccX3_perform (n)).2.1 (sccX3_perform (n)).2.2.1 (sccX3_perform (n)).2.2.2 (nI 41) (nI b) y (nI d) (nI 2) c0) fun r9 s10 => some (r9, s10) := by
    rw [show n + 2 = n + 1 + 1 from rfl, pf_s, dp_1_3]
    unfold gX3_perform_b45
    rw [if_neg (show ¬ nI 3 < 0 by decide), if_pos ((nLe (by omega) (by omega)).mpr (by omega)), nM, nA, ldR_n (show 4 * 3 + 1 < 32 by decide) (by decide), show roOwn (4 * 3 + 1) = nI 41 by decide, bnd_d, e1, bO_s]
    rw [if_neg (show ¬ nI 3 = 0 by decide), ldR_n (show 3 < 8 by decide) (by decide), show roAbove 3 = nI 2 by decide, ru_s]
  rw [C, bP_id]
  show ∃ v' c' x' r', _ ∧ gX11_sticksAs (sccX11_sticksAs m) (nI 3) y x = some (v', x') ∧ _
  unfold gX3_runUnder gX11_sticksAs gX11_sticksAs_b10
  rw [if_neg (show ¬ nI 41 = nI 20 by decide)]
  rw [if_neg (show ¬ nI 41 = nI 30 by decide)]
  rw [if_neg (show ¬ nI 41 = nI 40 by decide)]
  rw [if_pos (show nI 41 = nI 41 from rfl)]
  rw [if_pos (show nI 3 = nI 3 from rfl)]
  rw [e2, bO_s]
  obtain ⟨v1, c1, x1, r1, f1, g1, hr1, h1⟩ := sp_1_2 (n) m (by omega) (by omega) K b (r + 1) (d + 1) (y + nI 1) c0 x0 (by omega) (by omega) h0
  have g1' : sccX11_sticksAs m (nI 2) (y + nI 1) x0 = some (v1, x1) := g1
  rw [nA, f1, bP_s, g1', bP_s]
  exact ⟨_, _, _, r1, rfl, rfl, by omega, h1⟩
theorem sp_1_4 : SP 1 4 3 2 7 := by
  intro n m hn hm K b r d y c x hd hr h
  obtain ⟨n, rfl⟩ : ∃ n', n = n' + 2 := ⟨n - 2, by omega⟩
  obtain ⟨m, rfl⟩ : ∃ m', m = m' + 1 := ⟨m - 1, by omega⟩
  obtain ⟨n, rfl⟩ : ∃ n', n = n' + 1 := ⟨n - 1, by omega⟩
  obtain ⟨c0, x0, e1, e2, h0⟩ := note_both (v := 10) h (by omega)
  have C : (sccX3_perform (n + 1 + 2)).1 (nI b) (nI 4) (nI 1) y (nI d) c = bP (gX3_runGhost (sccX3_perform (n + 1)).1 (sccX3_perform (n + 1)).2.1 (sccX3_perform (n + 1)).2.2.1 (sccX3_perform (n + 1)).2.2.2 (nI 10) (nI b) y (nI d) c0) fun r9 s10 => some (r9, s10) := by
    rw [show n + 1 + 2 = n + 1 + 1 + 1 from rfl, pf_s, dp_1_4]
    unfold gX3_perform_b45
    rw [if_neg (show ¬ nI 0 < 0 by decide), if_pos ((nLe (by omega) (by omega)).mpr (by omega)), nM, nA, ldR_n (show 4 * 0 + 1 < 32 by decide) (by decide), show roOwn (4 * 0 + 1) = nI 10 by decide, bnd_d, e1, bO_s]
    rw [if_pos (show nI 0 = 0 by decide), rg_s]
  rw [C, bP_id]
  show ∃ v' c' x' r', _ ∧ gX11_sticksAs (sccX11_sticksAs m) (nI 4) y x = some (v', x') ∧ _
  unfold gX3_runGhost gX11_sticksAs
  rw [if_neg (show ¬ nI 10 = nI 1 by decide)]
  rw [if_neg (show ¬ nI 10 = nI 2 by decide)]
  rw [if_pos (show nI 10 = nI 10 from rfl)]
  rw [if_neg (show ¬ nI 4 = nI 3 by decide)]
  rw [if_neg (show ¬ nI 4 = nI 5 by decide)]
  rw [if_neg (show ¬ nI 4 = nI 2 by decide)]
  rw [if_neg (show ¬ nI 4 = nI 7 by decide)]
  rw [e2, bO_s]
  obtain ⟨v1, c1, x1, r1, f1, g1, hr1, h1⟩ := sa_0 K h.2.1 n 60 (by omega) (by omega) K b (r + 1) (d + 1) y c0 x0 (by omega) (by omega) h0
  have g1' : fX11_typesAs (nI K) y x0 = some (v1, x1) := g1
  rw [own_c h0, f1, bP_s,  h0.2.2.2.1, g1', bP_s]
  exact ⟨_, _, _, r1, rfl, rfl, by omega, h1⟩
theorem sp_1_5 : SP 1 5 5 4 11 := by
  intro n m hn hm K b r d y c x hd hr h
  obtain ⟨n, rfl⟩ : ∃ n', n = n' + 2 := ⟨n - 2, by omega⟩
  obtain ⟨m, rfl⟩ : ∃ m', m = m' + 1 := ⟨m - 1, by omega⟩
  obtain ⟨c0, x0, e1, e2, h0⟩ := note_both (v := 41) h (by omega)
  have C : (sccX3_perform (n + 2)).1 (nI b) (nI 5) (nI 1) y (nI d) c = bP (gX3_runUnder (sccX3_perform (n)).1 (sccX3_perform (n)).2.1 (sccX3_perform (n)).2.2.1 (sccX3_perform (n)).2.2.2 (nI 41) (nI b) y (nI d) (nI 2) c0) fun r9 s10 => some (r9, s10) := by
    rw [show n + 2 = n + 1 + 1 from rfl, pf_s, dp_1_5]
    unfold gX3_perform_b45
    rw [if_neg (show ¬ nI 3 < 0 by decide), if_pos ((nLe (by omega) (by omega)).mpr (by omega)), nM, nA, ldR_n (show 4 * 3 + 1 < 32 by decide) (by decide), show roOwn (4 * 3 + 1) = nI 41 by decide, bnd_d, e1, bO_s]
    rw [if_neg (show ¬ nI 3 = 0 by decide), ldR_n (show 3 < 8 by decide) (by decide), show roAbove 3 = nI 2 by decide, ru_s]
  rw [C, bP_id]
  show ∃ v' c' x' r', _ ∧ gX11_sticksAs (sccX11_sticksAs m) (nI 5) y x = some (v', x') ∧ _
  unfold gX3_runUnder gX11_sticksAs gX11_sticksAs_b10
  rw [if_neg (show ¬ nI 41 = nI 20 by decide)]
  rw [if_neg (show ¬ nI 41 = nI 30 by decide)]
  rw [if_neg (show ¬ nI 41 = nI 40 by decide)]
  rw [if_pos (show nI 41 = nI 41 from rfl)]
  rw [if_neg (show ¬ nI 5 = nI 3 by decide)]
  rw [if_pos (show nI 5 = nI 5 from rfl)]
  rw [e2, bO_s]
  obtain ⟨v1, c1, x1, r1, f1, g1, hr1, h1⟩ := sp_1_2 (n) m (by omega) (by omega) K b (r + 1) (d + 1) (y + nI 1) c0 x0 (by omega) (by omega) h0
  have g1' : sccX11_sticksAs m (nI 2) (y + nI 1) x0 = some (v1, x1) := g1
  rw [nA, f1, bP_s, g1', bP_s]
  exact ⟨_, _, _, r1, rfl, rfl, by omega, h1⟩
theorem sp_1_6 : SP 1 6 3 2 7 := by
  intro n m hn hm K b r d y c x hd hr h
  obtain ⟨n, rfl⟩ : ∃ n', n = n' + 2 := ⟨n - 2, by omega⟩
  obtain ⟨m, rfl⟩ : ∃ m', m = m' + 1 := ⟨m - 1, by omega⟩
  obtain ⟨n, rfl⟩ : ∃ n', n = n' + 1 := ⟨n - 1, by omega⟩
  obtain ⟨c0, x0, e1, e2, h0⟩ := note_both (v := 10) h (by omega)
  have C : (sccX3_perform (n + 1 + 2)).1 (nI b) (nI 6) (nI 1) y (nI d) c = bP (gX3_runGhost (sccX3_perform (n + 1)).1 (sccX3_perform (n + 1)).2.1 (sccX3_perform (n + 1)).2.2.1 (sccX3_perform (n + 1)).2.2.2 (nI 10) (nI b) y (nI d) c0) fun r9 s10 => some (r9, s10) := by
    rw [show n + 1 + 2 = n + 1 + 1 + 1 from rfl, pf_s, dp_1_6]
    unfold gX3_perform_b45
    rw [if_neg (show ¬ nI 0 < 0 by decide), if_pos ((nLe (by omega) (by omega)).mpr (by omega)), nM, nA, ldR_n (show 4 * 0 + 1 < 32 by decide) (by decide), show roOwn (4 * 0 + 1) = nI 10 by decide, bnd_d, e1, bO_s]
    rw [if_pos (show nI 0 = 0 by decide), rg_s]
  rw [C, bP_id]
  show ∃ v' c' x' r', _ ∧ gX11_sticksAs (sccX11_sticksAs m) (nI 6) y x = some (v', x') ∧ _
  unfold gX3_runGhost gX11_sticksAs
  rw [if_neg (show ¬ nI 10 = nI 1 by decide)]
  rw [if_neg (show ¬ nI 10 = nI 2 by decide)]
  rw [if_pos (show nI 10 = nI 10 from rfl)]
  rw [if_neg (show ¬ nI 6 = nI 3 by decide)]
  rw [if_neg (show ¬ nI 6 = nI 5 by decide)]
  rw [if_neg (show ¬ nI 6 = nI 2 by decide)]
  rw [if_neg (show ¬ nI 6 = nI 7 by decide)]
  rw [e2, bO_s]
  obtain ⟨v1, c1, x1, r1, f1, g1, hr1, h1⟩ := sa_0 K h.2.1 n 60 (by omega) (by omega) K b (r + 1) (d + 1) y c0 x0 (by omega) (by omega) h0
  have g1' : fX11_typesAs (nI K) y x0 = some (v1, x1) := g1
  rw [own_c h0, f1, bP_s,  h0.2.2.2.1, g1', bP_s]
  exact ⟨_, _, _, r1, rfl, rfl, by omega, h1⟩
theorem sp_1_7 : SP 1 7 8 3 10 := by
  intro n m hn hm K b r d y c x hd hr h
  obtain ⟨n, rfl⟩ : ∃ n', n = n' + 2 := ⟨n - 2, by omega⟩
  obtain ⟨m, rfl⟩ : ∃ m', m = m' + 1 := ⟨m - 1, by omega⟩
  obtain ⟨n, rfl⟩ : ∃ n', n = n' + 1 := ⟨n - 1, by omega⟩
  obtain ⟨c0, x0, e1, e2, h0⟩ := note_both (v := 80) h (by omega)
  have C : (sccX3_perform (n + 1 + 2)).1 (nI b) (nI 7) (nI 1) y (nI d) c = bP (gX3_runUnder (sccX3_perform (n + 1)).1 (sccX3_perform (n + 1)).2.1 (sccX3_perform (n + 1)).2.2.1 (sccX3_perform (n + 1)).2.2.2 (nI 80) (nI b) y (nI d) (nI 4) c0) fun r9 s10 => some (r9, s10) := by
    rw [show n + 1 + 2 = n + 1 + 1 + 1 from rfl, pf_s, dp_1_7]
    unfold gX3_perform_b45
    rw [if_neg (show ¬ nI 7 < 0 by decide), if_pos ((nLe (by omega) (by omega)).mpr (by omega)), nM, nA, ldR_n (show 4 * 7 + 1 < 32 by decide) (by decide), show roOwn (4 * 7 + 1) = nI 80 by decide, bnd_d, e1, bO_s]
    rw [if_neg (show ¬ nI 7 = 0 by decide), ldR_n (show 7 < 8 by decide) (by decide), show roAbove 7 = nI 4 by decide, ru_s]
  rw [C, bP_id]
  show ∃ v' c' x' r', _ ∧ gX11_sticksAs (sccX11_sticksAs m) (nI 7) y x = some (v', x') ∧ _
  unfold gX3_runUnder gX11_sticksAs
  rw [if_neg (show ¬ nI 80 = nI 20 by decide)]
  rw [if_neg (show ¬ nI 80 = nI 30 by decide)]
  rw [if_neg (show ¬ nI 80 = nI 40 by decide)]
  rw [if_neg (show ¬ nI 80 = nI 41 by decide)]
  rw [if_neg (show ¬ nI 80 = nI 50 by decide)]
  rw [if_neg (show ¬ nI 80 = nI 60 by decide)]
  rw [if_neg (show ¬ nI 80 = nI 70 by decide)]
  rw [if_pos (show nI 80 = nI 80 from rfl)]
  rw [if_neg (show ¬ nI 7 = nI 3 by decide)]
  rw [if_neg (show ¬ nI 7 = nI 5 by decide)]
  rw [if_neg (show ¬ nI 7 = nI 2 by decide)]
  rw [if_pos (show nI 7 = nI 7 from rfl)]
  rw [e2, bO_s]
  obtain ⟨v1, c1, x1, r1, f1, g1, hr1, h1⟩ := sp_1_4 (n + 1) m (by omega) (by omega) K b (r + 1) (d + 1) y c0 x0 (by omega) (by omega) h0
  have g1' : sccX11_sticksAs m (nI 4) y x0 = some (v1, x1) := g1
  rw [nA, f1, bP_s, g1', bP_s]
  obtain ⟨v2, c2, x2, r2, f2, g2, hr2, h2⟩ := sa_2 K h.2.1 n 60 (by omega) (by omega) K b r1 (d + 1) (nI 2) c1 x1 (by omega) (by omega) h1
  have g2' : fX11_ringsAs (nI K) (nI 2) x1 = some (v2, x2) := g2
  rw [own_c h1, f2, bP_s, bnd_d,  h1.2.2.2.1, g2', bP_s]
  exact ⟨_, _, _, r2, rfl, rfl, by omega, h2⟩
theorem sa_1 (k : Nat) (hk : k ≤ 7) : SP 1 k 8 5 11 := by
  rcases (show k = 0 ∨ k = 1 ∨ k = 2 ∨ k = 3 ∨ k = 4 ∨ k = 5 ∨ k = 6 ∨ k = 7 by omega) with rfl | rfl | rfl | rfl | rfl | rfl | rfl | rfl
  · exact sp_1_0.mono (by decide) (by decide) (by decide)
  · exact sp_1_1.mono (by decide) (by decide) (by decide)
  · exact sp_1_2.mono (by decide) (by decide) (by decide)
  · exact sp_1_3.mono (by decide) (by decide) (by decide)
  · exact sp_1_4.mono (by decide) (by decide) (by decide)
  · exact sp_1_5.mono (by decide) (by decide) (by decide)
  · exact sp_1_6.mono (by decide) (by decide) (by decide)
  · exact sp_1_7.mono (by decide) (by decide) (by decide)
theorem sp_3_0 : SP 3 0 13 6 14 := by
  intro n m hn hm K b r d y c x hd hr h
  obtain ⟨n, rfl⟩ : ∃ n', n = n' + 2 := ⟨n - 2, by omega⟩
  obtain ⟨m, rfl⟩ : ∃ m', m = m' + 1 := ⟨m - 1, by omega⟩
  obtain ⟨n, rfl⟩ : ∃ n', n = n' + 1 := ⟨n - 1, by omega⟩
  obtain ⟨c0, x0, e1, e2, h0⟩ := note_both (v := 2) h (by omega)
  have C : (sccX3_perform (n + 1 + 2)).1 (nI b) (nI 0) (nI 3) y (nI d) c = bP (gX3_runGhost (sccX3_perform (n + 1)).1 (sccX3_perform (n + 1)).2.1 (sccX3_perform (n + 1)).2.2.1 (sccX3_perform (n + 1)).2.2.2 (nI 2) (nI b) y (nI d) c0) fun r9 s10 => some (r9, s10) := by
    rw [show n + 1 + 2 = n + 1 + 1 + 1 from rfl, pf_s, dp_3_0]
    unfold gX3_perform_b45
    rw [if_neg (show ¬ nI 0 < 0 by decide), if_pos ((nLe (by omega) (by omega)).mpr (by omega)), nM, nA, ldR_n (show 4 * 0 + 3 < 32 by decide) (by decide), show roOwn (4 * 0 + 3) = nI 2 by decide, bnd_d, e1, bO_s]
    rw [if_pos (show nI 0 = 0 by decide), rg_s]
  rw [C, bP_id]
  show ∃ v' c' x' r', _ ∧ gX11_tellsAs (sccX11_tellsAs m) (nI 0) y x = some (v', x') ∧ _
  unfold gX3_runGhost gX11_tellsAs
  rw [if_neg (show ¬ nI 2 = nI 1 by decide)]
  rw [if_pos (show nI 2 = nI 2 from rfl)]
  rw [if_neg (show ¬ nI 0 = nI 5 by decide)]
  rw [if_neg (show ¬ nI 0 = nI 7 by decide)]
  rw [e2, bO_s]
  obtain ⟨v1, c1, x1, r1, f1, g1, hr1, h1⟩ := sa_1 K h.2.1 n 60 (by omega) (by omega) K b (r + 1) (d + 1) y c0 x0 (by omega) (by omega) h0
  have g1' : fX11_sticksAs (nI K) y x0 = some (v1, x1) := g1
  rw [own_c h0, f1, bP_s,  h0.2.2.2.1, g1', bP_s]
  obtain ⟨v2, c2, x2, r2, f2, g2, hr2, h2⟩ := sa_2 K h.2.1 n 60 (by omega) (by omega) K b r1 (d + 1) (nI 1) c1 x1 (by omega) (by omega) h1
  have g2' : fX11_ringsAs (nI K) (nI 1) x1 = some (v2, x2) := g2
  rw [own_c h1, f2, bP_s, bnd_d,  h1.2.2.2.1, g2', bP_s]
  exact ⟨_, _, _, r2, rfl, rfl, by omega, h2⟩
theorem sp_3_1 : SP 3 1 13 6 14 := by
  intro n m hn hm K b r d y c x hd hr h
  obtain ⟨n, rfl⟩ : ∃ n', n = n' + 2 := ⟨n - 2, by omega⟩
  obtain ⟨m, rfl⟩ : ∃ m', m = m' + 1 := ⟨m - 1, by omega⟩
  obtain ⟨n, rfl⟩ : ∃ n', n = n' + 1 := ⟨n - 1, by omega⟩
  obtain ⟨c0, x0, e1, e2, h0⟩ := note_both (v := 2) h (by omega)
  have C : (sccX3_perform (n + 1 + 2)).1 (nI b) (nI 1) (nI 3) y (nI d) c = bP (gX3_runGhost (sccX3_perform (n + 1)).1 (sccX3_perform (n + 1)).2.1 (sccX3_perform (n + 1)).2.2.1 (sccX3_perform (n + 1)).2.2.2 (nI 2) (nI b) y (nI d) c0) fun r9 s10 => some (r9, s10) := by
    rw [show n + 1 + 2 = n + 1 + 1 + 1 from rfl, pf_s, dp_3_1]
    unfold gX3_perform_b45
    rw [if_neg (show ¬ nI 0 < 0 by decide), if_pos ((nLe (by omega) (by omega)).mpr (by omega)), nM, nA, ldR_n (show 4 * 0 + 3 < 32 by decide) (by decide), show roOwn (4 * 0 + 3) = nI 2 by decide, bnd_d, e1, bO_s]
    rw [if_pos (show nI 0 = 0 by decide), rg_s]
  rw [C, bP_id]
  show ∃ v' c' x' r', _ ∧ gX11_tellsAs (sccX11_tellsAs m) (nI 1) y x = some (v', x') ∧ _
  unfold gX3_runGhost gX11_tellsAs
  rw [if_neg (show ¬ nI 2 = nI 1 by decide)]
  rw [if_pos (show nI 2 = nI 2 from rfl)]
  rw [if_neg (show ¬ nI 1 = nI 5 by decide)]
  rw [if_neg (show ¬ nI 1 = nI 7 by decide)]
  rw [e2, bO_s]
  obtain ⟨v1, c1, x1, r1, f1, g1, hr1, h1⟩ := sa_1 K h.2.1 n 60 (by omega) (by omega) K b (r + 1) (d + 1) y c0 x0 (by omega) (by omega) h0
  have g1' : fX11_sticksAs (nI K) y x0 = some (v1, x1) := g1
  rw [own_c h0, f1, bP_s,  h0.2.2.2.1, g1', bP_s]
  obtain ⟨v2, c2, x2, r2, f2, g2, hr2, h2⟩ := sa_2 K h.2.1 n 60 (by omega) (by omega) K b r1 (d + 1) (nI 1) c1 x1 (by omega) (by omega) h1
  have g2' : fX11_ringsAs (nI K) (nI 1) x1 = some (v2, x2) := g2
  rw [own_c h1, f2, bP_s, bnd_d,  h1.2.2.2.1, g2', bP_s]
  exact ⟨_, _, _, r2, rfl, rfl, by omega, h2⟩
theorem sp_3_2 : SP 3 2 13 6 14 := by
  intro n m hn hm K b r d y c x hd hr h
  obtain ⟨n, rfl⟩ : ∃ n', n = n' + 2 := ⟨n - 2, by omega⟩
  obtain ⟨m, rfl⟩ : ∃ m', m = m' + 1 := ⟨m - 1, by omega⟩
  obtain ⟨n, rfl⟩ : ∃ n', n = n' + 1 := ⟨n - 1, by omega⟩
  obtain ⟨c0, x0, e1, e2, h0⟩ := note_both (v := 2) h (by omega)
  have C : (sccX3_perform (n + 1 + 2)).1 (nI b) (nI 2) (nI 3) y (nI d) c = bP (gX3_runGhost (sccX3_perform (n + 1)).1 (sccX3_perform (n + 1)).2.1 (sccX3_perform (n + 1)).2.2.1 (sccX3_perform (n + 1)).2.2.2 (nI 2) (nI b) y (nI d) c0) fun r9 s10 => some (r9, s10) := by
    rw [show n + 1 + 2 = n + 1 + 1 + 1 from rfl, pf_s, dp_3_2]
    unfold gX3_perform_b45
    rw [if_neg (show ¬ nI 0 < 0 by decide), if_pos ((nLe (by omega) (by omega)).mpr (by omega)), nM, nA, ldR_n (show 4 * 0 + 3 < 32 by decide) (by decide), show roOwn (4 * 0 + 3) = nI 2 by decide, bnd_d, e1, bO_s]
    rw [if_pos (show nI 0 = 0 by decide), rg_s]
  rw [C, bP_id]
  show ∃ v' c' x' r', _ ∧ gX11_tellsAs (sccX11_tellsAs m) (nI 2) y x = some (v', x') ∧ _
  unfold gX3_runGhost gX11_tellsAs
  rw [if_neg (show ¬ nI 2 = nI 1 by decide)]
  rw [if_pos (show nI 2 = nI 2 from rfl)]
  rw [if_neg (show ¬ nI 2 = nI 5 by decide)]
  rw [if_neg (show ¬ nI 2 = nI 7 by decide)]
  rw [e2, bO_s]
  obtain ⟨v1, c1, x1, r1, f1, g1, hr1, h1⟩ := sa_1 K h.2.1 n 60 (by omega) (by omega) K b (r + 1) (d + 1) y c0 x0 (by omega) (by omega) h0
  have g1' : fX11_sticksAs (nI K) y x0 = some (v1, x1) := g1
  rw [own_c h0, f1, bP_s,  h0.2.2.2.1, g1', bP_s]
  obtain ⟨v2, c2, x2, r2, f2, g2, hr2, h2⟩ := sa_2 K h.2.1 n 60 (by omega) (by omega) K b r1 (d + 1) (nI 1) c1 x1 (by omega) (by omega) h1
  have g2' : fX11_ringsAs (nI K) (nI 1) x1 = some (v2, x2) := g2
  rw [own_c h1, f2, bP_s, bnd_d,  h1.2.2.2.1, g2', bP_s]
  exact ⟨_, _, _, r2, rfl, rfl, by omega, h2⟩
theorem sp_3_3 : SP 3 3 13 6 14 := by
  intro n m hn hm K b r d y c x hd hr h
  obtain ⟨n, rfl⟩ : ∃ n', n = n' + 2 := ⟨n - 2, by omega⟩
  obtain ⟨m, rfl⟩ : ∃ m', m = m' + 1 := ⟨m - 1, by omega⟩
  obtain ⟨n, rfl⟩ : ∃ n', n = n' + 1 := ⟨n - 1, by omega⟩
  obtain ⟨c0, x0, e1, e2, h0⟩ := note_both (v := 2) h (by omega)
  have C : (sccX3_perform (n + 1 + 2)).1 (nI b) (nI 3) (nI 3) y (nI d) c = bP (gX3_runGhost (sccX3_perform (n + 1)).1 (sccX3_perform (n + 1)).2.1 (sccX3_perform (n + 1)).2.2.1 (sccX3_perform (n + 1)).2.2.2 (nI 2) (nI b) y (nI d) c0) fun r9 s10 => some (r9, s10) := by
    rw [show n + 1 + 2 = n + 1 + 1 + 1 from rfl, pf_s, dp_3_3]
    unfold gX3_perform_b45
    rw [if_neg (show ¬ nI 0 < 0 by decide), if_pos ((nLe (by omega) (by omega)).mpr (by omega)), nM, nA, ldR_n (show 4 * 0 + 3 < 32 by decide) (by decide), show roOwn (4 * 0 + 3) = nI 2 by decide, bnd_d, e1, bO_s]
    rw [if_pos (show nI 0 = 0 by decide), rg_s]
  rw [C, bP_id]
  show ∃ v' c' x' r', _ ∧ gX11_tellsAs (sccX11_tellsAs m) (nI 3) y x = some (v', x') ∧ _
  unfold gX3_runGhost gX11_tellsAs
  rw [if_neg (show ¬ nI 2 = nI 1 by decide)]
  rw [if_pos (show nI 2 = nI 2 from rfl)]
  rw [if_neg (show ¬ nI 3 = nI 5 by decide)]
  rw [if_neg (show ¬ nI 3 = nI 7 by decide)]
  rw [e2, bO_s]
  obtain ⟨v1, c1, x1, r1, f1, g1, hr1, h1⟩ := sa_1 K h.2.1 n 60 (by omega) (by omega) K b (r + 1) (d + 1) y c0 x0 (by omega) (by omega) h0
  have g1' : fX11_sticksAs (nI K) y x0 = some (v1, x1) := g1
  rw [own_c h0, f1, bP_s,  h0.2.2.2.1, g1', bP_s]
  obtain ⟨v2, c2, x2, r2, f2, g2, hr2, h2⟩ := sa_2 K h.2.1 n 60 (by omega) (by omega) K b r1 (d + 1) (nI 1) c1 x1 (by omega) (by omega) h1
  have g2' : fX11_ringsAs (nI K) (nI 1) x1 = some (v2, x2) := g2
  rw [own_c h1, f2, bP_s, bnd_d,  h1.2.2.2.1, g2', bP_s]
  exact ⟨_, _, _, r2, rfl, rfl, by omega, h2⟩
theorem sp_3_4 : SP 3 4 13 6 14 := by
  intro n m hn hm K b r d y c x hd hr h
  obtain ⟨n, rfl⟩ : ∃ n', n = n' + 2 := ⟨n - 2, by omega⟩
  obtain ⟨m, rfl⟩ : ∃ m', m = m' + 1 := ⟨m - 1, by omega⟩
  obtain ⟨n, rfl⟩ : ∃ n', n = n' + 1 := ⟨n - 1, by omega⟩
  obtain ⟨c0, x0, e1, e2, h0⟩ := note_both (v := 2) h (by omega)
  have C : (sccX3_perform (n + 1 + 2)).1 (nI b) (nI 4) (nI 3) y (nI d) c = bP (gX3_runGhost (sccX3_perform (n + 1)).1 (sccX3_perform (n + 1)).2.1 (sccX3_perform (n + 1)).2.2.1 (sccX3_perform (n + 1)).2.2.2 (nI 2) (nI b) y (nI d) c0) fun r9 s10 => some (r9, s10) := by
    rw [show n + 1 + 2 = n + 1 + 1 + 1 from rfl, pf_s, dp_3_4]
    unfold gX3_perform_b45
    rw [if_neg (show ¬ nI 0 < 0 by decide), if_pos ((nLe (by omega) (by omega)).mpr (by omega)), nM, nA, ldR_n (show 4 * 0 + 3 < 32 by decide) (by decide), show roOwn (4 * 0 + 3) = nI 2 by decide, bnd_d, e1, bO_s]
    rw [if_pos (show nI 0 = 0 by decide), rg_s]
  rw [C, bP_id]
  show ∃ v' c' x' r', _ ∧ gX11_tellsAs (sccX11_tellsAs m) (nI 4) y x = some (v', x') ∧ _
  unfold gX3_runGhost gX11_tellsAs
  rw [if_neg (show ¬ nI 2 = nI 1 by decide)]
  rw [if_pos (show nI 2 = nI 2 from rfl)]
  rw [if_neg (show ¬ nI 4 = nI 5 by decide)]
  rw [if_neg (show ¬ nI 4 = nI 7 by decide)]
  rw [e2, bO_s]
  obtain ⟨v1, c1, x1, r1, f1, g1, hr1, h1⟩ := sa_1 K h.2.1 n 60 (by omega) (by omega) K b (r + 1) (d + 1) y c0 x0 (by omega) (by omega) h0
  have g1' : fX11_sticksAs (nI K) y x0 = some (v1, x1) := g1
  rw [own_c h0, f1, bP_s,  h0.2.2.2.1, g1', bP_s]
  obtain ⟨v2, c2, x2, r2, f2, g2, hr2, h2⟩ := sa_2 K h.2.1 n 60 (by omega) (by omega) K b r1 (d + 1) (nI 1) c1 x1 (by omega) (by omega) h1
  have g2' : fX11_ringsAs (nI K) (nI 1) x1 = some (v2, x2) := g2
  rw [own_c h1, f2, bP_s, bnd_d,  h1.2.2.2.1, g2', bP_s]
  exact ⟨_, _, _, r2, rfl, rfl, by omega, h2⟩
theorem sp_3_5 : SP 3 5 14 7 16 := by
  intro n m hn hm K b r d y c x hd hr h
  obtain ⟨n, rfl⟩ : ∃ n', n = n' + 2 := ⟨n - 2, by omega⟩
  obtain ⟨m, rfl⟩ : ∃ m', m = m' + 1 := ⟨m - 1, by omega⟩
  obtain ⟨c0, x0, e1, e2, h0⟩ := note_both (v := 60) h (by omega)
  have C : (sccX3_perform (n + 2)).1 (nI b) (nI 5) (nI 3) y (nI d) c = bP (gX3_runUnder (sccX3_perform (n)).1 (sccX3_perform (n)).2.1 (sccX3_perform (n)).2.2.1 (sccX3_perform (n)).2.2.2 (nI 60) (nI b) y (nI d) (nI 3) c0) fun r9 s10 => some (r9, s10) := by
    rw [show n + 2 = n + 1 + 1 from rfl, pf_s, dp_3_5]
    unfold gX3_perform_b45
    rw [if_neg (show ¬ nI 5 < 0 by decide), if_pos ((nLe (by omega) (by omega)).mpr (by omega)), nM, nA, ldR_n (show 4 * 5 + 3 < 32 by decide) (by decide), show roOwn (4 * 5 + 3) = nI 60 by decide, bnd_d, e1, bO_s]
    rw [if_neg (show ¬ nI 5 = 0 by decide), ldR_n (show 5 < 8 by decide) (by decide), show roAbove 5 = nI 3 by decide, ru_s]
  rw [C, bP_id]
  show ∃ v' c' x' r', _ ∧ gX11_tellsAs (sccX11_tellsAs m) (nI 5) y x = some (v', x') ∧ _
  unfold gX3_runUnder gX11_tellsAs
  rw [if_neg (show ¬ nI 60 = nI 20 by decide)]
  rw [if_neg (show ¬ nI 60 = nI 30 by decide)]
  rw [if_neg (show ¬ nI 60 = nI 40 by decide)]
  rw [if_neg (show ¬ nI 60 = nI 41 by decide)]
  rw [if_neg (show ¬ nI 60 = nI 50 by decide)]
  rw [if_pos (show nI 60 = nI 60 from rfl)]
  rw [if_pos (show nI 5 = nI 5 from rfl)]
  rw [e2, bO_s]
  obtain ⟨v1, c1, x1, r1, f1, g1, hr1, h1⟩ := sp_3_3 (n) m (by omega) (by omega) K b (r + 1) (d + 1) y c0 x0 (by omega) (by omega) h0
  have g1' : sccX11_tellsAs m (nI 3) y x0 = some (v1, x1) := g1
  rw [nA, f1, bP_s, g1', bP_s]
  exact ⟨_, _, _, r1, rfl, rfl, by omega, h1⟩
theorem sp_3_6 : SP 3 6 13 6 14 := by
  intro n m hn hm K b r d y c x hd hr h
  obtain ⟨n, rfl⟩ : ∃ n', n = n' + 2 := ⟨n - 2, by omega⟩
  obtain ⟨m, rfl⟩ : ∃ m', m = m' + 1 := ⟨m - 1, by omega⟩
  obtain ⟨n, rfl⟩ : ∃ n', n = n' + 1 := ⟨n - 1, by omega⟩
  obtain ⟨c0, x0, e1, e2, h0⟩ := note_both (v := 2) h (by omega)
  have C : (sccX3_perform (n + 1 + 2)).1 (nI b) (nI 6) (nI 3) y (nI d) c = bP (gX3_runGhost (sccX3_perform (n + 1)).1 (sccX3_perform (n + 1)).2.1 (sccX3_perform (n + 1)).2.2.1 (sccX3_perform (n + 1)).2.2.2 (nI 2) (nI b) y (nI d) c0) fun r9 s10 => some (r9, s10) := by
    rw [show n + 1 + 2 = n + 1 + 1 + 1 from rfl, pf_s, dp_3_6]
    unfold gX3_perform_b45
    rw [if_neg (show ¬ nI 0 < 0 by decide), if_pos ((nLe (by omega) (by omega)).mpr (by omega)), nM, nA, ldR_n (show 4 * 0 + 3 < 32 by decide) (by decide), show roOwn (4 * 0 + 3) = nI 2 by decide, bnd_d, e1, bO_s]
    rw [if_pos (show nI 0 = 0 by decide), rg_s]
  rw [C, bP_id]
  show ∃ v' c' x' r', _ ∧ gX11_tellsAs (sccX11_tellsAs m) (nI 6) y x = some (v', x') ∧ _
  unfold gX3_runGhost gX11_tellsAs
  rw [if_neg (show ¬ nI 2 = nI 1 by decide)]
  rw [if_pos (show nI 2 = nI 2 from rfl)]
  rw [if_neg (show ¬ nI 6 = nI 5 by decide)]
  rw [if_neg (show ¬ nI 6 = nI 7 by decide)]
  rw [e2, bO_s]
  obtain ⟨v1, c1, x1, r1, f1, g1, hr1, h1⟩ := sa_1 K h.2.1 n 60 (by omega) (by omega) K b (r + 1) (d + 1) y c0 x0 (by omega) (by omega) h0
  have g1' : fX11_sticksAs (nI K) y x0 = some (v1, x1) := g1
  rw [own_c h0, f1, bP_s,  h0.2.2.2.1, g1', bP_s]
  obtain ⟨v2, c2, x2, r2, f2, g2, hr2, h2⟩ := sa_2 K h.2.1 n 60 (by omega) (by omega) K b r1 (d + 1) (nI 1) c1 x1 (by omega) (by omega) h1
  have g2' : fX11_ringsAs (nI K) (nI 1) x1 = some (v2, x2) := g2
  rw [own_c h1, f2, bP_s, bnd_d,  h1.2.2.2.1, g2', bP_s]
  exact ⟨_, _, _, r2, rfl, rfl, by omega, h2⟩
theorem sp_3_7 : SP 3 7 14 7 16 := by
  intro n m hn hm K b r d y c x hd hr h
  obtain ⟨n, rfl⟩ : ∃ n', n = n' + 2 := ⟨n - 2, by omega⟩
  obtain ⟨m, rfl⟩ : ∃ m', m = m' + 1 := ⟨m - 1, by omega⟩
  obtain ⟨c0, x0, e1, e2, h0⟩ := note_both (v := 81) h (by omega)
  have C : (sccX3_perform (n + 2)).1 (nI b) (nI 7) (nI 3) y (nI d) c = bP (gX3_runUnder (sccX3_perform (n)).1 (sccX3_perform (n)).2.1 (sccX3_perform (n)).2.2.1 (sccX3_perform (n)).2.2.2 (nI 81) (nI b) y (nI d) (nI 4) c0) fun r9 s10 => some (r9, s10) := by
    rw [show n + 2 = n + 1 + 1 from rfl, pf_s, dp_3_7]
    unfold gX3_perform_b45
    rw [if_neg (show ¬ nI 7 < 0 by decide), if_pos ((nLe (by omega) (by omega)).mpr (by omega)), nM, nA, ldR_n (show 4 * 7 + 3 < 32 by decide) (by decide), show roOwn (4 * 7 + 3) = nI 81 by decide, bnd_d, e1, bO_s]
    rw [if_neg (show ¬ nI 7 = 0 by decide), ldR_n (show 7 < 8 by decide) (by decide), show roAbove 7 = nI 4 by decide, ru_s]
  rw [C, bP_id]
  show ∃ v' c' x' r', _ ∧ gX11_tellsAs (sccX11_tellsAs m) (nI 7) y x = some (v', x') ∧ _
  unfold gX3_runUnder gX11_tellsAs
  rw [if_neg (show ¬ nI 81 = nI 20 by decide)]
  rw [if_neg (show ¬ nI 81 = nI 30 by decide)]
  rw [if_neg (show ¬ nI 81 = nI 40 by decide)]
  rw [if_neg (show ¬ nI 81 = nI 41 by decide)]
  rw [if_neg (show ¬ nI 81 = nI 50 by decide)]
  rw [if_neg (show ¬ nI 81 = nI 60 by decide)]
  rw [if_neg (show ¬ nI 81 = nI 70 by decide)]
  rw [if_neg (show ¬ nI 81 = nI 80 by decide)]
  rw [if_neg (show ¬ nI 7 = nI 5 by decide)]
  rw [if_pos (show nI 7 = nI 7 from rfl)]
  rw [e2, bO_s]
  obtain ⟨v1, c1, x1, r1, f1, g1, hr1, h1⟩ := sp_3_4 (n) m (by omega) (by omega) K b (r + 1) (d + 1) y c0 x0 (by omega) (by omega) h0
  have g1' : sccX11_tellsAs m (nI 4) y x0 = some (v1, x1) := g1
  rw [nA, f1, bP_s, g1', bP_s]
  exact ⟨_, _, _, r1, rfl, rfl, by omega, h1⟩
theorem sa_3 (k : Nat) (hk : k ≤ 7) : SP 3 k 14 7 16 := by
  rcases (show k = 0 ∨ k = 1 ∨ k = 2 ∨ k = 3 ∨ k = 4 ∨ k = 5 ∨ k = 6 ∨ k = 7 by omega) with rfl | rfl | rfl | rfl | rfl | rfl | rfl | rfl
  · exact sp_3_0.mono (by decide) (by decide) (by decide)
  · exact sp_3_1.mono (by decide) (by decide) (by decide)
  · exact sp_3_2.mono (by decide) (by decide) (by decide)
  · exact sp_3_3.mono (by decide) (by decide) (by decide)
  · exact sp_3_4.mono (by decide) (by decide) (by decide)
  · exact sp_3_5.mono (by decide) (by decide) (by decide)
  · exact sp_3_6.mono (by decide) (by decide) (by decide)
  · exact sp_3_7.mono (by decide) (by decide) (by decide)
