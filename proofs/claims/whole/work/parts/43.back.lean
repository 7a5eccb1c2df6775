theorem Rel.bk {c x d y : mS} (h : Rel c x) (I : ∀ k, k ∉ ([8, 9, 10, 11, 12] : List Nat) → gI d k = gI c k) (hA : ∀ k, k ∉ ([0, 2, 9] : List Nat) → ∀ i, gA d k i = gA c k i) (hL : ∀ k i, gL d k i = gL c k i) (X : ∀ k, k ∉ ([iX_latest] : List Nat) → gI y k = gI x k) (hB : ∀ k, k ∉ ([aX_may, aX_ledNow] : List Nat) → ∀ i, gA y k i = gA x k i) (hM : ∀ k i, k ≠ lX_carried → gL y k i = gL x k i) (qrN : rN d y) (qrG : rG d y) : Rel d y := by
  obtain ⟨h1, h2, h3, h4, h5, h6, h7, h8⟩ := h
  have eA : ∀ k, k ∉ ([0, 2, 9] : List Nat) → gA d k = gA c k := fun k hk => funext (fun i => hA k hk i)
  have eB : ∀ k, k ∉ ([aX_may, aX_ledNow] : List Nat) → gA y k = gA x k := fun k hk => funext (fun i => hB k hk i)
  refine ⟨qrN, ?_, ?_, ?_, ?_, ?_, ?_, qrG⟩
  · unfold rH at h2 ⊢
    rw [I iH_done (by decide), I iH_kept (by decide), X iX_done (by decide), X iX_keptMany (by decide), eA aH_numbers (by decide), eA aH_whats (by decide), eA aH_olds (by decide), eA aH_news (by decide), eB aX_changeAt (by decide), eB aX_changeWas (by decide), eB aX_changeIs (by decide)]
    exact h2
  · unfold rT at h3 ⊢
    rw [I iP_size (by decide), X iX_tapeMany (by decide), eA aP_bytes (by decide), eB aX_tape (by decide)]
    exact h3
  · unfold rL at h4 ⊢
    rw [I iL_told (by decide), X iX_textMany (by decide), I iL_stepsSize (by decide), eA aL_steps (by decide), eB aX_text (by decide)]
    exact h4
  · unfold rI at h5 ⊢
    rw [I iT_imageKept (by decide), X iX_isKept (by decide), I (iM_size 2) (by decide), X iX_imageMachines (by decide), eB aX_imageMay (by decide), eA (aM_pulls 2) (by decide), eA (aM_ages 2) (by decide), I (iW_size 1) (by decide), X iX_imageWriters (by decide), eA (aW_hands 1) (by decide), eB aX_imageLed (by decide), I (iG_letters 1) (by decide), I (iG_cleanings 1) (by decide), I (iG_learnings 1) (by decide), I (iG_showed 1) (by decide), I (iG_latest 1) (by decide), X iX_imageLatest (by decide)]
    exact h5
  · unfold rU at h6 ⊢
    rw [I iU_size (by decide), X iX_bodies (by decide), eA aU_kinds (by decide), eB aX_bodyKind (by decide), I iU_ran (by decide), X iX_ran (by decide), eA aU_traced (by decide), eB aX_trace (by decide)]
    exact h6
  · exact h7.keep (fun k k1 k2 => I k (by simp only [List.mem_cons, List.not_mem_nil, or_false]; omega)) (I iU_size (by decide)) hL (eB _ (by decide)) (eB _ (by decide)) (funext (fun i => hM _ i (by decide)))
theorem bk1_loop (n : Nat) (hn : n ≤ 8) : ∀ (m k i : Nat) (x : mS), gI x iX_imageMachines = nI n → i + m = 3 * n → m < k → ∃ x', fX11_back_b12 k (nI i) x = fX11_back_b42 mFu (nI 0) x' ∧ (∀ j, gI x' j = gI x j) ∧ (∀ j q, gL x' j q = gL x j q) ∧ (∀ j, j ≠ aX_may → ∀ q, gA x' j q = gA x j q) ∧ ∀ q, gA x' aX_may q = if i ≤ q ∧ q < 3 * n then gA x aX_imageMay q else gA x aX_may q := by
  intro m
  induction m with
  | zero =>
    intro k i x h0 h1 h2
    obtain ⟨k, rfl⟩ : ∃ k', k = k' + 1 := ⟨k - 1, by omega⟩
    rw [fX11_back_b12, h0, nM, if_pos ((nLe (by omega) (by omega)).mpr (by omega)), bnd_d]
    exact ⟨x, rfl, fun _ => rfl, fun _ _ => rfl, fun _ _ _ => rfl, fun q => by rw [if_neg (by omega)]⟩
  | succ m ih =>
    intro k i x h0 h1 h2
    obtain ⟨k, rfl⟩ : ∃ k', k = k' + 1 := ⟨k - 1, by omega⟩
    rw [fX11_back_b12, h0, nM, if_neg (fun z => absurd ((nLe (by omega) (by omega)).mp z) (by omega)), ldA_n (by omega) (by omega), stA_n (by omega) (by omega), bnd_d, nA]
    obtain ⟨x', e1, e2, e3, e4, e5⟩ := ih k (i + 1) (pA x aX_may i (gA x aX_imageMay i)) h0 (by omega) (by omega)
    refine ⟨x', e1, fun j => by rw [e2]; rfl, fun j q => by rw [e3]; rfl, fun j hj q => by rw [e4 j hj, gA_ne hj], fun q => ?_⟩
    rw [e5, gA_ne (show aX_imageMay ≠ aX_may by decide), gA_eq]
    by_cases hq : q = i
    · rw [if_neg (show ¬ (i + 1 ≤ q ∧ q < 3 * n) by omega), if_pos hq, if_pos (show i ≤ q ∧ q < 3 * n by omega), hq]
    · by_cases hr : i + 1 ≤ q ∧ q < 3 * n
      · rw [if_pos hr, if_pos (show i ≤ q ∧ q < 3 * n by omega)]
      · rw [if_neg hr, if_neg hq, if_neg (show ¬ (i ≤ q ∧ q < 3 * n) by omega)]
theorem bk2_loop (n : Nat) (hn : n ≤ 8) : ∀ (m k i : Nat) (x : mS), gI x iX_imageMachines = nI n → i + m = n → m < k → ∃ x', fX11_back_b42 k (nI i) x = fX11_back_b76 mFu (nI 0) x' ∧ (∀ j, gI x' j = gI x j) ∧ (∀ j q, gL x' j q = gL x j q) ∧ (∀ j, j ≠ aX_may → ∀ q, gA x' j q = gA x j q) ∧ ∀ q, gA x' aX_may q = if 24 + i ≤ q ∧ q < 24 + n then gA x aX_imageMay q else gA x aX_may q := by
  intro m
  induction m with
  | zero =>
    intro k i x h0 h1 h2
    obtain ⟨k, rfl⟩ : ∃ k', k = k' + 1 := ⟨k - 1, by omega⟩
    rw [fX11_back_b42, h0, if_pos ((nLe (by omega) (by omega)).mpr (by omega)), bnd_d]
    exact ⟨x, rfl, fun _ => rfl, fun _ _ => rfl, fun _ _ _ => rfl, fun q => by rw [if_neg (by omega)]⟩
  | succ m ih =>
    intro k i x h0 h1 h2
    obtain ⟨k, rfl⟩ : ∃ k', k = k' + 1 := ⟨k - 1, by omega⟩
    rw [fX11_back_b42, h0, if_neg (fun z => absurd ((nLe (by omega) (by omega)).mp z) (by omega)), nA, ldA_n (by omega) (by omega), stA_n (by omega) (by omega), bnd_d, nA]
    obtain ⟨x', e1, e2, e3, e4, e5⟩ := ih k (i + 1) (pA x aX_may (24 + i) (gA x aX_imageMay (24 + i))) h0 (by omega) (by omega)
    refine ⟨x', e1, fun j => by rw [e2]; rfl, fun j q => by rw [e3]; rfl, fun j hj q => by rw [e4 j hj, gA_ne hj], fun q => ?_⟩
    rw [e5, gA_ne (show aX_imageMay ≠ aX_may by decide), gA_eq]
    by_cases hq : q = 24 + i
    · rw [if_neg (show ¬ (24 + (i + 1) ≤ q ∧ q < 24 + n) by omega), if_pos hq, if_pos (show 24 + i ≤ q ∧ q < 24 + n by omega), hq]
    · by_cases hr : 24 + (i + 1) ≤ q ∧ q < 24 + n
      · rw [if_pos hr, if_pos (show 24 + i ≤ q ∧ q < 24 + n by omega)]
      · rw [if_neg hr, if_neg hq, if_neg (show ¬ (24 + i ≤ q ∧ q < 24 + n) by omega)]
theorem bk3_loop (n : Nat) (hn : n ≤ 8) : ∀ (m k i : Nat) (x : mS), gI x iX_imageWriters = nI n → i + m = 3 * n → m < k → ∃ x', fX11_back_b76 k (nI i) x = fX11_back_b120 mFu (nI 0) (pI x' iX_latest (gI x' iX_imageLatest)) ∧ (∀ j, gI x' j = gI x j) ∧ (∀ j q, gL x' j q = gL x j q) ∧ (∀ j, j ≠ aX_may → ∀ q, gA x' j q = gA x j q) ∧ ∀ q, gA x' aX_may q = if 32 + i ≤ q ∧ q < 32 + 3 * n then gA x aX_imageMay q else gA x aX_may q := by
  intro m
  induction m with
  | zero =>
    intro k i x h0 h1 h2
    obtain ⟨k, rfl⟩ : ∃ k', k = k' + 1 := ⟨k - 1, by omega⟩
    rw [fX11_back_b76, h0, nM, if_pos ((nLe (by omega) (by omega)).mpr (by omega)), bnd_d, bnd_d]
    exact ⟨x, rfl, fun _ => rfl, fun _ _ => rfl, fun _ _ _ => rfl, fun q => by rw [if_neg (by omega)]⟩
  | succ m ih =>
    intro k i x h0 h1 h2
    obtain ⟨k, rfl⟩ : ∃ k', k = k' + 1 := ⟨k - 1, by omega⟩
    rw [fX11_back_b76, h0, nM, if_neg (fun z => absurd ((nLe (by omega) (by omega)).mp z) (by omega)), nA, ldA_n (by omega) (by omega), stA_n (by omega) (by omega), bnd_d, nA]
    obtain ⟨x', e1, e2, e3, e4, e5⟩ := ih k (i + 1) (pA x aX_may (32 + i) (gA x aX_imageMay (32 + i))) h0 (by omega) (by omega)
    refine ⟨x', e1, fun j => by rw [e2]; rfl, fun j q => by rw [e3]; rfl, fun j hj q => by rw [e4 j hj, gA_ne hj], fun q => ?_⟩
    rw [e5, gA_ne (show aX_imageMay ≠ aX_may by decide), gA_eq]
    by_cases hq : q = 32 + i
    · rw [if_neg (show ¬ (32 + (i + 1) ≤ q ∧ q < 32 + 3 * n) by omega), if_pos hq, if_pos (show 32 + i ≤ q ∧ q < 32 + 3 * n by omega), hq]
    · by_cases hr : 32 + (i + 1) ≤ q ∧ q < 32 + 3 * n
      · rw [if_pos hr, if_pos (show 32 + i ≤ q ∧ q < 32 + 3 * n by omega)]
      · rw [if_neg hr, if_neg hq, if_neg (show ¬ (32 + i ≤ q ∧ q < 32 + 3 * n) by omega)]
theorem bk_led (x : mS) : ∃ x', fX11_back_b120 mFu (nI 0) x = some (gA x aX_imageLed 0, x') ∧ (∀ j, gI x' j = gI x j) ∧ (∀ j q, gL x' j q = gL x j q) ∧ (∀ j, j ≠ aX_ledNow → ∀ q, gA x' j q = gA x j q) ∧ gA x' aX_ledNow 0 = gA x aX_imageLed 0 ∧ gA x' aX_ledNow 1 = gA x aX_imageLed 1 ∧ gA x' aX_ledNow 2 = gA x aX_imageLed 2 ∧ gA x' aX_ledNow 3 = gA x aX_imageLed 3 := by
  obtain ⟨k, hk⟩ : ∃ k, mFu = k + 5 := ⟨5995, rfl⟩
  have st : ∀ (i : Nat) (hi : i < 4) (f : Nat) (x : mS), fX11_back_b120 (f + 1) (nI i) x = fX11_back_b120 f (nI (i + 1)) (pA x aX_ledNow i (gA x aX_imageLed i)) := by
    intro i hi f x
    rw [fX11_back_b120, if_neg (fun z => absurd ((nLe (by omega) (by omega)).mp z) (by omega)), ldA_n (by omega) (by omega), stA_n (by omega) (by omega), bnd_d, nA]
  rw [hk, st 0 (by omega) (k + 4), st 1 (by omega) (k + 3), st 2 (by omega) (k + 2), st 3 (by omega) (k + 1), fX11_back_b120, if_pos (show nI 4 ≤ nI (3 + 1) by decide), ldA_n (by omega) (by omega)]
  exact ⟨_, rfl, fun _ => rfl, fun _ _ => rfl, fun j hj q => by rw [gA_ne hj, gA_ne hj, gA_ne hj, gA_ne hj], rfl, rfl, rfl, rfl⟩
theorem z_back {c x : mS} (h : Rel c x) : same (fX10_back c) (fX11_back x) := by
  unfold fX10_back fX11_back
  rcases h.2.2.2.2.1 with ⟨k1, k2⟩ | ⟨k1, k2, ⟨n, hn, n1, n2, n3, n4⟩, ⟨w, hw, w1, w2, w3⟩, l0, l1, l2, l3, ll⟩
  · rw [k1, k2, if_pos rfl, if_pos rfl]; exact same_bad h
  rw [k1, k2, if_neg (show ¬ (1 : Int32) = 0 by decide), if_neg (show ¬ (1 : Int32) = 0 by decide), bnd_d]
  obtain ⟨g1, g2, hp, hg, hh, ht, hr⟩ := h.1
  obtain ⟨x1, e1, e2, e3, e4, e5⟩ := bk1_loop n hn (3 * n) mFu 0 x n2 (by omega) (by show 3 * n < 6000; omega)
  obtain ⟨x2, f1, f2, f3, f4, f5⟩ := bk2_loop n hn n mFu 0 x1 (by rw [e2]; exact n2) (by omega) (by show n < 6000; omega)
  obtain ⟨x3, i1, i2, i3, i4, i5⟩ := bk3_loop w hw (3 * w) mFu 0 x2 (by rw [f2, e2]; exact w2) (by omega) (by show 3 * w < 6000; omega)
  obtain ⟨x4, j1, j2, j3, j4, j5, j6, j7, j8⟩ := bk_led (pI x3 iX_latest (gI x3 iX_imageLatest))
  rw [e1, f1, i1, j1]
  have sA : ∀ k, k ≠ aX_may → ∀ q, gA x3 k q = gA x k q := fun k hk q => by rw [i4 k hk, f4 k hk, e4 k hk]
  have sM : ∀ q, gA x4 aX_may q = if 32 ≤ q ∧ q < 32 + 3 * w then gA x aX_imageMay q else if 24 ≤ q ∧ q < 24 + n then gA x aX_imageMay q else if q < 3 * n then gA x aX_imageMay q else gA x aX_may q := by
    intro q
    rw [j4 _ (by decide), gA_pI, i5, f4 _ (by decide), e4 _ (by decide), f5, e4 _ (by decide), e5]
    by_cases h1 : 32 ≤ q ∧ q < 32 + 3 * w
    · rw [if_pos (by omega), if_pos h1]
    · rw [if_neg (by omega), if_neg h1]
      by_cases h2 : 24 ≤ q ∧ q < 24 + n
      · rw [if_pos (by omega), if_pos h2]
      · rw [if_neg (by omega), if_neg h2]
        by_cases h3 : q < 3 * n
        · rw [if_pos (by omega), if_pos h3]
        · rw [if_neg (by omega), if_neg h3]
  unfold fX6_layBack fX9_layBack fX5_copy
  rw [n1, nM, cpA_n (by omega) (by omega) (by omega) (by omega)]
  have a1 : gI (wA c (aM_pulls 0) (va_cpy (c.2.1 (aM_pulls 2)) (c.2.1 (aM_pulls 0)) 0 0 (3 * n))) (iM_size 2) = nI n := n1
  rw [a1, cpA_n (by omega) (by omega) (by omega) (by omega), bO_s]
  have a2 : gI (wA (wA c (aM_pulls 0) (va_cpy (c.2.1 (aM_pulls 2)) (c.2.1 (aM_pulls 0)) 0 0 (3 * n))) (aM_ages 0) (va_cpy ((wA c (aM_pulls 0) (va_cpy (c.2.1 (aM_pulls 2)) (c.2.1 (aM_pulls 0)) 0 0 (3 * n))).2.1 (aM_ages 2)) ((wA c (aM_pulls 0) (va_cpy (c.2.1 (aM_pulls 2)) (c.2.1 (aM_pulls 0)) 0 0 (3 * n))).2.1 (aM_ages 0)) 0 0 n)) (iW_size 1) = nI w := w1
  rw [a2, nM, cpA_n (by omega) (by omega) (by omega) (by omega), bO_s, bnd_d, bnd_d, bnd_d, bnd_d, bnd_d, bO_s]
  have q1 : ∀ (f g : Nat → Int32) (m i : Nat), va_cpy f g 0 0 m i = if i < m then f i else g i := by
    intro f g m i
    rw [cpy_at]
    by_cases hi : i < m
    · rw [if_pos ⟨Nat.zero_le _, by omega⟩, if_pos hi, Nat.sub_zero, Nat.zero_add]
    · rw [if_neg (by omega), if_neg hi]
  have r0 : gA (pI x3 iX_latest (gI x3 iX_imageLatest)) aX_imageLed 0 = gI c (iG_letters 1) := (sA _ (by decide) 0).trans l0
  refine ⟨gI c (iG_letters 1), _, x4, rfl, by rw [r0], h.bk (fun k hk => ?_) (fun k hk i => ?_) (fun _ _ => rfl) (fun k hk => ?_) (fun k hk i => ?_) (fun k i _ => ?_) ?_ ?_⟩
  · simp only [List.mem_cons, List.not_mem_nil, or_false, not_or] at hk
    rw [gI_ne hk.2.2.2.2, gI_ne hk.2.2.2.1, gI_ne hk.2.2.1, gI_ne hk.2.1, gI_ne hk.1, gI_wA, gI_wA, gI_wA]
  · simp only [List.mem_cons, List.not_mem_nil, or_false, not_or] at hk
    simp only [gA_pI]
    rw [gA_wA, if_neg hk.2.2, gA_wA, if_neg hk.2.1, gA_wA, if_neg hk.1]
  · simp only [List.mem_cons, List.not_mem_nil, or_false, not_or] at hk
    rw [j2, gI_ne hk, i2, f2, e2]
  · simp only [List.mem_cons, List.not_mem_nil, or_false, not_or] at hk
    rw [j4 k hk.2, gA_pI, sA k hk.1]
  · rw [j3]
    show gL x3 k i = gL x k i
    rw [i3, f3, e3]
  · have pz : ∀ (u v : Int32) (t : Nat), u = v → (∃ z, z ≤ t ∧ v = nI z) → u = v ∧ ∃ z, z ≤ t ∧ v = nI z := fun _ _ _ a b => ⟨a, b⟩
    refine ⟨?_, ?_, fun i hi => ?_, fun i hi => ?_, fun i hi => ?_, fun i hi => ?_, ?_⟩
    · obtain ⟨N, hN, N1, N2⟩ := g1
      exact ⟨N, hN, N1, by rw [j2, gI_ne (by decide), i2, f2, e2]; exact N2⟩
    · obtain ⟨N, hN, N1, N2⟩ := g2
      exact ⟨N, hN, N1, by rw [j2, gI_ne (by decide), i2, f2, e2]; exact N2⟩
    · have z : ∀ t, t = (if i < 3 * n then gA c (aM_pulls 2) i else gA c (aM_pulls 0) i) → (gA x4 aX_may i = t ∧ ∃ v, v ≤ 12 ∧ t = nI v) := by
        intro t ht
        rw [ht, sM, if_neg (by omega), if_neg (by omega)]
        by_cases hin : i < 3 * n
        · rw [if_pos hin, if_pos hin]; exact n3 i hin
        · rw [if_neg hin, if_neg hin]; exact hp i hi
      exact z _ (q1 (c.2.1 (aM_pulls 2)) (c.2.1 (aM_pulls 0)) (3 * n) i)
    · have z : ∀ t, t = (if i < n then gA c (aM_ages 2) i else gA c (aM_ages 0) i) → (gA x4 aX_may (24 + i) = t ∧ ∃ v, v ≤ 99 ∧ t = nI v) := by
        intro t ht
        rw [ht, sM, if_neg (by omega)]
        by_cases hin : i < n
        · rw [if_pos (by omega), if_pos hin]; exact n4 i hin
        · rw [if_neg (by omega), if_neg (by omega), if_neg hin]; exact hg i hi
      exact z _ (q1 (c.2.1 (aM_ages 2)) (c.2.1 (aM_ages 0)) n i)
    · have z : ∀ t, t = (if i < 3 * w then gA c (aW_hands 1) i else gA c (aW_hands 0) i) → (gA x4 aX_may (32 + i) = t ∧ ∃ v, v ≤ 12 ∧ t = nI v) := by
        intro t ht
        rw [ht, sM]
        by_cases hin : i < 3 * w
        · rw [if_pos (by omega), if_pos hin]; exact w3 i hin
        · rw [if_neg (by omega), if_neg (by omega), if_neg (by omega), if_neg hin]; exact hh i hi
      exact z _ (q1 (c.2.1 (aW_hands 1)) (c.2.1 (aW_hands 0)) (3 * w) i)
    · rw [sM, if_neg (by omega), if_neg (by omega), if_neg (by omega)]
      exact ht i hi
    · rw [sM, if_neg (by omega), if_neg (by omega), if_neg (by omega)]
      exact hr
  · refine ⟨?_, ?_, ?_, ?_, ?_⟩
    · rw [j5, gA_pI, sA _ (by decide)]; exact l0
    · rw [j6, gA_pI, sA _ (by decide)]; exact l1
    · rw [j7, gA_pI, sA _ (by decide)]; exact l2
    · rw [j8, gA_pI, sA _ (by decide)]; exact l3
    · have z : gI x4 iX_latest = gI x iX_imageLatest := by rw [j2, gI_eq, i2, f2, e2]
      rw [z]
      exact ll
