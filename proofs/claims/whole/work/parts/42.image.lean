/-- the image alone is another -/
theorem Rel.im {c x d y : mS} (h : Rel c x) (I : ∀ k, k ∉ [4, 5, 7, 13, 14, 15, 16, 17, 52] → gI d k = gI c k) (hA : ∀ k, k ∉ [6, 8, 11] → ∀ i, gA d k i = gA c k i) (hL : ∀ k i, gL d k i = gL c k i) (X : ∀ k, k ∉ [iX_isKept, iX_imageMachines, iX_imageWriters, iX_imageLatest] → gI y k = gI x k) (hB : ∀ k, k ∉ [aX_imageMay, aX_imageLed] → ∀ i, gA y k i = gA x k i) (hM : ∀ k i, gL y k i = gL x k i) (hH : rI d y) : Rel d y := by
  obtain ⟨h1, h2, h3, h4, h5, h6, h7, h8⟩ := h
  have eA : ∀ k, k ∉ [6, 8, 11] → gA d k = gA c k := fun k hk => funext (fun i => hA k hk i)
  have eB : ∀ k, k ∉ [aX_imageMay, aX_imageLed] → gA y k = gA x k := fun k hk => funext (fun i => hB k hk i)
  refine ⟨?_, ?_, ?_, ?_, hH, ?_, ?_, ?_⟩
  · unfold rN at h1 ⊢
    rw [I (iM_size 0) (by decide), I (iW_size 0) (by decide), I (iM_ribbon 0) (by decide), X iX_machines (by decide), X iX_writers (by decide), eA (aM_pulls 0) (by decide), eA (aM_ages 0) (by decide), eA (aW_hands 0) (by decide), eA (aW_touches 0) (by decide), eB aX_may (by decide)]
    exact h1
  · unfold rH at h2 ⊢
    rw [I iH_done (by decide), I iH_kept (by decide), X iX_done (by decide), X iX_keptMany (by decide), eA aH_numbers (by decide), eA aH_whats (by decide), eA aH_olds (by decide), eA aH_news (by decide), eB aX_changeAt (by decide), eB aX_changeWas (by decide), eB aX_changeIs (by decide)]
    exact h2
  · unfold rT at h3 ⊢
    rw [I iP_size (by decide), X iX_tapeMany (by decide), eA aP_bytes (by decide), eB aX_tape (by decide)]
    exact h3
  · unfold rL at h4 ⊢
    rw [I iL_told (by decide), X iX_textMany (by decide), I iL_stepsSize (by decide), eA aL_steps (by decide), eB aX_text (by decide)]
    exact h4
  · unfold rU at h6 ⊢
    rw [I iU_size (by decide), X iX_bodies (by decide), eA aU_kinds (by decide), eB aX_bodyKind (by decide), I iU_ran (by decide), X iX_ran (by decide), eA aU_traced (by decide), eB aX_trace (by decide)]
    exact h6
  · exact h7.keep (fun k k1 k2 => I k (by simp only [List.mem_cons, List.not_mem_nil, or_false]; omega)) (I iU_size (by decide)) hL (eB _ (by decide)) (eB _ (by decide)) (funext (hM _))
  · unfold rG at h8 ⊢
    rw [eB aX_ledNow (by decide), I (iG_letters 0) (by decide), I (iG_cleanings 0) (by decide), I (iG_learnings 0) (by decide), I (iG_showed 0) (by decide), I (iG_latest 0) (by decide), X iX_latest (by decide)]
    exact h8
/-- a loop that copies n numbers of one row of the reference into another -/
theorem img_loop : ∀ (m k i : Nat) (x : mS), i + m = 56 → m < k → ∃ x', fX11_image_b31 k (nI i) x = fX11_image_b57 mFu (nI 0) x' ∧ (∀ j, gI x' j = gI x j) ∧ (∀ j q, gL x' j q = gL x j q) ∧ (∀ j, j ≠ aX_imageMay → ∀ q, gA x' j q = gA x j q) ∧ ∀ q, gA x' aX_imageMay q = if i ≤ q ∧ q < 56 then gA x aX_may q else gA x aX_imageMay q := by
  intro m
  induction m with
  | zero =>
    intro k i x h1 h2
    obtain ⟨k, rfl⟩ : ∃ k', k = k' + 1 := ⟨k - 1, by omega⟩
    rw [fX11_image_b31, if_pos ((nLe (by omega) (by omega)).mpr (by omega)), bnd_d]
    exact ⟨x, rfl, fun _ => rfl, fun _ _ => rfl, fun _ _ _ => rfl, fun q => by rw [if_neg (by omega)]⟩
  | succ m ih =>
    intro k i x h1 h2
    obtain ⟨k, rfl⟩ : ∃ k', k = k' + 1 := ⟨k - 1, by omega⟩
    rw [fX11_image_b31, if_neg (fun z => absurd ((nLe (by omega) (by omega)).mp z) (by omega)), ldA_n (by omega) (by omega), stA_n (by omega) (by omega), bnd_d, nA]
    obtain ⟨x', e1, e2, e3, e4, e5⟩ := ih k (i + 1) (pA x aX_imageMay i (gA x aX_may i)) (by omega) (by omega)
    refine ⟨x', e1, fun j => by rw [e2]; rfl, fun j q => by rw [e3]; rfl, fun j hj q => by rw [e4 j hj, gA_ne hj], fun q => ?_⟩
    rw [e5, gA_ne (show aX_may ≠ aX_imageMay by decide), gA_eq]
    by_cases hq : q = i
    · rw [if_neg (show ¬ (i + 1 ≤ q ∧ q < 56) by omega), if_pos hq, if_pos (show i ≤ q ∧ q < 56 by omega), hq]
    · by_cases hr : i + 1 ≤ q ∧ q < 56
      · rw [if_pos hr, if_pos (show i ≤ q ∧ q < 56 by omega)]
      · rw [if_neg hr, if_neg hq, if_neg (show ¬ (i ≤ q ∧ q < 56) by omega)]
theorem img_led (x : mS) : ∃ x', fX11_image_b57 mFu (nI 0) x = some (gA x aX_ledNow 0, x') ∧ (∀ j, gI x' j = gI x j) ∧ (∀ j q, gL x' j q = gL x j q) ∧ (∀ j, j ≠ aX_imageLed → ∀ q, gA x' j q = gA x j q) ∧ gA x' aX_imageLed 0 = gA x aX_ledNow 0 ∧ gA x' aX_imageLed 1 = gA x aX_ledNow 1 ∧ gA x' aX_imageLed 2 = gA x aX_ledNow 2 ∧ gA x' aX_imageLed 3 = gA x aX_ledNow 3 := by
  obtain ⟨k, hk⟩ : ∃ k, mFu = k + 5 := ⟨5995, rfl⟩
  have st : ∀ (i : Nat) (hi : i < 4) (f : Nat) (x : mS), fX11_image_b57 (f + 1) (nI i) x = fX11_image_b57 f (nI (i + 1)) (pA x aX_imageLed i (gA x aX_ledNow i)) := by
    intro i hi f x
    rw [fX11_image_b57, if_neg (fun z => absurd ((nLe (by omega) (by omega)).mp z) (by omega)), ldA_n (by omega) (by omega), stA_n (by omega) (by omega), bnd_d, nA]
  rw [hk, st 0 (by omega) (k + 4), st 1 (by omega) (k + 3), st 2 (by omega) (k + 2), st 3 (by omega) (k + 1), fX11_image_b57, if_pos (show nI 4 ≤ nI (3 + 1) by decide), ldA_n (by omega) (by omega)]
  exact ⟨_, rfl, fun _ => rfl, fun _ _ => rfl, fun j hj q => by rw [gA_ne hj, gA_ne hj, gA_ne hj, gA_ne hj], rfl, rfl, rfl, rfl⟩
theorem z_image {c x : mS} (h : Rel c x) : same (fX10_image c) (fX11_image x) := by
  obtain ⟨⟨n, hn, n1, n2⟩, ⟨w, hw, w1, w2⟩, hp, hg, hh, -⟩ := h.1
  obtain ⟨g0, g1, g2, g3, gl⟩ := h.2.2.2.2.2.2.2
  unfold fX10_image fX11_image fX6_copy fX6_layBack fX9_copy fX9_layBack fX5_copy
  rw [n1, nM, cpA_n (by omega) (by omega) (by omega) (by omega)]
  have a1 : gI (wA c (aM_pulls 2) (va_cpy (c.2.1 (aM_pulls 0)) (c.2.1 (aM_pulls 2)) 0 0 (3 * n))) (iM_size 0) = nI n := n1
  rw [a1, cpA_n (by omega) (by omega) (by omega) (by omega)]
  simp only [bO_s, bnd_d]
  have a2 : gI (pI (pI (wA (wA c (aM_pulls 2) (va_cpy (c.2.1 (aM_pulls 0)) (c.2.1 (aM_pulls 2)) 0 0 (3 * n))) (aM_ages 2) (va_cpy ((wA c (aM_pulls 2) (va_cpy (c.2.1 (aM_pulls 0)) (c.2.1 (aM_pulls 2)) 0 0 (3 * n))).2.1 (aM_ages 0)) ((wA c (aM_pulls 2) (va_cpy (c.2.1 (aM_pulls 0)) (c.2.1 (aM_pulls 2)) 0 0 (3 * n))).2.1 (aM_ages 2)) 0 0 n)) (iM_size 2) (gI (wA (wA c (aM_pulls 2) (va_cpy (c.2.1 (aM_pulls 0)) (c.2.1 (aM_pulls 2)) 0 0 (3 * n))) (aM_ages 2) (va_cpy ((wA c (aM_pulls 2) (va_cpy (c.2.1 (aM_pulls 0)) (c.2.1 (aM_pulls 2)) 0 0 (3 * n))).2.1 (aM_ages 0)) ((wA c (aM_pulls 2) (va_cpy (c.2.1 (aM_pulls 0)) (c.2.1 (aM_pulls 2)) 0 0 (3 * n))).2.1 (aM_ages 2)) 0 0 n)) (iM_size 0))) (iM_ribbon 2) (gI (pI (wA (wA c (aM_pulls 2) (va_cpy (c.2.1 (aM_pulls 0)) (c.2.1 (aM_pulls 2)) 0 0 (3 * n))) (aM_ages 2) (va_cpy ((wA c (aM_pulls 2) (va_cpy (c.2.1 (aM_pulls 0)) (c.2.1 (aM_pulls 2)) 0 0 (3 * n))).2.1 (aM_ages 0)) ((wA c (aM_pulls 2) (va_cpy (c.2.1 (aM_pulls 0)) (c.2.1 (aM_pulls 2)) 0 0 (3 * n))).2.1 (aM_ages 2)) 0 0 n)) (iM_size 2) (gI (wA (wA c (aM_pulls 2) (va_cpy (c.2.1 (aM_pulls 0)) (c.2.1 (aM_pulls 2)) 0 0 (3 * n))) (aM_ages 2) (va_cpy ((wA c (aM_pulls 2) (va_cpy (c.2.1 (aM_pulls 0)) (c.2.1 (aM_pulls 2)) 0 0 (3 * n))).2.1 (aM_ages 0)) ((wA c (aM_pulls 2) (va_cpy (c.2.1 (aM_pulls 0)) (c.2.1 (aM_pulls 2)) 0 0 (3 * n))).2.1 (aM_ages 2)) 0 0 n)) (iM_size 0))) (iM_ribbon 0))) (iW_size 0) = nI w := w1
  rw [a2, nM, cpA_n (by omega) (by omega) (by omega) (by omega)]
  simp only [bO_s]
  obtain ⟨x1, e1, e2, e3, e4, e5⟩ := img_loop 56 mFu 0 (pI (pI (pI (pI x iX_isKept (nI 1)) iX_imageMachines (gI (pI x iX_isKept (nI 1)) iX_machines)) iX_imageWriters (gI (pI (pI x iX_isKept (nI 1)) iX_imageMachines (gI (pI x iX_isKept (nI 1)) iX_machines)) iX_writers)) iX_imageLatest (gI (pI (pI (pI x iX_isKept (nI 1)) iX_imageMachines (gI (pI x iX_isKept (nI 1)) iX_machines)) iX_imageWriters (gI (pI (pI x iX_isKept (nI 1)) iX_imageMachines (gI (pI x iX_isKept (nI 1)) iX_machines)) iX_writers)) iX_latest)) (by omega) (by decide)
  obtain ⟨x2, f1, f2, f3, f4, f5, f6, f7, f8⟩ := img_led x1
  rw [e1, f1]
  have eL : ∀ k, k ≠ aX_imageMay → ∀ q, gA x1 k q = gA x k q := fun k hk q => (e4 k hk q).trans rfl
  have eM : ∀ q, q < 56 → gA x2 aX_imageMay q = gA x aX_may q := fun q hq => by
    rw [f4 _ (by decide), e5, if_pos ⟨Nat.zero_le _, hq⟩]
    rfl
  have r0 : gA x1 aX_ledNow 0 = gI c (iG_letters 0) := (eL _ (by decide) 0).trans g0
  refine ⟨gI c (iG_letters 0), _, x2, rfl, by rw [r0], h.im (fun k hk => ?_) (fun k hk i => ?_) (fun _ _ => rfl) (fun k hk => ?_) (fun k hk i => ?_) (fun k i => ?_) ?_⟩
  · simp only [List.mem_cons, List.not_mem_nil, or_false, not_or] at hk
    obtain ⟨k4, k5, k7, k13, k14, k15, k16, k17, k52⟩ := hk
    rw [gI_ne k52, gI_ne k17, gI_ne k16, gI_ne k15, gI_ne k14, gI_ne k13, gI_ne k7, gI_wA, gI_ne k5, gI_ne k4, gI_wA, gI_wA]
  · simp only [List.mem_cons, List.not_mem_nil, or_false, not_or] at hk
    simp only [gA_pI]
    rw [gA_wA, if_neg hk.2.2]
    simp only [gA_pI]
    rw [gA_wA, if_neg hk.2.1, gA_wA, if_neg hk.1]
  · simp only [List.mem_cons, List.not_mem_nil, or_false, not_or] at hk
    rw [f2, e2, gI_ne hk.2.2.2, gI_ne hk.2.2.1, gI_ne hk.2.1, gI_ne hk.1]
  · simp only [List.mem_cons, List.not_mem_nil, or_false, not_or] at hk
    rw [f4 k hk.2, eL k hk.1]
  · rw [f3, e3]; rfl
  · have q1 : ∀ (f g : Nat → Int32) (m i : Nat), i < m → va_cpy f g 0 0 m i = f i := by
      intro f g m i hi
      rw [cpy_at, if_pos ⟨Nat.zero_le _, by omega⟩, Nat.sub_zero, Nat.zero_add]
    refine Or.inr ⟨rfl, by rw [f2, e2]; rfl, ⟨n, hn, n1, by rw [f2, e2]; exact n2, fun i hi => ?_, fun i hi => ?_⟩, ⟨w, hw, w1, by rw [f2, e2]; exact w2, fun i hi => ?_⟩, ?_, ?_, ?_, ?_, ?_⟩
    · obtain ⟨p1, v, hv, p2⟩ := hp i (by omega)
      have z : ∀ t, t = gA c (aM_pulls 0) i → (gA x2 aX_imageMay i = t ∧ ∃ v, v ≤ 12 ∧ t = nI v) := by
        intro t ht
        rw [ht, eM i (by omega), p1]
        exact ⟨rfl, v, hv, p2⟩
      exact z _ (q1 (c.2.1 (aM_pulls 0)) (c.2.1 (aM_pulls 2)) (3 * n) i hi)
    · obtain ⟨p1, v, hv, p2⟩ := hg i (by omega)
      have z : ∀ t, t = gA c (aM_ages 0) i → (gA x2 aX_imageMay (24 + i) = t ∧ ∃ v, v ≤ 99 ∧ t = nI v) := by
        intro t ht
        rw [ht, eM (24 + i) (by omega), p1]
        exact ⟨rfl, v, hv, p2⟩
      exact z _ (q1 (c.2.1 (aM_ages 0)) (c.2.1 (aM_ages 2)) n i hi)
    · obtain ⟨p1, v, hv, p2⟩ := hh i (by omega)
      have z : ∀ t, t = gA c (aW_hands 0) i → (gA x2 aX_imageMay (32 + i) = t ∧ ∃ v, v ≤ 12 ∧ t = nI v) := by
        intro t ht
        rw [ht, eM (32 + i) (by omega), p1]
        exact ⟨rfl, v, hv, p2⟩
      exact z _ (q1 (c.2.1 (aW_hands 0)) (c.2.1 (aW_hands 1)) (3 * w) i hi)
    · rw [f5, eL _ (by decide)]; exact g0
    · rw [f6, eL _ (by decide)]; exact g1
    · rw [f7, eL _ (by decide)]; exact g2
    · rw [f8, eL _ (by decide)]; exact g3
    · have z : ∀ t, t = gI x iX_latest → gI x2 iX_imageLatest = t := by
        intro t ht
        rw [f2, e2, ht]
        rfl
      rw [z _ rfl]
      exact gl
