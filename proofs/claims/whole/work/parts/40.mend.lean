/-- the changes alone are others -/
theorem Rel.ch {c x d y : mS} (h : Rel c x) (hI : ∀ k, k ≠ iH_done → k ≠ iH_kept → gI d k = gI c k) (hA : ∀ k i, ¬ (17 ≤ k ∧ k ≤ 20) → gA d k i = gA c k i) (hL : ∀ k i, gL d k i = gL c k i) (hX : ∀ k, k ≠ iX_done → k ≠ iX_keptMany → gI y k = gI x k) (hB : ∀ k i, k ≠ aX_changeAt → k ≠ aX_changeWas → k ≠ aX_changeIs → gA y k i = gA x k i) (hM : ∀ k i, gL y k i = gL x k i) (hH : rH d y) : Rel d y := by
  obtain ⟨h1, h2, h3, h4, h5, h6, h7, h8⟩ := h
  have I : ∀ k, k ≠ iH_done ∧ k ≠ iH_kept → gI d k = gI c k := fun k hk => hI k hk.1 hk.2
  have X : ∀ k, k ≠ iX_done ∧ k ≠ iX_keptMany → gI y k = gI x k := fun k hk => hX k hk.1 hk.2
  have eA : ∀ k, ¬ (17 ≤ k ∧ k ≤ 20) → gA d k = gA c k := fun k hk => funext (fun i => hA k i hk)
  have eB : ∀ k, k ≠ aX_changeAt ∧ k ≠ aX_changeWas ∧ k ≠ aX_changeIs → gA y k = gA x k := fun k hk => funext (fun i => hB k i hk.1 hk.2.1 hk.2.2)
  refine ⟨?_, hH, ?_, ?_, ?_, ?_, ?_, ?_⟩
  · unfold rN at h1 ⊢
    rw [I (iM_size 0) (by decide), I (iW_size 0) (by decide), I (iM_ribbon 0) (by decide), X iX_machines (by decide), X iX_writers (by decide), eA (aM_pulls 0) (by decide), eA (aM_ages 0) (by decide), eA (aW_hands 0) (by decide), eA (aW_touches 0) (by decide), eB aX_may (by decide)]
    exact h1
  · unfold rT at h3 ⊢
    rw [I iP_size (by decide), X iX_tapeMany (by decide), eA aP_bytes (by decide), eB aX_tape (by decide)]
    exact h3
  · unfold rL at h4 ⊢
    rw [I iL_told (by decide), X iX_textMany (by decide), I iL_stepsSize (by decide), eA aL_steps (by decide), eB aX_text (by decide)]
    exact h4
  · unfold rI at h5 ⊢
    rw [I iT_imageKept (by decide), X iX_isKept (by decide), I (iM_size 2) (by decide), X iX_imageMachines (by decide), eB aX_imageMay (by decide), eA (aM_pulls 2) (by decide), eA (aM_ages 2) (by decide), I (iW_size 1) (by decide), X iX_imageWriters (by decide), eA (aW_hands 1) (by decide), eB aX_imageLed (by decide), I (iG_letters 1) (by decide), I (iG_cleanings 1) (by decide), I (iG_learnings 1) (by decide), I (iG_showed 1) (by decide), I (iG_latest 1) (by decide), X iX_imageLatest (by decide)]
    exact h5
  · unfold rU at h6 ⊢
    rw [I iU_size (by decide), X iX_bodies (by decide), eA aU_kinds (by decide), eB aX_bodyKind (by decide), I iU_ran (by decide), X iX_ran (by decide), eA aU_traced (by decide), eB aX_trace (by decide)]
    exact h6
  · exact h7.keep (fun k k1 k2 => I k ⟨(show k ≠ 47 by omega), (show k ≠ 48 by omega)⟩) (I iU_size (by decide)) hL (eB _ (by decide)) (eB _ (by decide)) (funext (hM _))
  · unfold rG at h8 ⊢
    rw [eB aX_ledNow (by decide), I (iG_letters 0) (by decide), I (iG_cleanings 0) (by decide), I (iG_learnings 0) (by decide), I (iG_showed 0) (by decide), I (iG_latest 0) (by decide), X iX_latest (by decide)]
    exact h8
theorem z_undo {c x : mS} (h : Rel c x) : same (fX10_undo c) (fX11_undo x) := by
  obtain ⟨d, k, hd, hk, d1, d2, k1, k2, en⟩ := h.2.1
  unfold fX10_undo fX11_undo
  rw [d1, d2]
  by_cases e : d = 0
  · subst e
    rw [if_pos nI_0, if_pos nI_0]; exact same_bad h
  obtain ⟨q, rfl⟩ : ∃ q, d = q + 1 := ⟨d - 1, by omega⟩
  have hne : ¬ nI (q + 1) = 0 := nI_ne0 (by omega) (by omega)
  rw [if_neg hne, if_neg hne, nSb (show 1 ≤ q + 1 by omega), show q + 1 - 1 = q by omega]
  simp only [bnd_d, gI_eq]
  obtain ⟨a, b, p, t, u, v, hp, hu, hv, e1, e2, e3, e4, e5, e6, e7⟩ := en q (by omega)
  have h' : Rel (pI c iH_done (nI q)) (pI x iX_done (nI q)) := h.ch (fun j j1 _ => gI_ne j1) (fun _ _ _ => rfl) (fun _ _ => rfl) (fun j j1 _ => gI_ne j1) (fun _ _ _ _ _ => rfl) (fun _ _ => rfl) ⟨q, k, by omega, hk, rfl, rfl, k1, k2, en⟩
  obtain ⟨c', s1, s2, s3, s4⟩ := set_both h' hp hu
  rw [ldA_n (by omega) (by omega), ldA_n (by omega) (by omega), ldA_n (by omega) (by omega), ldA_n (by omega) (by omega), ldA_n (by omega) (by omega), gA_pI, gA_pI, gA_pI, gA_pI, gA_pI, e1, e2, e3, e4, e5, s1, bO_s, stA_n (by rcases hp with hp | hp | hp | hp | hp <;> omega) (by omega), s3 iH_done (by decide), gI_eq]
  exact ⟨nI q, _, _, rfl, rfl, s2⟩
theorem z_redo {c x : mS} (h : Rel c x) : same (fX10_redo c) (fX11_redo x) := by
  obtain ⟨d, k, hd, hk, d1, d2, k1, k2, en⟩ := h.2.1
  unfold fX10_redo fX11_redo
  rw [d1, d2, k1, k2]
  by_cases e : d = k
  · subst e
    rw [if_neg (fun z => absurd ((nLt (by omega) (by omega)).mp z) (by omega)), if_pos rfl]; exact same_bad h
  rw [if_pos ((nLt (by omega) (by omega)).mpr (by omega)), if_neg (fun z => e ((nEq (by omega) (by omega)).mp z)), bnd_d]
  obtain ⟨a, b, p, t, u, v, hp, hu, hv, e1, e2, e3, e4, e5, e6, e7⟩ := en d (by omega)
  obtain ⟨c', s1, s2, s3, s4⟩ := set_both h hp hv
  rw [ldA_n (by omega) (by omega), ldA_n (by omega) (by omega), ldA_n (by omega) (by omega), ldA_n (by omega) (by omega), ldA_n (by omega) (by omega), e1, e2, e3, e6, e7, s1, bO_s, stA_n (by rcases hp with hp | hp | hp | hp | hp <;> omega) (by omega), s3 iH_done (by decide), d1]
  have f1 : gI (pA x aX_may p (nI v)) iX_done = nI d := d2
  rw [f1, nA, bnd_d, bnd_d, gI_eq, gI_eq, gI_ne (show iH_kept ≠ iH_done by decide), gI_ne (show iX_keptMany ≠ iX_done by decide), s3 iH_kept (by decide), k1]
  have f2 : gI (pA x aX_may p (nI v)) iX_keptMany = nI k := k2
  rw [f2]
  refine ⟨_, _, _, rfl, rfl, s2.ch (fun j j1 _ => gI_ne j1) (fun _ _ _ => rfl) (fun _ _ => rfl) (fun j j1 _ => gI_ne j1) (fun _ _ _ _ _ => rfl) (fun _ _ => rfl) ⟨d + 1, k, by omega, hk, rfl, rfl, ?_, k2, fun i hi => ?_⟩⟩
  · rw [gI_ne (show iH_kept ≠ iH_done by decide), s3 iH_kept (by decide), k1]
  · obtain ⟨a, b, p', t, u, v', hp, hu, hv, e1, e2, e3, e4, e5, e6, e7⟩ := en i hi
    exact ⟨a, b, p', t, u, v', hp, hu, hv, by rw [gA_pI, s4 _ _ (by decide), e1], by rw [gA_pI, s4 _ _ (by decide), e2], e3, by rw [gA_pI, s4 _ _ (by decide), e4], e5, by rw [gA_pI, s4 _ _ (by decide), e6], e7⟩
theorem add_both {c x : mS} (h : Rel c x) {d a b p t u v : Nat} (d1 : gI c iH_done = nI d) (d2 : gI x iX_done = nI d) (hd : d < 40) (hp : plc a b p t) (hu : u ≤ t) (hv : v ≤ t) : ∃ c' x', fX1_add_b13 (nI a) (nI b) (nI u) (nI v) c = some c' ∧ (fX11_becomes_b97 (nI p) (nI v) (nI u) x = stA x' aX_may 65 (nI p) (nI v) fun s8 => some (nI u, s8)) ∧ Rel c' x' := by
  obtain ⟨d', k, hd', hk, g1, g2, k1, k2, en⟩ := h.2.1
  have ed : d' = d := (nEq (by omega) (by omega)).mp (g1.symm.trans d1)
  subst ed
  unfold fX1_add_b13 fX11_becomes_b97
  rw [d1, stA_n hd (by omega)]
  have a1 : gI (pA c aH_numbers d' (nI a)) iH_done = nI d' := d1
  rw [a1, stA_n hd (by omega)]
  have a2 : gI (pA (pA c aH_numbers d' (nI a)) aH_whats d' (nI b)) iH_done = nI d' := d1
  rw [a2, stA_n hd (by omega)]
  have a3 : gI (pA (pA (pA c aH_numbers d' (nI a)) aH_whats d' (nI b)) aH_olds d' (nI u)) iH_done = nI d' := d1
  rw [a3, stA_n hd (by omega), bnd_d, bnd_d, gI_eq]
  have a4 : gI (pA (pA (pA (pA c aH_numbers d' (nI a)) aH_whats d' (nI b)) aH_olds d' (nI u)) aH_news d' (nI v)) iH_done = nI d' := d1
  rw [a4, nA, d2, stA_n hd (by omega)]
  have b1 : gI (pA x aX_changeAt d' (nI p)) iX_done = nI d' := d2
  rw [b1, stA_n hd (by omega)]
  have b2 : gI (pA (pA x aX_changeAt d' (nI p)) aX_changeWas d' (nI u)) iX_done = nI d' := d2
  rw [b2, stA_n hd (by omega), bnd_d, bnd_d, gI_eq]
  have b3 : gI (pA (pA (pA x aX_changeAt d' (nI p)) aX_changeWas d' (nI u)) aX_changeIs d' (nI v)) iX_done = nI d' := d2
  rw [b3, nA]
  refine ⟨_, _, rfl, rfl, h.ch (fun j j1 j2 => ?_) (fun j i hj => ?_) (fun _ _ => rfl) (fun j j1 j2 => ?_) (fun j i j1 j2 j3 => ?_) (fun _ _ => rfl) ⟨d' + 1, d' + 1, by omega, by omega, rfl, rfl, rfl, rfl, fun i hi => ?_⟩⟩
  · rw [gI_ne j2, gI_ne j1]; rfl
  · rw [gA_pI, gA_pI, gA_ne (show j ≠ 20 by omega), gA_ne (show j ≠ 19 by omega), gA_ne (show j ≠ 18 by omega), gA_ne (show j ≠ 17 by omega)]
  · rw [gI_ne j2, gI_ne j1]; rfl
  · rw [gA_pI, gA_pI, gA_ne j3, gA_ne j2, gA_ne j1]
  · simp only [gA_pI]
    rw [gA_ne (show aH_numbers ≠ aH_news by decide), gA_ne (show aH_numbers ≠ aH_olds by decide), gA_ne (show aH_numbers ≠ aH_whats by decide), gA_eq, gA_ne (show aH_whats ≠ aH_news by decide), gA_ne (show aH_whats ≠ aH_olds by decide), gA_eq, gA_ne (show aH_whats ≠ aH_numbers by decide), gA_ne (show aH_olds ≠ aH_news by decide), gA_eq, gA_ne (show aH_olds ≠ aH_whats by decide), gA_ne (show aH_olds ≠ aH_numbers by decide), gA_eq, gA_ne (show aH_news ≠ aH_olds by decide), gA_ne (show aH_news ≠ aH_whats by decide), gA_ne (show aH_news ≠ aH_numbers by decide), gA_ne (show aX_changeAt ≠ aX_changeIs by decide), gA_ne (show aX_changeAt ≠ aX_changeWas by decide), gA_eq, gA_ne (show aX_changeWas ≠ aX_changeIs by decide), gA_eq, gA_ne (show aX_changeWas ≠ aX_changeAt by decide), gA_eq, gA_ne (show aX_changeIs ≠ aX_changeWas by decide), gA_ne (show aX_changeIs ≠ aX_changeAt by decide)]
    by_cases ei : i = d'
    · simp only [if_pos ei]
      exact ⟨a, b, p, t, u, v, hp, hu, hv, rfl, rfl, rfl, rfl, rfl, rfl, rfl⟩
    · simp only [if_neg ei]
      exact en i (by omega)
theorem shl_loop (y1 y2 y3 : Int32) : ∀ (m k j : Nat) (x : mS), j + m = 40 → 1 ≤ j → m < k → ∃ x', fX11_becomes_b26 k y1 y2 y3 (nI j) x = (bnd (pI x' iX_done ((gI x' iX_done) - (nI 1))) fun s10 => fX11_becomes_b97 y1 y2 y3 s10) ∧ (∀ k, gI x' k = gI x k) ∧ (∀ k i, gL x' k i = gL x k i) ∧ (∀ k i, k ≠ aX_changeAt → k ≠ aX_changeWas → k ≠ aX_changeIs → gA x' k i = gA x k i) ∧ (∀ q, q = aX_changeAt ∨ q = aX_changeWas ∨ q = aX_changeIs → ∀ i, gA x' q i = if j - 1 ≤ i ∧ i < 39 then gA x q (i + 1) else gA x q i) := by
  intro m
  induction m with
  | zero =>
    intro k j x h1 h2 h3
    obtain ⟨k, rfl⟩ : ∃ k', k = k' + 1 := ⟨k - 1, by omega⟩
    rw [fX11_becomes_b26, if_pos ((nLe (by omega) (by omega)).mpr (by omega))]
    refine ⟨x, rfl, fun _ => rfl, fun _ _ => rfl, fun _ _ _ _ _ => rfl, fun q _ i => ?_⟩
    rw [if_neg (by omega)]
  | succ m ih =>
    intro k j x h1 h2 h3
    obtain ⟨k, rfl⟩ : ∃ k', k = k' + 1 := ⟨k - 1, by omega⟩
    rw [fX11_becomes_b26, if_neg (fun z => absurd ((nLe (by omega) (by omega)).mp z) (by omega)), nSb h2, ldA_n (by omega) (by omega), stA_n (by omega) (by omega), ldA_n (by omega) (by omega), stA_n (by omega) (by omega), ldA_n (by omega) (by omega), stA_n (by omega) (by omega), bnd_d, nA]
    obtain ⟨x', e1, e2, e3, e4, e5⟩ := ih k (j + 1) (pA (pA (pA x aX_changeAt (j - 1) (gA x aX_changeAt j)) aX_changeWas (j - 1) (gA (pA x aX_changeAt (j - 1) (gA x aX_changeAt j)) aX_changeWas j)) aX_changeIs (j - 1) (gA (pA (pA x aX_changeAt (j - 1) (gA x aX_changeAt j)) aX_changeWas (j - 1) (gA (pA x aX_changeAt (j - 1) (gA x aX_changeAt j)) aX_changeWas j)) aX_changeIs j)) (by omega) (by omega) (by omega)
    refine ⟨x', e1, fun k => by rw [e2]; rfl, fun k i => by rw [e3]; rfl, fun k i k1 k2 k3 => by rw [e4 k i k1 k2 k3, gA_ne k3, gA_ne k2, gA_ne k1], fun q hq i => ?_⟩
    have key : ∀ i, gA (pA (pA (pA x aX_changeAt (j - 1) (gA x aX_changeAt j)) aX_changeWas (j - 1) (gA (pA x aX_changeAt (j - 1) (gA x aX_changeAt j)) aX_changeWas j)) aX_changeIs (j - 1) (gA (pA (pA x aX_changeAt (j - 1) (gA x aX_changeAt j)) aX_changeWas (j - 1) (gA (pA x aX_changeAt (j - 1) (gA x aX_changeAt j)) aX_changeWas j)) aX_changeIs j)) q i = if i = j - 1 then gA x q j else gA x q i := by
      intro i
      rcases hq with rfl | rfl | rfl
      · rw [gA_ne (show aX_changeAt ≠ aX_changeIs by decide), gA_ne (show aX_changeAt ≠ aX_changeWas by decide), gA_eq]
      · rw [gA_ne (show aX_changeWas ≠ aX_changeIs by decide), gA_eq, gA_ne (show aX_changeWas ≠ aX_changeAt by decide), gA_ne (show aX_changeWas ≠ aX_changeAt by decide)]
      · rw [gA_eq, gA_ne (show aX_changeIs ≠ aX_changeWas by decide), gA_ne (show aX_changeIs ≠ aX_changeAt by decide), gA_ne (show aX_changeIs ≠ aX_changeWas by decide), gA_ne (show aX_changeIs ≠ aX_changeAt by decide)]
    rw [e5 q hq, key, key]
    by_cases hi : i = j - 1
    · rw [if_neg (show ¬ (j + 1 - 1 ≤ i ∧ i < 39) by omega), if_pos hi, if_pos (show j - 1 ≤ i ∧ i < 39 by omega), hi, show j - 1 + 1 = j by omega]
    · rw [if_neg (show ¬ i = j - 1 from hi)]
      by_cases hr : j + 1 - 1 ≤ i ∧ i < 39
      · rw [if_pos hr, if_neg (show ¬ i + 1 = j - 1 by omega), if_pos (show j - 1 ≤ i ∧ i < 39 by omega)]
      · rw [if_neg hr, if_neg (show ¬ (j - 1 ≤ i ∧ i < 39) by omega)]
theorem drop_both {c x : mS} (h : Rel c x) (d1 : gI c iH_done = nI 40) (d2 : gI x iX_done = nI 40) (y1 y2 y3 : Int32) : ∃ c' x', fX1_dropOldest c = some c' ∧ fX11_becomes_b26 mFu y1 y2 y3 (nI 1) x = fX11_becomes_b97 y1 y2 y3 x' ∧ Rel c' x' ∧ gI c' iH_done = nI 39 ∧ gI x' iX_done = nI 39 := by
  obtain ⟨d', k, hd', hk, g1, g2, k1, k2, en⟩ := h.2.1
  have ed : d' = 40 := (nEq (by omega) (by omega)).mp (g1.symm.trans d1)
  subst ed
  have ek : k = 40 := by omega
  subst ek
  obtain ⟨x', e1, e2, e3, e4, e5⟩ := shl_loop y1 y2 y3 39 mFu 1 x (by omega) (by omega) (by decide)
  unfold fX1_dropOldest
  rw [cpA_n (by omega) (by omega) (by omega) (by omega), cpA_n (by omega) (by omega) (by omega) (by omega), cpA_n (by omega) (by omega) (by omega) (by omega), cpA_n (by omega) (by omega) (by omega) (by omega), bnd_d, e1, bnd_d, e2, d2, nSb (by omega)]
  have key : ∀ q, q = aH_numbers ∨ q = aH_whats ∨ q = aH_olds ∨ q = aH_news → ∀ i, gA (wA (wA (wA (wA c aH_numbers (va_cpy (c.2.1 aH_numbers) (c.2.1 aH_numbers) 1 0 39)) aH_whats (va_cpy ((wA c aH_numbers (va_cpy (c.2.1 aH_numbers) (c.2.1 aH_numbers) 1 0 39)).2.1 aH_whats) ((wA c aH_numbers (va_cpy (c.2.1 aH_numbers) (c.2.1 aH_numbers) 1 0 39)).2.1 aH_whats) 1 0 39)) aH_olds (va_cpy (c.2.1 aH_olds) (c.2.1 aH_olds) 1 0 39)) aH_news (va_cpy (c.2.1 aH_news) (c.2.1 aH_news) 1 0 39)) q i = if i < 39 then gA c q (i + 1) else gA c q i := by
    intro q hq i
    have base : ∀ q, va_cpy (c.2.1 q) (c.2.1 q) 1 0 39 i = if i < 39 then gA c q (i + 1) else gA c q i := by
      intro q
      rw [cpy_at]
      by_cases hi : i < 39
      · rw [if_pos (by omega), if_pos hi, show 1 + (i - 0) = i + 1 by omega]; rfl
      · rw [if_neg (by omega), if_neg hi]; rfl
    rcases hq with rfl | rfl | rfl | rfl
    · exact base aH_numbers
    · exact base aH_whats
    · exact base aH_olds
    · exact base aH_news
  refine ⟨_, _, rfl, rfl, h.ch (fun j j1 j2 => gI_ne j1) (fun j i hj => ?_) (fun _ _ => rfl) (fun j j1 j2 => ?_) (fun j i j1 j2 j3 => ?_) (fun j i => ?_) ⟨39, 40, by omega, by omega, rfl, rfl, k1, ?_, fun i hi => ?_⟩, rfl, rfl⟩
  · rw [gA_pI, gA_wA, if_neg (show j ≠ 20 by omega), gA_wA, if_neg (show j ≠ 19 by omega), gA_wA, if_neg (show j ≠ 18 by omega), gA_wA, if_neg (show j ≠ 17 by omega)]
  · rw [gI_ne j1, e2]
  · rw [gA_pI, e4 j i j1 j2 j3]
  · exact e3 j i
  · rw [gI_ne (show iX_keptMany ≠ iX_done by decide), e2, k2]
  · have x1 : ∀ q, q = aX_changeAt ∨ q = aX_changeWas ∨ q = aX_changeIs → gA (pI x' iX_done (nI (40 - 1))) q i = if i < 39 then gA x q (i + 1) else gA x q i := by
      intro q hq
      rw [gA_pI, e5 q hq]
      by_cases hi : i < 39
      · rw [if_pos (by omega), if_pos hi]
      · rw [if_neg (by omega), if_neg hi]
    have c1 : ∀ q, q = aH_numbers ∨ q = aH_whats ∨ q = aH_olds ∨ q = aH_news → _ := fun q hq => key q hq i
    by_cases hi2 : i < 39
    · obtain ⟨a, b, p, t, u, v, hp, hu, hv, q1, q2, q3, q4, q5, q6, q7⟩ := en (i + 1) (by omega)
      exact ⟨a, b, p, t, u, v, hp, hu, hv, ((c1 aH_numbers (Or.inl rfl)).trans (if_pos hi2)).trans q1, ((c1 aH_whats (Or.inr (Or.inl rfl))).trans (if_pos hi2)).trans q2, ((x1 _ (Or.inl rfl)).trans (if_pos hi2)).trans q3, ((c1 aH_olds (Or.inr (Or.inr (Or.inl rfl)))).trans (if_pos hi2)).trans q4, ((x1 _ (Or.inr (Or.inl rfl))).trans (if_pos hi2)).trans q5, ((c1 aH_news (Or.inr (Or.inr (Or.inr rfl)))).trans (if_pos hi2)).trans q6, ((x1 _ (Or.inr (Or.inr rfl))).trans (if_pos hi2)).trans q7⟩
    · obtain ⟨a, b, p, t, u, v, hp, hu, hv, q1, q2, q3, q4, q5, q6, q7⟩ := en i (by omega)
      exact ⟨a, b, p, t, u, v, hp, hu, hv, ((c1 aH_numbers (Or.inl rfl)).trans (if_neg hi2)).trans q1, ((c1 aH_whats (Or.inr (Or.inl rfl))).trans (if_neg hi2)).trans q2, ((x1 _ (Or.inl rfl)).trans (if_neg hi2)).trans q3, ((c1 aH_olds (Or.inr (Or.inr (Or.inl rfl)))).trans (if_neg hi2)).trans q4, ((x1 _ (Or.inr (Or.inl rfl))).trans (if_neg hi2)).trans q5, ((c1 aH_news (Or.inr (Or.inr (Or.inr rfl)))).trans (if_neg hi2)).trans q6, ((x1 _ (Or.inr (Or.inr rfl))).trans (if_neg hi2)).trans q7⟩
theorem plc_top {a b p t : Nat} (hp : plc a b p t) : p < 65 ∧ t ≤ 99 ∧ b ≤ 8 ∧ ((b = 3 ∧ t = 99) ∨ (b = 8 ∧ t = 9) ∨ (b ≠ 3 ∧ b ≠ 8 ∧ t = 12)) := by
  rcases hp with hp | hp | hp | hp | hp <;> omega
theorem z_mend {c x : mS} (h : Rel c x) (a b v : Int32) : same (fX10_mend a b v c) (fX11_mend a b v x) := by
  unfold fX10_mend fX11_mend fX11_mend_b31
  rcases num_both h a b with ⟨h1, h2⟩ | ⟨a', b', p, t, u, hp, rfl, rfl, h1, h2, h3, h4, -, h5, h6⟩
  · rw [h1, h2, bO_s, bO_s, bnd_d, i00]
    simp only [bnd_d, if_pos (show (-1 : Int32) < 0 by decide)]
    have : ∀ (p q : Prop) [Decidable p] [Decidable q], (if p then some ((-1 : Int32), x) else if q then some (-1, x) else some (-1, x)) = some (-1, x) := by
      intro p q _ _
      split
      · rfl
      · split <;> rfl
    rw [this]
    exact same_bad h
  · obtain ⟨p1, p2, p3, p4⟩ := plc_top hp
    have et : fX10_topOf (nI b') c = some (nI t) ∧ ∀ (f : Int32 → Option (Int32 × mS)), (if nI b' = nI 3 then f (nI 99) else if nI b' = nI 8 then f (nI 9) else f (nI 12)) = f (nI t) := by
      unfold fX10_topOf
      rcases p4 with ⟨rfl, rfl⟩ | ⟨rfl, rfl⟩ | ⟨q1, q2, rfl⟩
      · rw [if_pos rfl]; exact ⟨rfl, fun f => by rw [if_pos rfl]⟩
      · rw [if_neg (show ¬ nI 8 = nI 3 by decide), if_pos rfl]; exact ⟨rfl, fun f => by rw [if_neg (show ¬ nI 8 = nI 3 by decide), if_pos rfl]⟩
      · have z1 : ¬ nI b' = nI 3 := fun z => q1 ((nEq (by omega) (by omega)).mp z)
        have z2 : ¬ nI b' = nI 8 := fun z => q2 ((nEq (by omega) (by omega)).mp z)
        rw [if_neg z1, if_neg z2]; exact ⟨rfl, fun f => by rw [if_neg z1, if_neg z2]⟩
    rw [h1, h2, bO_s, bO_s, bnd_d, i10, et.1]
    simp only [bnd_d, bO_s, if_neg (nNeg (a := p) (by omega))]
    rw [et.2 (fun w => bO (fX11_within v.toInt64 0 w.toInt64 x) fun r4 => if r4 = 0 then some (-1, x) else bP (fX11_becomes (nI p) v x) fun r5 s6 => some (r5, s6)), show (0 : Int64) = Int32.toInt64 (nI 0) by decide, f_within32, bO_s, b01_z, h5, bO_s]
    by_cases v0 : v < 0
    · rw [if_pos v0, if_pos (show v < nI 0 ∨ nI t < v from Or.inl v0)]; exact same_bad h
    rw [if_neg v0]
    by_cases v1 : v ≤ nI t
    · rw [if_pos v1, if_neg (nor (show ¬ v < nI 0 from v0) (Int32.not_lt.mpr v1))]
      obtain ⟨w, hw, rfl⟩ := nOfLe v0 v1 (by omega)
      unfold fX11_becomes
      rw [ldA_n h3 (by omega), h6, bnd_d]
      by_cases e : u = w
      · subst e
        rw [if_pos rfl, if_pos rfl]; exact same_bad h
      have ne : ¬ nI u = nI w := fun z => e ((nEq (by omega) (by omega)).mp z)
      rw [if_neg ne, if_neg ne]
      obtain ⟨d, k, hd, hk, d1, d2, k1, k2, en⟩ := h.2.1
      unfold fX1_add
      rw [d1, d2]
      have fin : ∀ {c x : mS} {d : Nat}, Rel c x → d < 40 → gI c iH_done = nI d → gI x iX_done = nI d → same (bO (fX1_add_b13 (nI a') (nI b') (nI u) (nI w) c) fun s5 => bO (fX10_setValue (nI a') (nI b') (nI w) s5) fun s6 => some (nI u, s6)) (bP (fX11_becomes_b97 (nI p) (nI w) (nI u) x) fun r5 s6 => some (r5, s6)) := by
        intro c x d h hd d1 d2
        obtain ⟨c', x', f1, f2, f3⟩ := add_both h d1 d2 hd hp h4 hw
        obtain ⟨c2, s1, s2, -, -⟩ := set_both f3 hp hw
        rw [f1, f2, bO_s, s1, bO_s, stA_n h3 (by omega), bP_s]
        exact ⟨nI u, _, _, rfl, rfl, s2⟩
      by_cases e40 : d = 40
      · subst e40
        obtain ⟨c', x', f1, f2, f3, f4, f5⟩ := drop_both h d1 d2 (nI p) (nI w) (nI u)
        rw [if_neg (show ¬ nI 40 < nI 40 by decide), if_pos rfl, bnd_d, f1, f2, bO_s]
        exact fin f3 (by omega) f4 f5
      · rw [if_pos ((nLt (by omega) (by omega)).mpr (by omega)), if_neg (fun z => e40 ((nEq (by omega) (by omega)).mp z))]
        exact fin h (by omega) d1 d2
    · rw [if_neg v1, if_pos (Or.inr (Int32.not_le.mp v1))]; exact same_bad h
