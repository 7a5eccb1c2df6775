set_option maxHeartbeats 1000000 in
/-- a call that changes shelves alone -/
theorem Rel.shelf {c x d y : mS} (h : Rel c x) (hI : ∀ k, ¬ (18 ≤ k ∧ k ≤ 35) → gI d k = gI c k) (hA : ∀ k i, gA d k i = gA c k i) (hX : ∀ k, gI y k = gI x k) (hB : ∀ k, k ≠ aX_shelf → k ≠ aX_many → ∀ i, gA y k i = gA x k i) (hS : rS d y) : Rel d y := by
  obtain ⟨h1, h2, h3, h4, h5, h6, h7, h8⟩ := h
  have I := hI
  have X : ∀ k, True → gI y k = gI x k := fun k _ => hX k
  have eA : ∀ k, True → gA d k = gA c k := fun k _ => funext (hA k)
  have eB : ∀ k, (k ≠ aX_shelf ∧ k ≠ aX_many) → gA y k = gA x k := fun k hk => funext (hB k hk.1 hk.2)
  refine ⟨?_, ?_, ?_, ?_, ?_, ?_, ?_, ?_⟩
  · unfold rN at h1 ⊢
    rw [I (iM_size 0) (by decide), I (iW_size 0) (by decide), I (iM_ribbon 0) (by decide), X iX_machines (by decide), X iX_writers (by decide), eA (aM_pulls 0) (by decide), eA (aM_ages 0) (by decide), eA (aW_hands 0) (by decide), eA (aW_touches 0) (by decide), eB aX_may (by decide)]
    exact h1
  · unfold rH at h2 ⊢
    rw [I iH_done (by decide), I iH_kept (by decide), X iX_done (by decide), X iX_keptMany (by decide), eA aH_numbers (by decide), eA aH_whats (by decide), eA aH_olds (by decide), eA aH_news (by decide), eB aX_changeAt (by decide), eB aX_changeWas (by decide), eB aX_changeIs (by decide)]
    exact h2
  · unfold rT at h3 ⊢
    rw [I iP_size (by decide), X iX_tapeMany (by decide), eA aP_bytes (by decide), eB aX_tape (by decide)]
    exact h3
  · unfold rL at h4 ⊢
    rw [I iL_told (by decide), X iX_textMany (by decide), I iL_stepsSize (by decide), eA aL_steps (by decide), eB aX_text (by decide)]
    exact h4
  · unfold rI at h5 ⊢
    rw [I iT_imageKept (by decide), X iX_isKept (by decide), I (iM_size 2) (by decide), X iX_imageMachines (by decide), eB aX_imageMay (by decide), eA (aM_pulls 2) (by decide), eA (aM_ages 2) (by decide), I (iW_size 1) (by decide), X iX_imageWriters (by decide), eA (aW_hands 1) (by decide), eB aX_imageLed (by decide), I (iG_letters 1) (by decide), I (iG_cleanings 1) (by decide), I (iG_learnings 1) (by decide), I (iG_showed 1) (by decide), I (iG_latest 1) (by decide), X iX_imageLatest (by decide)]
    exact h5
  · unfold rU at h6 ⊢
    rw [I iU_size (by decide), X iX_bodies (by decide), eA aU_kinds (by decide), eB aX_bodyKind (by decide), I iU_ran (by decide), X iX_ran (by decide), eA aU_traced (by decide), eB aX_trace (by decide)]
    exact h6
  · exact hS
  · unfold rG at h8 ⊢
    rw [eB aX_ledNow (by decide), I (iG_letters 0) (by decide), I (iG_cleanings 0) (by decide), I (iG_learnings 0) (by decide), I (iG_showed 0) (by decide), I (iG_latest 0) (by decide), X iX_latest (by decide)]
    exact h8
theorem i00 {β : Type} {a b : β} : (if nI 0 = 0 then a else b) = a := if_pos nI_0
theorem i10 {β : Type} {a b : β} : (if nI 1 = 0 then a else b) = b := if_neg (by decide)
/-- a shelf that is there: what both sides see of it -/
theorem sh_in {a : Int32} (h : ¬ (a < 0 ∨ nI 6 ≤ a)) : ∃ j, j < 6 ∧ a = nI j := by
  obtain ⟨j, hj, e⟩ := nOfLt (fun z => h (Or.inl z)) (fun z => h (Or.inr z)) (by omega)
  exact ⟨j, hj, e⟩
theorem neg1 {k : Nat} (hk : k < 2147483648) : ¬ nI k = -1 := by
  intro h
  have h1 := congrArg Int32.toInt h
  rw [nI_toInt hk, show (-1 : Int32).toInt = -1 by decide] at h1
  omega
/-- the refusal of a cell, in one form -/
def refus (e : Bool) (g : Bool) (i : Int32) (m : Int32) : Int32 := if e then -11 else if g then -12 else if i < 0 then -13 else if m ≤ i then -13 else nI 0
theorem f_cellRefusal {c x : mS} (h : Rel c x) (a i : Int32) : ∃ v, fX10_cellRefusal a i c = some v ∧ fX11_refusal a i x = some v ∧ (v = 0 → ∃ j t m k, j < 6 ∧ a = nI j ∧ t ≤ 4 ∧ gI c (iS_sort j) = nI t ∧ gA x aX_shelf j = nI (50 + t) ∧ m ≤ 60 ∧ gI c (iS_size j) = nI m ∧ k < m ∧ i = nI k) := by
  obtain ⟨-, -, -, -, -, -, h7, -⟩ := h
  unfold fX10_cellRefusal fX11_refusal
  rw [f_isShelf, f_isShelfX, bO_s, bO_s, b01_z, b01_z]
  by_cases ha : a < 0 ∨ nI 6 ≤ a
  · rw [if_pos ha, if_pos ha]
    exact ⟨-1, rfl, rfl, fun z => absurd z (by decide)⟩
  · rw [if_neg ha, if_neg ha]
    obtain ⟨j, hj, rfl⟩ := sh_in ha
    obtain ⟨⟨m, hm, m1, m2⟩, s2, s3⟩ := h7 j hj
    rw [ldS_n hj (by omega), ldA_n hj (by omega), f_isEmpty, bO_s, b01_z]
    rcases s3 with ⟨q1, q2, q3⟩ | ⟨q1, n, g, q2, q3, q4, q5, q6⟩ | ⟨t, ht, q1, q2, q3, -⟩
    · rw [q1, q2, q3, if_neg (by decide), if_neg (by decide)]
      exact ⟨-11, rfl, rfl, fun z => absurd z (by decide)⟩
    · rw [q1, q5, q6, if_pos (fun z => neg1 (by omega) z.2), if_pos (nI_pos' (by omega)), ldS_n hj (by omega), f_isRow, bO_s, b01_z, if_pos q1, ldA_n hj (by omega), q6, if_neg (by rw [nLe (by omega) (by omega)]; omega)]
      exact ⟨-12, rfl, rfl, fun z => absurd z (by decide)⟩
    · rw [q1, q2, q3, if_pos (fun z => neg1 (by omega) z.1), if_pos (nI_pos' (by omega)), ldS_n hj (by omega), f_isRow, bO_s, b01_z, if_neg (by rw [q1]; exact neg1 (by omega)), ldA_n hj (by omega), q3, if_pos ((nLe (a := 50) (b := 50 + t) (by omega) (by omega)).mpr (by omega))]
      by_cases hi : i < 0
      · rw [if_pos hi, if_pos hi]
        exact ⟨-13, rfl, rfl, fun z => absurd z (by decide)⟩
      · rw [if_neg hi, if_neg hi, ldS_n hj (by omega), ldA_n hj (by omega), m1, m2]
        by_cases him : nI m ≤ i
        · rw [if_pos him]
          exact ⟨-13, rfl, rfl, fun z => absurd z (by decide)⟩
        · rw [if_neg him]
          obtain ⟨k, hk, rfl⟩ := nOfLt hi him (by omega)
          exact ⟨nI 0, rfl, rfl, fun _ => ⟨j, t, m, k, hj, rfl, ht, q1, q3, hm, m1, hk, rfl⟩⟩
theorem z_element {c x : mS} (h : Rel c x) (a i : Int32) : sameP (fX10_element a i c) (fX11_element a i x) := by
  obtain ⟨v, v1, v2, v3⟩ := f_cellRefusal h a i
  unfold fX10_element fX11_element
  rw [v1, v2, bO_s, bO_s]
  by_cases hv : v = 0
  · rw [if_pos hv, if_pos hv]
    obtain ⟨j, t, m, k, hj, rfl, ht, q1, q2, hm, q3, hk, rfl⟩ := v3 hv
    obtain ⟨-, s2, -⟩ := h.2.2.2.2.2.2.1 j hj
    rw [ldS_n hj (by omega), ldL_n (by omega) (by omega), nM, nA, ldL_n (by omega) (by omega), s2 k (by omega)]
    exact ⟨_, rfl, rfl⟩
  · rw [if_neg hv, if_neg hv]
    exact ⟨_, rfl, rfl⟩
theorem z_keep {c x : mS} (h : Rel c x) (a b : Int32) : same (fX10_keep a b c) (fX11_keep a b x) := by
  obtain ⟨h1, h2, h3, h4, h5, h6, h7, h8⟩ := id h
  obtain ⟨⟨n, hn, u1, u2, -⟩, -⟩ := id h6
  unfold fX10_keep fX11_keep
  rw [f_isShelf, f_isShelfX, bO_s, bO_s, b01_z, b01_z]
  by_cases ha : a < 0 ∨ nI 6 ≤ a
  · rw [if_pos ha, if_pos ha]; exact same_bad h
  · rw [if_neg ha, if_neg ha]
    obtain ⟨j, hj, rfl⟩ := sh_in ha
    have key : (b = -1 ∨ ∃ g, g < n ∧ b = nI g) → same (fX10_keep_b25 (nI j) b c) (fX11_keep_b22 (nI j) b x) := by
      intro hb
      unfold fX10_keep_b25 fX11_keep_b22 fX7_holdGhost
      rw [ldS_n hj (by omega), stA_n hj (by omega), stA_n hj (by omega), bnd_d, bnd_d, bnd_d, bO_s]
      refine ⟨nI 1, _, _, rfl, rfl, h.shelf (fun k hk => by rw [gI_pI, if_neg (show k ≠ 20 + 3 * j by omega), gI_pI, if_neg (show k ≠ 19 + 3 * j by omega), gI_pI, if_neg (show k ≠ 18 + 3 * j by omega)]) (fun _ _ => rfl) (fun _ => rfl) (fun k k1 k2 i => by rw [gA_pA, if_neg (fun z => k2 z.1), gA_pA, if_neg (fun z => k1 z.1)]) (fun i hi => ?_)⟩
      have hI : ∀ k, k ≠ iS_sort j → k ≠ iS_size j → k ≠ iS_ghost j → gI (pI (pI (pI c (iS_sort j) (-1)) (iS_size j) (nI 0)) (iS_ghost j) b) k = gI c k := fun k k1 k2 k3 => by rw [gI_pI, if_neg k3, gI_pI, if_neg k2, gI_pI, if_neg k1]
      obtain ⟨s1, s2, s3⟩ := h7 i hi
      by_cases hij : i = j
      · subst hij
        have e1 : gI (pI (pI (pI c (iS_sort i) (-1)) (iS_size i) (nI 0)) (iS_ghost i) b) (iS_sort i) = -1 := by rw [gI_pI, if_neg (show 18 + 3 * i ≠ 20 + 3 * i by omega), gI_pI, if_neg (show 18 + 3 * i ≠ 19 + 3 * i by omega), gI_pI, if_pos rfl]
        have e2 : gI (pI (pI (pI c (iS_sort i) (-1)) (iS_size i) (nI 0)) (iS_ghost i) b) (iS_size i) = nI 0 := by rw [gI_pI, if_neg (show 19 + 3 * i ≠ 20 + 3 * i by omega), gI_pI, if_pos rfl]
        have e3 : gI (pI (pI (pI c (iS_sort i) (-1)) (iS_size i) (nI 0)) (iS_ghost i) b) (iS_ghost i) = b := by rw [gI_pI, if_pos rfl]
        have e4 : gI (pI (pI (pI c (iS_sort i) (-1)) (iS_size i) (nI 0)) (iS_ghost i) b) iU_size = gI c iU_size := hI _ (show 49 ≠ 18 + 3 * i by omega) (show 49 ≠ 19 + 3 * i by omega) (show 49 ≠ 20 + 3 * i by omega)
        unfold rS1
        rw [e1, e2, e3, e4, gA_pA, if_pos ⟨rfl, rfl⟩, gA_pA, if_neg (fun z => absurd z.1 (by decide)), gA_pA, if_pos ⟨rfl, rfl⟩]
        refine ⟨⟨0, by omega, rfl, rfl⟩, s2, ?_⟩
        rcases hb with hb | ⟨g, hg, hb⟩
        · exact Or.inl ⟨rfl, hb, hb⟩
        · exact Or.inr (Or.inl ⟨rfl, n, g, u1, hg, hn, hb, hb⟩)
      · unfold rS1
        rw [hI (iS_size i) (show 19 + 3 * i ≠ 18 + 3 * j by omega) (show 19 + 3 * i ≠ 19 + 3 * j by omega) (show 19 + 3 * i ≠ 20 + 3 * j by omega), hI (iS_sort i) (show 18 + 3 * i ≠ 18 + 3 * j by omega) (show 18 + 3 * i ≠ 19 + 3 * j by omega) (show 18 + 3 * i ≠ 20 + 3 * j by omega), hI (iS_ghost i) (show 20 + 3 * i ≠ 18 + 3 * j by omega) (show 20 + 3 * i ≠ 19 + 3 * j by omega) (show 20 + 3 * i ≠ 20 + 3 * j by omega), hI iU_size (show 49 ≠ 18 + 3 * j by omega) (show 49 ≠ 19 + 3 * j by omega) (show 49 ≠ 20 + 3 * j by omega), gA_pA, if_neg (fun z => hij z.2), gA_pA, if_neg (fun z => absurd z.1 (by decide)), gA_pA, if_neg (fun z => absurd z.1 (by decide)), gA_pA, if_neg (fun z => hij z.2)]
        exact ⟨s1, s2, s3⟩
    by_cases hb : b = -1
    · rw [if_pos hb, if_pos hb]
      exact key (Or.inl hb)
    · rw [if_neg hb, if_neg hb, f_has3, f_isBody hn u2, bO_s, bO_s, b01_z, b01_z, u1]
      by_cases hg : b < 0 ∨ nI n ≤ b
      · rw [if_pos hg, if_pos hg]; exact same_bad h
      · rw [if_neg hg, if_neg hg]
        obtain ⟨g, hg1, rfl⟩ := nOfLt (fun z => hg (Or.inl z)) (fun z => hg (Or.inr z)) (by omega)
        exact key (Or.inr ⟨g, hg1, rfl⟩)
