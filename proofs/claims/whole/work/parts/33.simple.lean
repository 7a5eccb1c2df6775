theorem rS.keep {c x d y : mS} (h : rS c x) (hI : ∀ k, 18 ≤ k → k ≤ 35 → gI d k = gI c k) (hU : gI d iU_size = gI c iU_size) (hL : ∀ j i, gL d j i = gL c j i) (hM : gA y aX_many = gA x aX_many) (hS : gA y aX_shelf = gA x aX_shelf) (hT : gL y lX_items = gL x lX_items) : rS d y := by
  intro j hj
  have g := h j hj
  have eL : ∀ k, gL d k = gL c k := fun k => funext (hL k)
  unfold rS1 at g ⊢
  rw [hI (iS_size j) (by show 18 ≤ 19 + 3 * j; omega) (by show 19 + 3 * j ≤ 35; omega), hI (iS_sort j) (by show 18 ≤ 18 + 3 * j; omega) (by show 18 + 3 * j ≤ 35; omega), hI (iS_ghost j) (by show 18 ≤ 20 + 3 * j; omega) (by show 20 + 3 * j ≤ 35; omega), hU, eL, hM, hS, hT]
  exact g
theorem iteC {p q : Prop} [Decidable p] [Decidable q] {β : Type} {a b : β} (h : p ↔ q) : (if p then a else b) = if q then a else b := by
  by_cases g : p
  · rw [if_pos g, if_pos (h.mp g)]
  · rw [if_neg g, if_neg (fun z => g (h.mpr z))]
theorem nor {p q : Prop} (h : ¬ p) (g : ¬ q) : ¬ (p ∨ q) := fun z => z.elim h g
theorem nlit_lt {n k : Nat} (hn : n < 2147483648) (hk : k < 2147483648) (h : n < k) : nI n < nI k := (nLt hn hk).mpr h
theorem nlit_ne {n k : Nat} (hn : n < 2147483648) (hk : k < 2147483648) (h : n ≠ k) : ¬ nI n = nI k := fun z => h ((nEq hn hk).mp z)
theorem z_led {c x : mS} (h : Rel c x) (a : Int32) : sameP (fX10_led a c) (fX11_led a x) := by
  obtain ⟨-, -, -, -, -, -, -, ⟨g0, g1, g2, g3, gl⟩⟩ := h
  unfold fX10_led fX11_led
  rw [show (0 : Int64) = Int32.toInt64 0 by decide, show (3 : Int64) = Int32.toInt64 (nI 3) by decide, f_within32, bO_s, b01_z, iteC (le_pred (n := 4) (by omega) (by omega) a)]
  by_cases hr : a < 0 ∨ nI 4 ≤ a
  · rw [if_pos hr]
    have e0 : ¬ a = nI 0 := by rintro rfl; revert hr; decide
    have e1 : ¬ a = nI 1 := by rintro rfl; revert hr; decide
    have e2 : ¬ a = nI 2 := by rintro rfl; revert hr; decide
    have e3 : ¬ a = nI 3 := by rintro rfl; revert hr; decide
    rw [if_neg e0, if_neg e1, if_neg e2, if_neg e3]
    by_cases e4 : a = nI 4
    · rw [if_pos e4, if_pos e4]
      rcases gl with ⟨l1, l2⟩ | ⟨m, hm, l1, l2⟩
      · rw [l1, l2, if_neg (by decide)]
        exact ⟨_, rfl, rfl⟩
      · rw [l1, l2, if_pos (nI_pos' (by omega))]
        exact ⟨_, rfl, rfl⟩
    · rw [if_neg e4, if_neg e4]
      exact ⟨_, rfl, rfl⟩
  · rw [if_neg hr]
    obtain ⟨k, hk, rfl⟩ := nOfLt (fun z => hr (Or.inl z)) (fun z => hr (Or.inr z)) (by omega)
    rw [ldA_n hk (by omega)]
    rcases (show k = 0 ∨ k = 1 ∨ k = 2 ∨ k = 3 by omega) with rfl | rfl | rfl | rfl
    · rw [if_pos (by decide), g0]; exact ⟨_, rfl, rfl⟩
    · rw [if_neg (by decide), if_pos (by decide), g1]; exact ⟨_, rfl, rfl⟩
    · rw [if_neg (by decide), if_neg (by decide), if_pos (by decide), g2]; exact ⟨_, rfl, rfl⟩
    · rw [if_neg (by decide), if_neg (by decide), if_neg (by decide), if_pos (by decide), g3]; exact ⟨_, rfl, rfl⟩
theorem z_trace {c x : mS} (h : Rel c x) (a : Int32) : sameP (fX10_trace a c) (fX11_trace a x) := by
  obtain ⟨-, -, -, -, -, ⟨-, r, hr, r1, r2, r3⟩, -, -⟩ := h
  unfold fX10_trace fX11_trace
  rw [r1, r2]
  by_cases h0 : a < 0
  · rw [if_pos h0, if_pos h0]; exact ⟨_, rfl, rfl⟩
  · rw [if_neg h0, if_neg h0]
    by_cases h1 : nI r ≤ a
    · rw [if_pos h1, if_pos h1]; exact ⟨_, rfl, rfl⟩
    · rw [if_neg h1, if_neg h1]
      obtain ⟨i, hi, rfl⟩ := nOfLt h0 h1 (by omega)
      by_cases h2 : nI 24 ≤ nI i
      · rw [if_pos h2, if_pos h2]; exact ⟨_, rfl, rfl⟩
      · rw [if_neg h2, if_neg h2]
        have h3 : i < 24 := by
          rw [nLe (by omega) (by omega)] at h2
          omega
        rw [ldA_n h3 (by omega), ldA_n h3 (by omega), r3 i hi h3]
        exact ⟨_, rfl, rfl⟩
theorem z_feed {c x : mS} (h : Rel c x) (a : Int32) : same (fX10_feed a c) (fX11_feed a x) := by
  obtain ⟨h1, h2, ⟨n, hn, t1, t2, t3⟩, h4, h5, h6, h7, h8⟩ := id h
  unfold fX10_feed fX11_feed fX8_isFull fX8_addByte
  rw [show (0 : Int64) = Int32.toInt64 0 by decide, show (255 : Int64) = Int32.toInt64 (nI 255) by decide, f_within32, bO_s, b01_z, t1, t2]
  by_cases g0 : a < 0
  · rw [if_pos g0, if_pos (Or.inl g0)]; exact same_bad h
  · rw [if_neg g0]
    by_cases g1 : a ≤ nI 255
    · rw [if_pos g1, if_neg (nor g0 (Int32.not_lt.mpr g1))]
      obtain ⟨v, hv, rfl⟩ := nOfLe (n := 255) g0 g1 (by omega)
      by_cases g2 : n = 120
      · subst g2
        rw [if_neg (show ¬ nI 120 < nI 120 by decide), bO_s, if_neg (show ¬ nI 1 = 0 by decide), if_pos (show nI 120 = nI 120 by decide)]
        exact same_bad h
      · rw [if_pos (nlit_lt (k := 120) (by omega) (by omega) (by omega) : nI n < nI 120), bO_s, if_pos nI_0, if_neg (nlit_ne (k := 120) (by omega) (by omega) g2 : ¬ nI n = nI 120), stA_n (by omega) (by omega), stA_n (by omega) (by omega), bnd_d, bnd_d, bP_s]
        have e1 : gI (pA c aP_bytes n (nI v)) iP_size = nI n := t1
        have e2 : gI (pA x aX_tape n (nI v)) iX_tapeMany = nI n := t2
        rw [e1, e2, nA]
        refine ⟨nI (n + 1), _, _, rfl, rfl, h1, h2, ⟨n + 1, by omega, rfl, rfl, fun i hi => ?_⟩, h4, h5, h6, h7.keep (fun k k1 k2 => by rw [gI_pI, if_neg (show k ≠ 36 by omega), gI_pA]) rfl (fun _ _ => rfl) rfl rfl rfl, h8⟩
        rw [gA_pI, gA_pI, gA_pA, gA_pA]
        by_cases hin : i = n
        · rw [if_pos ⟨rfl, hin⟩, if_pos ⟨rfl, hin⟩]
          exact ⟨rfl, v, hv, rfl⟩
        · rw [if_neg (fun z => hin z.2), if_neg (fun z => hin z.2)]
          exact t3 i (by omega)
    · rw [if_neg g1, if_pos (Or.inr (Int32.not_le.mp g1))]; exact same_bad h
theorem z_body {c x : mS} (h : Rel c x) (a : Int32) : same (fX10_body a c) (fX11_body a x) := by
  obtain ⟨h1, h2, h3, h4, h5, ⟨⟨n, hn, t1, t2, t3⟩, h6⟩, h7, h8⟩ := id h
  unfold fX10_body fX11_body fX3_isFull fX3_join
  rw [show (0 : Int64) = Int32.toInt64 0 by decide, show (7 : Int64) = Int32.toInt64 (nI 7) by decide, f_within32, bO_s, b01_z, t1, t2, iteC (le_pred (n := 8) (by omega) (by omega) a)]
  by_cases g0 : a < 0
  · rw [if_pos g0, if_pos (Or.inl g0)]; exact same_bad h
  · rw [if_neg g0]
    by_cases g1 : a < nI 8
    · rw [if_pos g1, if_neg (nor g0 (Int32.not_le.mpr g1 : ¬ nI 8 ≤ a))]
      obtain ⟨v, hv, rfl⟩ := nOfLt (n := 8) g0 (Int32.not_le.mpr g1) (by omega)
      by_cases g2 : n = 50
      · subst g2
        rw [if_neg (show ¬ nI 50 < nI 50 by decide), bO_s, if_neg (show ¬ nI 1 = 0 by decide), if_pos (show nI 50 = nI 50 by decide)]
        exact same_bad h
      · rw [if_pos (nlit_lt (k := 50) (by omega) (by omega) (by omega) : nI n < nI 50), bO_s, if_pos nI_0, if_neg (nlit_ne (k := 50) (by omega) (by omega) g2 : ¬ nI n = nI 50), stA_n (by omega) (by omega), stA_n (by omega) (by omega), bnd_d, bnd_d, bP_s]
        have e1 : gI (pA c aU_kinds n (nI v)) iU_size = nI n := t1
        have e2 : gI (pA x aX_bodyKind n (nI v)) iX_bodies = nI n := t2
        rw [e1, e2, nA]
        have e3 : gI (pI (pA c aU_kinds n (nI v)) iU_size (nI (n + 1))) iU_size - nI 1 = nI n := nI_pred n
        have e4 : gI (pI (pA x aX_bodyKind n (nI v)) iX_bodies (nI (n + 1))) iX_bodies - nI 1 = nI n := nI_pred n
        rw [e3, e4]
        refine ⟨nI n, _, _, rfl, rfl, h1, h2, h3, h4, h5, ⟨⟨n + 1, by omega, rfl, rfl, fun i hi => ?_⟩, h6⟩, fun j hj => ?_, h8⟩
        · rw [gA_pI, gA_pI, gA_pA, gA_pA]
          by_cases hin : i = n
          · rw [if_pos ⟨rfl, hin⟩, if_pos ⟨rfl, hin⟩]
            exact ⟨v, by omega, rfl, rfl⟩
          · rw [if_neg (fun z => hin z.2), if_neg (fun z => hin z.2)]
            exact t3 i (by omega)
        · have hz : ∀ k, k ≠ iU_size → gI (pI (pA c aU_kinds n (nI v)) iU_size (nI (n + 1))) k = gI c k := fun k hk => by rw [gI_pI, if_neg hk, gI_pA]
          obtain ⟨s1, s2, s3⟩ := h7 j hj
          unfold rS1
          rw [hz (iS_size j) (by show 19 + 3 * j ≠ 49; omega), hz (iS_sort j) (by show 18 + 3 * j ≠ 49; omega), hz (iS_ghost j) (by show 20 + 3 * j ≠ 49; omega)]
          refine ⟨s1, s2, ?_⟩
          rcases s3 with s3 | ⟨q1, n', g', q2, q3, q4, q5, q6⟩ | s3
          · exact Or.inl s3
          · refine Or.inr (Or.inl ⟨q1, n + 1, g', rfl, ?_, by omega, q5, q6⟩)
            rw [t1, nEq (by omega) (by omega)] at q2
            omega
          · exact Or.inr (Or.inr s3)
    · rw [if_neg g1, if_pos (Or.inr (Int32.not_lt.mp g1))]; exact same_bad h
