theorem b01_t {p : Prop} [Decidable p] (h : p) : b01 p = nI 0 := by unfold b01; rw [if_pos h]; rfl
theorem b01_f {p : Prop} [Decidable p] (h : ¬ p) : b01 p = nI 1 := by unfold b01; rw [if_neg h]; rfl
theorem w64 (a : Int32) (lo hi : Nat) (s : mS) (hl : lo < 1000) (hh : hi < 1000) : fX11_within a.toInt64 (nI lo).toInt64 (nI hi).toInt64 s = some (b01 (a < nI lo ∨ nI hi < a)) := f_within32 a (nI lo) (nI hi) s
/-- which number mend speaks of, on both sides -/
theorem num_both {c x : mS} (h : Rel c x) (a b : Int32) : (fX10_isNumberOf a b c = some (nI 0) ∧ fX11_placeOf a b x = some (-1)) ∨ ∃ a' b' p t v, plc a' b' p t ∧ a = nI a' ∧ b = nI b' ∧ fX10_isNumberOf a b c = some (nI 1) ∧ fX11_placeOf a b x = some (nI p) ∧ p < 65 ∧ v ≤ t ∧ t ≤ 99 ∧ fX10_valueOf a b c = some (nI v) ∧ gA x aX_may p = nI v := by
  obtain ⟨⟨n, hn, n1, n2⟩, ⟨w, hw, w1, w2⟩, hp, hg, hh, ht, hr⟩ := h.1
  unfold fX10_isNumberOf fX10_isNumberOf_b18 fX10_isNumberOf_b38 fX11_placeOf
  rw [f_has6, f_has9, n1, w1, show (0 : Int64) = Int32.toInt64 (nI 0) by decide, show (2 : Int64) = Int32.toInt64 (nI 2) by decide, show (4 : Int64) = Int32.toInt64 (nI 4) by decide, show (6 : Int64) = Int32.toInt64 (nI 6) by decide, w64 b 0 2 x (by omega) (by omega), w64 b 4 6 x (by omega) (by omega), f_isMachine hn n2, f_isWriter hw w2]
  simp only [bO_s, rB_b01, b01_z]
  have hb : (b < 0 ∨ nI 9 ≤ b) ∨ ∃ k, k < 9 ∧ b = nI k := by
    by_cases z : b < 0 ∨ nI 9 ≤ b
    · exact Or.inl z
    · obtain ⟨k, hk, e⟩ := nOfLt (fun q => z (Or.inl q)) (fun q => z (Or.inr q)) (by omega)
      exact Or.inr ⟨k, hk, e⟩
  rcases hb with hb | ⟨k, hk, rfl⟩
  · left
    have e : ∀ j, j < 9 → ¬ b = nI j := by
      intro j hj z
      subst z
      rcases hb with hb | hb
      · exact nNeg (by omega) hb
      · rw [nLe (by omega) (by omega)] at hb
        omega
    rcases hb with hb | hb
    · have l1 : b < nI 0 := hb
      have l4 : b < nI 4 := by
        rw [Int32.lt_iff_toInt_lt] at hb ⊢
        have h5 : (0 : Int32).toInt = 0 := by decide
        rw [nI_toInt (by omega)]
        omega
      rw [if_pos hb, if_pos l4, if_neg (e 8 (by omega)), if_pos (Or.inl l1), if_neg (e 3 (by omega)), if_pos (Or.inl l4), if_neg (e 7 (by omega)), if_neg (e 8 (by omega))]
      exact ⟨rfl, rfl⟩
    · have l0 : ¬ b < 0 := fun z => absurd (Int32.lt_of_le_of_lt hb z) (by decide)
      obtain ⟨b1, b2⟩ := nOf l0
      generalize b.toNatClampNeg = B at b1 b2
      subst b1
      rw [nLe (by omega) b2] at hb
      rw [if_neg l0, if_pos ((nLt (by omega) b2).mpr (by omega)), if_neg (fun z => absurd ((nLt b2 (by omega)).mp z) (by omega)), if_pos ((nLt (by omega) b2).mpr (by omega)), if_neg (e 8 (by omega)), if_pos (Or.inr ((nLt (by omega) b2).mpr (by omega))), if_neg (e 3 (by omega)), if_pos (Or.inr ((nLt (by omega) b2).mpr (by omega))), if_neg (e 7 (by omega)), if_neg (e 8 (by omega))]
      exact ⟨rfl, rfl⟩
  · have hm : (a < 0 ∨ nI n ≤ a) ∨ ∃ q, q < n ∧ a = nI q := by
      by_cases z : a < 0 ∨ nI n ≤ a
      · exact Or.inl z
      · exact Or.inr (nOfLt (fun q => z (Or.inl q)) (fun q => z (Or.inr q)) (by omega))
    have hm2 : (a < 0 ∨ nI w ≤ a) ∨ ∃ q, q < w ∧ a = nI q := by
      by_cases z : a < 0 ∨ nI w ≤ a
      · exact Or.inl z
      · exact Or.inr (nOfLt (fun q => z (Or.inl q)) (fun q => z (Or.inr q)) (by omega))
    rcases (show k = 0 ∨ k = 1 ∨ k = 2 ∨ k = 3 ∨ k = 4 ∨ k = 5 ∨ k = 6 ∨ k = 7 ∨ k = 8 by omega) with rfl | rfl | rfl | rfl | rfl | rfl | rfl | rfl | rfl
    · rw [if_neg (show ¬ nI 0 < 0 by decide), if_neg (show ¬ nI 3 < nI 0 by decide), if_neg (show ¬ (nI 0 < nI 0 ∨ nI 2 < nI 0) by decide)]
      rcases hm with hm | ⟨q, hq, rfl⟩
      · rw [if_pos hm, b01_t hm]; exact Or.inl ⟨rfl, rfl⟩
      · have z : ¬ (nI q < 0 ∨ nI n ≤ nI q) := nor (nNeg (by omega)) (fun z => absurd ((nLe (by omega) (by omega)).mp z) (by omega))
        obtain ⟨g1, v, hv, g2⟩ := hp (3 * q + 0) (by omega)
        rw [if_neg z, b01_f z, nM, nA]
        refine Or.inr ⟨q, 0, 3 * q + 0, 12, v, Or.inl ⟨by omega, by omega, rfl, rfl⟩, rfl, rfl, rfl, rfl, by omega, hv, by omega, ?_, by rw [g1, g2]⟩
        unfold fX10_valueOf fX6_pull
        rw [if_neg (show ¬ nI 0 = nI 3 by decide), if_neg (show ¬ nI 0 = nI 7 by decide), if_neg (show ¬ nI 0 = nI 8 by decide), if_neg (show ¬ nI 3 ≤ nI 0 by decide), nM, nA, ldA_n (by omega) (by omega), bO_s, g2]
    · rw [if_neg (show ¬ nI 1 < 0 by decide), if_neg (show ¬ nI 3 < nI 1 by decide), if_neg (show ¬ (nI 1 < nI 0 ∨ nI 2 < nI 1) by decide)]
      rcases hm with hm | ⟨q, hq, rfl⟩
      · rw [if_pos hm, b01_t hm]; exact Or.inl ⟨rfl, rfl⟩
      · have z : ¬ (nI q < 0 ∨ nI n ≤ nI q) := nor (nNeg (by omega)) (fun z => absurd ((nLe (by omega) (by omega)).mp z) (by omega))
        obtain ⟨g1, v, hv, g2⟩ := hp (3 * q + 1) (by omega)
        rw [if_neg z, b01_f z, nM, nA]
        refine Or.inr ⟨q, 1, 3 * q + 1, 12, v, Or.inl ⟨by omega, by omega, rfl, rfl⟩, rfl, rfl, rfl, rfl, by omega, hv, by omega, ?_, by rw [g1, g2]⟩
        unfold fX10_valueOf fX6_pull
        rw [if_neg (show ¬ nI 1 = nI 3 by decide), if_neg (show ¬ nI 1 = nI 7 by decide), if_neg (show ¬ nI 1 = nI 8 by decide), if_neg (show ¬ nI 3 ≤ nI 1 by decide), nM, nA, ldA_n (by omega) (by omega), bO_s, g2]
    · rw [if_neg (show ¬ nI 2 < 0 by decide), if_neg (show ¬ nI 3 < nI 2 by decide), if_neg (show ¬ (nI 2 < nI 0 ∨ nI 2 < nI 2) by decide)]
      rcases hm with hm | ⟨q, hq, rfl⟩
      · rw [if_pos hm, b01_t hm]; exact Or.inl ⟨rfl, rfl⟩
      · have z : ¬ (nI q < 0 ∨ nI n ≤ nI q) := nor (nNeg (by omega)) (fun z => absurd ((nLe (by omega) (by omega)).mp z) (by omega))
        obtain ⟨g1, v, hv, g2⟩ := hp (3 * q + 2) (by omega)
        rw [if_neg z, b01_f z, nM, nA]
        refine Or.inr ⟨q, 2, 3 * q + 2, 12, v, Or.inl ⟨by omega, by omega, rfl, rfl⟩, rfl, rfl, rfl, rfl, by omega, hv, by omega, ?_, by rw [g1, g2]⟩
        unfold fX10_valueOf fX6_pull
        rw [if_neg (show ¬ nI 2 = nI 3 by decide), if_neg (show ¬ nI 2 = nI 7 by decide), if_neg (show ¬ nI 2 = nI 8 by decide), if_neg (show ¬ nI 3 ≤ nI 2 by decide), nM, nA, ldA_n (by omega) (by omega), bO_s, g2]
    · rw [if_neg (show ¬ nI 3 < 0 by decide), if_neg (show ¬ nI 3 < nI 3 by decide), if_pos (show nI 3 < nI 0 ∨ nI 2 < nI 3 by decide), if_pos rfl]
      rcases hm with hm | ⟨q, hq, rfl⟩
      · rw [if_pos hm, b01_t hm]; exact Or.inl ⟨rfl, rfl⟩
      · have z : ¬ (nI q < 0 ∨ nI n ≤ nI q) := nor (nNeg (by omega)) (fun z => absurd ((nLe (by omega) (by omega)).mp z) (by omega))
        obtain ⟨g1, v, hv, g2⟩ := hg q (by omega)
        rw [if_neg z, b01_f z, nA]
        refine Or.inr ⟨q, 3, 24 + q, 99, v, Or.inr (Or.inl ⟨rfl, by omega, rfl, rfl⟩), rfl, rfl, rfl, rfl, by omega, hv, by omega, ?_, by rw [g1, g2]⟩
        unfold fX10_valueOf
        rw [if_pos rfl, ldA_n (by omega) (by omega), g2]
    · rw [if_neg (show ¬ nI 4 < 0 by decide), if_pos (show nI 3 < nI 4 by decide), if_neg (show ¬ nI 4 < nI 4 by decide), if_neg (show ¬ nI 7 < nI 4 by decide), if_pos (show nI 4 < nI 0 ∨ nI 2 < nI 4 by decide), if_neg (show ¬ nI 4 = nI 3 by decide), if_neg (show ¬ (nI 4 < nI 4 ∨ nI 6 < nI 4) by decide)]
      rcases hm2 with hm | ⟨q, hq, rfl⟩
      · rw [if_pos hm, b01_t hm]; exact Or.inl ⟨rfl, rfl⟩
      · have z : ¬ (nI q < 0 ∨ nI w ≤ nI q) := nor (nNeg (by omega)) (fun z => absurd ((nLe (by omega) (by omega)).mp z) (by omega))
        obtain ⟨g1, v, hv, g2⟩ := hh (3 * q + 0) (by omega)
        rw [if_neg z, b01_f z, nM, nA, nA, nSb (by omega)]
        refine Or.inr ⟨q, 4, 32 + 3 * q + 4 - 4, 12, v, Or.inr (Or.inr (Or.inl ⟨by omega, by omega, by omega, rfl, rfl⟩)), rfl, rfl, rfl, rfl, by omega, hv, by omega, ?_, by rw [show 32 + 3 * q + 4 - 4 = 32 + (3 * q + 0) by omega, g1, g2]⟩
        unfold fX10_valueOf fX9_hand
        rw [if_neg (show ¬ nI 4 = nI 3 by decide), if_neg (show ¬ nI 4 = nI 7 by decide), if_neg (show ¬ nI 4 = nI 8 by decide), if_pos (show nI 3 ≤ nI 4 by decide), nSb (show 4 ≤ 4 by omega), nM, nA, ldA_n (by omega) (by omega), bO_s, g2]
    · rw [if_neg (show ¬ nI 5 < 0 by decide), if_pos (show nI 3 < nI 5 by decide), if_neg (show ¬ nI 5 < nI 4 by decide), if_neg (show ¬ nI 7 < nI 5 by decide), if_pos (show nI 5 < nI 0 ∨ nI 2 < nI 5 by decide), if_neg (show ¬ nI 5 = nI 3 by decide), if_neg (show ¬ (nI 5 < nI 4 ∨ nI 6 < nI 5) by decide)]
      rcases hm2 with hm | ⟨q, hq, rfl⟩
      · rw [if_pos hm, b01_t hm]; exact Or.inl ⟨rfl, rfl⟩
      · have z : ¬ (nI q < 0 ∨ nI w ≤ nI q) := nor (nNeg (by omega)) (fun z => absurd ((nLe (by omega) (by omega)).mp z) (by omega))
        obtain ⟨g1, v, hv, g2⟩ := hh (3 * q + 1) (by omega)
        rw [if_neg z, b01_f z, nM, nA, nA, nSb (by omega)]
        refine Or.inr ⟨q, 5, 32 + 3 * q + 5 - 4, 12, v, Or.inr (Or.inr (Or.inl ⟨by omega, by omega, by omega, rfl, rfl⟩)), rfl, rfl, rfl, rfl, by omega, hv, by omega, ?_, by rw [show 32 + 3 * q + 5 - 4 = 32 + (3 * q + 1) by omega, g1, g2]⟩
        unfold fX10_valueOf fX9_hand
        rw [if_neg (show ¬ nI 5 = nI 3 by decide), if_neg (show ¬ nI 5 = nI 7 by decide), if_neg (show ¬ nI 5 = nI 8 by decide), if_pos (show nI 3 ≤ nI 5 by decide), nSb (show 4 ≤ 5 by omega), nM, nA, ldA_n (by omega) (by omega), bO_s, g2]
    · rw [if_neg (show ¬ nI 6 < 0 by decide), if_pos (show nI 3 < nI 6 by decide), if_neg (show ¬ nI 6 < nI 4 by decide), if_neg (show ¬ nI 7 < nI 6 by decide), if_pos (show nI 6 < nI 0 ∨ nI 2 < nI 6 by decide), if_neg (show ¬ nI 6 = nI 3 by decide), if_neg (show ¬ (nI 6 < nI 4 ∨ nI 6 < nI 6) by decide)]
      rcases hm2 with hm | ⟨q, hq, rfl⟩
      · rw [if_pos hm, b01_t hm]; exact Or.inl ⟨rfl, rfl⟩
      · have z : ¬ (nI q < 0 ∨ nI w ≤ nI q) := nor (nNeg (by omega)) (fun z => absurd ((nLe (by omega) (by omega)).mp z) (by omega))
        obtain ⟨g1, v, hv, g2⟩ := hh (3 * q + 2) (by omega)
        rw [if_neg z, b01_f z, nM, nA, nA, nSb (by omega)]
        refine Or.inr ⟨q, 6, 32 + 3 * q + 6 - 4, 12, v, Or.inr (Or.inr (Or.inl ⟨by omega, by omega, by omega, rfl, rfl⟩)), rfl, rfl, rfl, rfl, by omega, hv, by omega, ?_, by rw [show 32 + 3 * q + 6 - 4 = 32 + (3 * q + 2) by omega, g1, g2]⟩
        unfold fX10_valueOf fX9_hand
        rw [if_neg (show ¬ nI 6 = nI 3 by decide), if_neg (show ¬ nI 6 = nI 7 by decide), if_neg (show ¬ nI 6 = nI 8 by decide), if_pos (show nI 3 ≤ nI 6 by decide), nSb (show 4 ≤ 6 by omega), nM, nA, ldA_n (by omega) (by omega), bO_s, g2]
    · rw [if_neg (show ¬ nI 7 < 0 by decide), if_pos (show nI 3 < nI 7 by decide), if_neg (show ¬ nI 7 < nI 4 by decide), if_neg (show ¬ nI 7 < nI 7 by decide), if_pos (show nI 7 < nI 0 ∨ nI 2 < nI 7 by decide), if_neg (show ¬ nI 7 = nI 3 by decide), if_pos (show nI 7 < nI 4 ∨ nI 6 < nI 7 by decide), if_pos rfl]
      rcases hm2 with hm | ⟨q, hq, rfl⟩
      · rw [if_pos hm, b01_t hm]; exact Or.inl ⟨rfl, rfl⟩
      · have z : ¬ (nI q < 0 ∨ nI w ≤ nI q) := nor (nNeg (by omega)) (fun z => absurd ((nLe (by omega) (by omega)).mp z) (by omega))
        obtain ⟨g1, v, hv, g2⟩ := ht q (by omega)
        rw [if_neg z, b01_f z, nA]
        refine Or.inr ⟨q, 7, 56 + q, 12, v, Or.inr (Or.inr (Or.inr (Or.inl ⟨rfl, by omega, rfl, rfl⟩))), rfl, rfl, rfl, rfl, by omega, hv, by omega, ?_, by rw [g1, g2]⟩
        unfold fX10_valueOf
        rw [if_neg (show ¬ nI 7 = nI 3 by decide), if_pos rfl, ldA_n (by omega) (by omega), g2]
    · rw [if_neg (show ¬ nI 8 < 0 by decide), if_pos (show nI 3 < nI 8 by decide), if_neg (show ¬ nI 8 < nI 4 by decide), if_pos (show nI 7 < nI 8 by decide), if_pos rfl, if_pos (show nI 8 < nI 0 ∨ nI 2 < nI 8 by decide), if_neg (show ¬ nI 8 = nI 3 by decide), if_pos (show nI 8 < nI 4 ∨ nI 6 < nI 8 by decide), if_neg (show ¬ nI 8 = nI 7 by decide), if_pos rfl]
      by_cases ha : a = 0
      · rw [if_pos ha, if_pos ha]
        obtain ⟨g1, v, hv, g2⟩ := hr
        refine Or.inr ⟨0, 8, 64, 9, v, Or.inr (Or.inr (Or.inr (Or.inr ⟨rfl, rfl, rfl, rfl⟩))), ha, rfl, rfl, rfl, by omega, hv, by omega, ?_, by rw [g1, g2]⟩
        unfold fX10_valueOf
        rw [if_neg (show ¬ nI 8 = nI 3 by decide), if_neg (show ¬ nI 8 = nI 7 by decide), if_pos rfl, g2]
      · rw [if_neg ha, if_neg ha]
        exact Or.inl ⟨rfl, rfl⟩
theorem z_of {c x : mS} (h : Rel c x) (a b : Int32) : sameP (fX10_of a b c) (fX11_of a b x) := by
  unfold fX10_of fX11_of
  rcases num_both h a b with ⟨h1, h2⟩ | ⟨a', b', p, t, v, -, rfl, rfl, h1, h2, h3, h4, -, h5, h6⟩
  · rw [h1, h2, bO_s, bO_s, bnd_d, i00, if_neg (show ¬ (0 : Int32) ≤ -1 by decide)]
    exact ⟨_, rfl, rfl⟩
  · rw [h1, h2, bO_s, bO_s, bnd_d, i10, if_pos (nI_pos' (by omega)), h5, bO_s, ldA_n h3 (by omega), h6]
    exact ⟨_, rfl, rfl⟩
/-- the number is set, on both sides -/
theorem set_both {c x : mS} (h : Rel c x) {a b p t v : Nat} (hp : plc a b p t) (hv : v ≤ t) : ∃ c', fX10_setValue (nI a) (nI b) (nI v) c = some c' ∧ Rel c' (pA x aX_may p (nI v)) ∧ (∀ k, k ≠ 1 → gI c' k = gI c k) ∧ ∀ k i, 17 ≤ k → gA c' k i = gA c k i := by
  unfold fX10_setValue
  rcases hp with ⟨h1, h2, rfl, rfl⟩ | ⟨rfl, h2, rfl, rfl⟩ | ⟨h1, h2, h3, rfl, rfl⟩ | ⟨rfl, h2, rfl, rfl⟩ | ⟨rfl, rfl, rfl, rfl⟩
  · rw [if_neg (fun z => absurd ((nLe (by omega) (by omega)).mp z) (by omega)), nM, nA, stA_n (by omega) (by omega)]
    exact ⟨_, rfl, h.pull (by omega) hv, fun _ _ => rfl, fun k i hk => gA_ne (show k ≠ 0 by omega)⟩
  · rw [if_pos (show nI 3 ≤ nI 3 by decide), if_pos rfl, stA_n (by omega) (by omega)]
    exact ⟨_, rfl, h.age h2 hv, fun _ _ => rfl, fun k i hk => gA_ne (show k ≠ 2 by omega)⟩
  · rw [if_pos ((nLe (by omega) (by omega)).mpr (by omega)), if_neg (fun z => absurd ((nEq (by omega) (by omega)).mp z) (by omega)), if_neg (fun z => absurd ((nLe (by omega) (by omega)).mp z) (by omega)), nM, nA, nSb (by omega), stA_n (by omega) (by omega), show 32 + 3 * a + b - 4 = 32 + (3 * a + b - 4) by omega]
    exact ⟨_, rfl, h.hand (by omega) hv, fun _ _ => rfl, fun k i hk => gA_ne (show k ≠ 9 by omega)⟩
  · rw [if_pos (show nI 3 ≤ nI 7 by decide), if_neg (show ¬ nI 7 = nI 3 by decide), if_pos (show nI 7 ≤ nI 7 by decide), if_pos rfl, stA_n (by omega) (by omega)]
    exact ⟨_, rfl, h.touch h2 hv, fun _ _ => rfl, fun k i hk => gA_ne (show k ≠ 10 by omega)⟩
  · rw [if_pos (show nI 3 ≤ nI 8 by decide), if_neg (show ¬ nI 8 = nI 3 by decide), if_pos (show nI 7 ≤ nI 8 by decide), if_neg (show ¬ nI 8 = nI 7 by decide), bnd_d]
    exact ⟨_, rfl, h.rib hv, fun k hk => gI_ne hk, fun _ _ _ => rfl⟩
