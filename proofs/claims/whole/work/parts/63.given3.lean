def LVok (fr : Nat → Nat → Nat) (n W lo : Nat) (x : mS) : Prop := (∀ w, lo ≤ w → w ≤ W → ∀ M, M < 2 ^ n → (w = W ∨ popc M = w) → gA x aX_restFar (256 * w + M) = nI (GG fr n W (W - w) M)) ∧ ∀ w, lo ≤ w → w < W → ∀ M, M < 2 ^ n → popc M = w → gA x aX_restGets (256 * w + M) = nI (GI fr n W (W - w - 1) M)
theorem go_loop {fr : Nat → Nat → Nat} {n W : Nat} {c : mS} {y1 : Int32} (hn : n ≤ 8) (hWn : W ≤ n) (hf : ∀ w q, w < W → q < n → fr w q ≤ 36) (hfx : ∀ x', J 0 n W c x' → ∀ w q, w < W → q < n → fX11_farOf (nI w) (nI q) x' = some (nI (fr w q))) : ∀ (i k : Nat) (x : mS), i ≤ W + 1 → i < k → J 0 n W c x → LVok fr n W i x → ∃ x' k', fX11_given_b43 k y1 (nI i + (-1)) x = fX11_given_b43 (k' + 1) y1 (nI 0 + (-1)) x' ∧ J 0 n W c x' ∧ LVok fr n W 0 x' := by
  have hp2 : 2 ^ n ≤ 256 := show 2 ^ n ≤ 2 ^ 8 from Nat.pow_le_pow_right (by omega) hn
  intro i
  induction i with
  | zero =>
    intro k x h1 h2 hJ hL
    obtain ⟨k, rfl⟩ : ∃ k', k = k' + 1 := ⟨k - 1, by omega⟩
    exact ⟨x, k, rfl, hJ, hL⟩
  | succ w ih =>
    intro k x h1 h2 hJ hL
    obtain ⟨k, rfl⟩ : ∃ k', k = k' + 1 := ⟨k - 1, by omega⟩
    rw [dec_n (by omega), fX11_given_b43, if_neg (nNeg (by omega)), bnd_d]
    obtain ⟨x', e1, ⟨l1, l2, l3, l4, l5⟩, e3, e4⟩ := gm_loop (fr := fr) (y1 := y1) (fun u0 u1 u2 => fX11_given_b43 k u0 u1 u2) hn hWn (show w ≤ W by omega) hf hfx (2 ^ n) mFu 0 x (by omega) (show 2 ^ n < 6000 by omega) hJ (fun hw M' m1 m2 => hL.1 (w + 1) (by omega) (by omega) M' m1 m2)
    rw [e1]
    refine ih k x' (by omega) (by omega) e3 ⟨fun w' w1 w2 M m1 m2 => ?_, fun w' w1 w2 M m1 m2 => ?_⟩
    · by_cases e : w' = w
      · subst e
        obtain ⟨q1, q2⟩ := e4 M (by omega) m1
        by_cases g : w' = W
        · rw [q1 g, g, Nat.sub_self]; rfl
        · exact (q2 (by omega) (m2.elim (fun z => absurd z g) id)).1
      · rw [l5 _ (by omega)]; exact hL.1 w' (by omega) w2 M m1 m2
    · by_cases e : w' = w
      · subst e
        exact ((e4 M (by omega) m1).2 w2 m2).2
      · rw [l4 _ (by omega)]; exact hL.2 w' (by omega) w2 M m1 m2
theorem gw_loop {fr : Nat → Nat → Nat} {n W A : Nat} {c x : mS} (hJ : J 0 n W c x) (hWn : W ≤ n) (hA : A < W) (hf : ∀ w q, w < W → q < n → fr w q ≤ 36) (hfr : ∀ w q, w < W → q < n → fX10_apart 0 (nI w) (nI q) c = some (nI (fr w q))) (hG : ∀ M, M < 2 ^ n → gA c aT_givenRest M = nI (Gm fr n W M)) (hL : LVok fr n W 0 x) : ∀ (r k i M : Nat) (y : Int32), i + r = A → r + 1 < k → M < 2 ^ n → popc M = i → same (fX10_given_b61 k (nI A) (nI M) y (nI i) c) (fX11_given_b233 k (nI A) (nI M) (nI i) x) := by
  have hn := hJ.2.1.1
  have hp2 : 2 ^ n ≤ 256 := show 2 ^ n ≤ 2 ^ 8 from Nat.pow_le_pow_right (by omega) hn
  have giv : ∀ i M, i < W → M < 2 ^ n → popc M = i → fX10_givenTo (nI i) (nI M) c = some (nI (GI fr n W (W - i - 1) M)) ∧ GI fr n W (W - i - 1) M < n ∧ M / 2 ^ (GI fr n W (W - i - 1) M) % 2 = 0 := by
    intro i M hi hM hp
    subst hp
    obtain ⟨q, q1, q2, q3, q4, q5⟩ := GI_ok (fr := fr) (t := W - popc M - 1) hn hWn hM (by omega)
    refine ⟨gt_ok hJ hWn hM (by omega) hf hfr (fun q hq hb => ?_), by omega, by rw [q4]; exact q2⟩
    obtain ⟨p1, p2⟩ := popc_set q (by omega) M (by omega) hb
    rw [hG _ (Nat.or_lt_two_pow hM (Nat.pow_lt_pow_right (by omega) hq))]
    unfold Gm
    rw [p1, show W - (popc M + 1) = W - popc M - 1 by omega]
  intro r
  induction r with
  | zero =>
    intro k i M y h1 h2 hM hp
    obtain ⟨k, rfl⟩ : ∃ k', k = k' + 2 := ⟨k - 2, by omega⟩
    obtain rfl : i = A := by omega
    obtain ⟨g1, g2, g3⟩ := giv i M hA hM hp
    rw [fX10_given_b61, if_neg (fun z => absurd ((nLt (by omega) (by omega)).mp z) (by omega)), g1, bO_s, bnd_d, bnd_d, bnd_d, nA, fX10_given_b61, if_pos ((nLt (by omega) (by omega)).mpr (by omega)), fX11_given_b233, if_pos ((nLe (by omega) (by omega)).mpr (by omega)), nM, nA, ldA_n (by omega) (by omega), hL.2 i (by omega) hA M hM hp]
    exact same_bad hJ.1
  | succ r ih =>
    intro k i M y h1 h2 hM hp
    obtain ⟨k, rfl⟩ : ∃ k', k = k' + 1 := ⟨k - 1, by omega⟩
    obtain ⟨g1, g2, g3⟩ := giv i M (by omega) hM hp
    rw [fX10_given_b61, if_neg (fun z => absurd ((nLt (by omega) (by omega)).mp z) (by omega)), g1, bO_s, bnd_d, bnd_d, bnd_d, nA, fX11_given_b233, if_neg (fun z => absurd ((nLe (by omega) (by omega)).mp z) (by omega)), nM, nA, ldA_n (by omega) (by omega), hL.2 i (by omega) (by omega) M hM hp, bnd_d, bnd_d, nA, sh1_n _ (by omega), or_n]
    obtain ⟨p1, p2⟩ := popc_set _ (by omega) M (by omega) g3
    exact ih k (i + 1) _ _ (by omega) (by omega) (Nat.or_lt_two_pow hM (Nat.pow_lt_pow_right (by omega) g2)) (by omega)
theorem z_given {c x : mS} (h : Rel c x) (a : Int32) : same (fX10_given a c) (fX11_given a x) := by
  unfold fX10_given fX11_given
  obtain ⟨⟨n, hn, n1, n2⟩, ⟨W, hW, w1, w2⟩, -⟩ := h.1
  rw [n1, n2, w1, w2, show (-1 : Int64) = Int32.toInt64 (-1) by decide, f_within32, bO_s, b01_z]
  have tst : (nI W - nI 1 < a) ↔ ¬ a < nI W := by
    rw [Int32.lt_iff_toInt_lt, Int32.lt_iff_toInt_lt, Int32.toInt_sub, nI_toInt (by omega), nI_toInt (by omega), Int.bmod_eq_of_le (by omega) (by omega)]
    omega
  by_cases a0 : a < -1
  · rw [if_pos a0, if_pos (Or.inl a0)]; exact same_bad h
  rw [if_neg a0]
  by_cases a1 : a < nI W
  · rw [if_pos a1, if_neg (nor a0 (fun z => tst.mp z a1))]
    by_cases g : W ≤ n
    · have z : nI W ≤ nI n := (nLe (by omega) (by omega)).mpr g
      rw [if_pos z, if_pos z]
      obtain ⟨N, W', x0, b1, b2, hJ⟩ := begin0 h
      have eN : N = n := (nEq (by have := hJ.2.1.1; omega) (by omega)).mp (hJ.2.1.2.1.symm.trans n1)
      have eW : W' = W := (nEq (by have := hJ.2.2.1; omega) (by omega)).mp (hJ.2.2.2.1.symm.trans w1)
      subst eN
      subst eW
      have hp2 : 2 ^ N ≤ 256 := show 2 ^ N ≤ 2 ^ 8 from Nat.pow_le_pow_right (by omega) hn
      have hp0 : 1 ≤ 2 ^ N := Nat.one_le_two_pow
      obtain ⟨fr, hf, hfc, hfx⟩ := fr_ok hJ
      obtain ⟨c', e1, e2, e3⟩ := fg_loop g hn hf hfc (2 ^ N) mFu c (by omega) (show 2 ^ N < 6000 by omega) hJ (fun M m1 m2 => absurd m1 (by omega))
      obtain ⟨x', k', d1, d2, d3⟩ := go_loop (fr := fr) (y1 := a) hn g hf hfx (W' + 1) mFu x0 (by omega) (show W' + 1 < 6000 by omega) hJ ⟨fun w w1 w2 => absurd w1 (by omega), fun w w1 w2 => absurd w1 (by omega)⟩
      have hJ' : J 0 N W' c' x' := J.c0 d2 e2
      have fl : fX10_fillGivenRest c = some c' := by
        unfold fX10_fillGivenRest
        rw [n1, sh1_n N (by omega), bnd_d, Int32.sub_eq_add_neg, show -(nI 1) = (-1 : Int32) by decide]
        exact e1
      rw [dec_n (by omega)] at d1
      rw [fl, bO_s, b1, bO_s, hJ.2.2.2.2.1, bnd_d (nI W'), d1, fX11_given_b43, if_pos (show nI 0 + (-1) < 0 by decide)]
      by_cases g1 : a = -1
      · rw [if_pos g1, if_pos g1, ldA_n (by omega) (by omega), ldA_n (by omega) (by omega), e3 0 (by omega)]
        have := d3.1 0 (by omega) (by omega) 0 (by omega) (Or.inr (by decide))
        rw [show 256 * 0 + 0 = 0 by omega] at this
        rw [this]
        exact same_bad hJ'.1
      · rw [if_neg g1, if_neg g1, bnd_d, bnd_d, bnd_d, bnd_d, bnd_d]
        have ha : ¬ (a < 0) := by
          intro z
          apply g1
          apply Int32.toInt_inj.mp
          rw [Int32.lt_iff_toInt_lt] at z a0
          have : (0 : Int32).toInt = 0 := by decide
          have : (-1 : Int32).toInt = -1 := by decide
          omega
        obtain ⟨A, hA, rfl⟩ := nOfLt ha (Int32.not_le.mpr a1) (by omega)
        have hfc' := hfc c' (hJ.c0 e2)
        exact gw_loop hJ' g hA hf hfc' e3 d3 A mFu 0 0 _ (by omega) (show A + 1 < 6000 by omega) (by omega) (by decide)
    · have z : ¬ nI W ≤ nI n := fun z => g ((nLe (by omega) (by omega)).mp z)
      rw [if_neg z, if_neg z]; exact same_bad h
  · rw [if_neg a1, if_pos (Or.inr (tst.mpr a1))]; exact same_bad h
