theorem teach_loop {c x : mS} {a : Int32} {B hd : Nat} (hB : B < 2147483648) (hh : hd ≤ 12) (e : fX11_handOf (a / nI 10) (nI B / nI 100) x = some (nI hd)) : ∀ (m k i u : Nat), i + m = 31 → m < k → u ≤ 12 → sameP (fX10_teach_b67 k (nI B) (nI hd) (nI u) (nI i) c) (fX11_teach_b64 k a (nI B) (nI u) (nI i) x) := by
  intro m
  induction m with
  | zero =>
    intro k i u h1 h2 hu
    obtain ⟨k, rfl⟩ : ∃ k', k = k' + 1 := ⟨k - 1, by omega⟩
    have z : nI 30 < nI i := (nLt (by omega) (by omega)).mpr (by omega)
    rw [fX10_teach_b67, fX11_teach_b64, if_pos z, if_pos z]
    exact ⟨_, rfl, rfl⟩
  | succ m ih =>
    intro k i u h1 h2 hu
    obtain ⟨k, rfl⟩ : ∃ k', k = k' + 1 := ⟨k - 1, by omega⟩
    have z : ¬ nI 30 < nI i := fun z => absurd ((nLt (by omega) (by omega)).mp z) (by omega)
    rw [fX10_teach_b67, fX11_teach_b64, if_neg z, if_neg z, nRem hB (by omega)]
    by_cases g : nI u = nI (B % 100)
    · rw [if_pos g, if_pos g]; exact ⟨_, rfl, rfl⟩
    · rw [if_neg g, if_neg g, e, bO_s, near_c (by omega) (by omega), near_x (by omega) (by omega), bO_s, bO_s, bnd_d, bnd_d, bnd_d, bnd_d, nA]
      exact ih k (i + 1) (near u hd) (by omega) (by omega) (near_le hu hh)
theorem z_teach {c x : mS} (h : Rel c x) (a b : Int32) : sameP (fX10_teach a b c) (fX11_teach a b x) := by
  unfold fX10_teach fX11_teach
  rcases pair_both h a with ⟨h1, h2⟩ | ⟨n, W, m, w, hn, hW, hm, hw, n1, n2, w1, w2, e1, e2, h1, h2⟩
  · rw [h1, h2, bO_s, bO_s, i00, i00]; exact ⟨_, rfl, rfl⟩
  rw [h1, h2, bO_s, bO_s, i10, i10]
  by_cases hb : b < 0
  · rw [if_pos hb, if_pos hb]; exact ⟨_, rfl, rfl⟩
  rw [if_neg hb, if_neg hb]
  obtain ⟨b1, b2⟩ := nOf hb
  generalize b.toNatClampNeg = B at b1 b2
  subst b1
  rw [nRem b2 (by omega), nDiv b2 (by omega), show (0 : Int64) = Int32.toInt64 (nI 0) by decide, show (2 : Int64) = Int32.toInt64 (nI 2) by decide, show (12 : Int64) = Int32.toInt64 (nI 12) by decide, f_within32, f_within32, bO_s, bO_s, b01_z, b01_z]
  have q1 : B / 100 < 2147483648 := by omega
  by_cases g1 : B / 100 < 3
  · rw [if_neg (fun z => absurd ((nLe (by omega) q1).mp z) (by omega)), if_neg (show ¬ (nI (B / 100) < nI 0 ∨ nI 2 < nI (B / 100)) from nor (nNeg q1) (fun z => absurd ((nLt (by omega) q1).mp z) (by omega)))]
    by_cases g2 : B % 100 ≤ 12
    · rw [if_pos ((nLe (by omega) (by omega)).mpr g2), if_neg (show ¬ (nI (B % 100) < nI 0 ∨ nI 12 < nI (B % 100)) from nor (nNeg (by omega)) (fun z => absurd ((nLt (by omega) (by omega)).mp z) (by omega)))]
      obtain ⟨-, -, hp, -, hh, -⟩ := h.1
      obtain ⟨p1, u, hu, p2⟩ := hp (3 * m + B / 100) (by omega)
      obtain ⟨r1, v, hv, r2⟩ := hh (3 * w + B / 100) (by omega)
      rw [e2, e1, bnd_d]
      unfold fX9_hand fX6_pull
      rw [nM, nA, ldA_n (by omega) (by omega), r2, bO_s, bnd_d, nM, nA, ldA_n (by omega) (by omega), ldA_n (by omega) (by omega), p1, p2, bO_s, bnd_d, bnd_d, bnd_d]
      refine teach_loop b2 hv ?_ 31 mFu 0 u (by omega) (by decide) hu
      unfold fX11_handOf
      rw [nDiv b2 (by omega), e1, nM, nA, nA, show 32 + 3 * w + B / 100 = 32 + (3 * w + B / 100) by omega, ldA_n (by omega) (by omega), r1, r2]
    · rw [if_neg (fun z => g2 ((nLe (by omega) (by omega)).mp z)), if_pos (show nI (B % 100) < nI 0 ∨ nI 12 < nI (B % 100) from Or.inr ((nLt (by omega) (by omega)).mpr (by omega)))]; exact ⟨_, rfl, rfl⟩
  · rw [if_pos ((nLe (by omega) q1).mpr (by omega)), if_pos (show nI (B / 100) < nI 0 ∨ nI 2 < nI (B / 100) from Or.inr ((nLt (by omega) q1).mpr (by omega)))]; exact ⟨_, rfl, rfl⟩
/-- the nearest, as both look for it -/
theorem nm_loop {c x : mS} {n W w : Nat} (hR : Rel c x) (hM : rM 0 n c x) (hW : rW W c x) (hw : w < W) : ∀ (m k i : Nat) (best least : Int32), i + m = n → m < k → (best = -2 ∨ ∃ j d, j < n ∧ best = nI j ∧ least = nI d ∧ d ≤ 36 ∧ fX10_apart 0 (nI w) (nI j) c = some (nI d)) → sameQ (fX10_nearestMachine_b5 k (nI w) best (nI i) c) c (fX11_nearest_b45 k (nI w) 0 best least (nI i) x) := by
  have hn := hM.1
  intro m
  induction m with
  | zero =>
    intro k i best least h1 h2 inv
    obtain ⟨k, rfl⟩ : ∃ k', k = k' + 1 := ⟨k - 1, by omega⟩
    rw [fX10_nearestMachine_b5, fX11_nearest_b45, if_pos rfl, hM.2.1, hM.2.2.1]
    unfold fX11_nearest_b62
    have z : nI n ≤ nI i := (nLe (by omega) (by omega)).mpr (by omega)
    rw [if_pos z, if_pos z]
    exact ⟨_, x, rfl, rfl, hR⟩
  | succ m ih =>
    intro k i best least h1 h2 inv
    obtain ⟨k, rfl⟩ : ∃ k', k = k' + 1 := ⟨k - 1, by omega⟩
    obtain ⟨d, hd, f1, f2⟩ := far_both hM hW hw (show i < n by omega)
    rw [fX10_nearestMachine_b5, fX11_nearest_b45, if_pos rfl, hM.2.1, hM.2.2.1]
    unfold fX11_nearest_b62
    have z : ¬ nI n ≤ nI i := fun z => absurd ((nLe (by omega) (by omega)).mp z) (by omega)
    rw [if_neg z, if_neg z, if_pos rfl, f2, bO_s]
    unfold fX11_nearest_b86
    rw [bnd_d]
    have take : sameQ (fX10_nearestMachine_b43 (fun u0 u1 u2 u3 => fX10_nearestMachine_b5 k u0 u1 u2 u3) (nI w) (nI i) c) c (fX11_nearest_b99 (fun u0 u1 u2 u3 u4 u5 => fX11_nearest_b45 k u0 u1 u2 u3 u4 u5) (nI w) 0 (nI i) (nI d) x) := by
      unfold fX10_nearestMachine_b43 fX10_nearestMachine_b45 fX11_nearest_b99 fX11_nearest_b106
      rw [bnd_d, bnd_d, bnd_d, bnd_d, bnd_d, nA]
      exact ih k (i + 1) (nI i) (nI d) (by omega) (by omega) (Or.inr ⟨i, d, by omega, rfl, rfl, hd, f1⟩)
    rcases inv with rfl | ⟨j, e, hj, rfl, rfl, he, f3⟩
    · rw [if_pos (show (-2 : Int32) < 0 by decide), if_pos (show (-2 : Int32) < 0 by decide)]
      exact take
    · rw [if_neg (nNeg (by omega)), if_neg (nNeg (by omega)), f1, f3, bO_s, bO_s]
      by_cases g : nI e ≤ nI d
      · rw [if_pos g, if_pos g]
        unfold fX10_nearestMachine_b45 fX11_nearest_b106
        rw [bnd_d, bnd_d, nA]
        exact ih k (i + 1) (nI j) (nI e) (by omega) (by omega) (Or.inr ⟨j, e, hj, rfl, rfl, he, f3⟩)
      · rw [if_neg g, if_neg g]
        exact take
theorem nw_loop {c x : mS} {n W w : Nat} (hR : Rel c x) (hM : rM 0 n c x) (hW : rW W c x) (hw : w < n) : ∀ (m k i : Nat) (best least : Int32), i + m = W → m < k → (best = -2 ∨ ∃ j d, j < W ∧ best = nI j ∧ least = nI d ∧ d ≤ 36 ∧ fX10_apart 0 (nI j) (nI w) c = some (nI d)) → sameQ (fX10_nearestWriter_b5 k (nI w) best (nI i) c) c (fX11_nearest_b45 k (nI w) (nI 1) best least (nI i) x) := by
  have hn := hW.1
  have ne : ¬ nI 1 = 0 := by decide
  intro m
  induction m with
  | zero =>
    intro k i best least h1 h2 inv
    obtain ⟨k, rfl⟩ : ∃ k', k = k' + 1 := ⟨k - 1, by omega⟩
    rw [fX10_nearestWriter_b5, fX11_nearest_b45, if_neg ne, hW.2.1, hW.2.2.1]
    unfold fX11_nearest_b62
    have z : nI W ≤ nI i := (nLe (by omega) (by omega)).mpr (by omega)
    rw [if_pos z, if_pos z]
    exact ⟨_, x, rfl, rfl, hR⟩
  | succ m ih =>
    intro k i best least h1 h2 inv
    obtain ⟨k, rfl⟩ : ∃ k', k = k' + 1 := ⟨k - 1, by omega⟩
    obtain ⟨d, hd, f1, f2⟩ := far_both hM hW (show i < W by omega) hw
    rw [fX10_nearestWriter_b5, fX11_nearest_b45, if_neg ne, hW.2.1, hW.2.2.1]
    unfold fX11_nearest_b62
    have z : ¬ nI W ≤ nI i := fun z => absurd ((nLe (by omega) (by omega)).mp z) (by omega)
    rw [if_neg z, if_neg z, if_neg ne, f2, bO_s]
    unfold fX11_nearest_b86
    rw [bnd_d]
    have take : sameQ (fX10_nearestWriter_b43 (fun u0 u1 u2 u3 => fX10_nearestWriter_b5 k u0 u1 u2 u3) (nI w) (nI i) c) c (fX11_nearest_b99 (fun u0 u1 u2 u3 u4 u5 => fX11_nearest_b45 k u0 u1 u2 u3 u4 u5) (nI w) (nI 1) (nI i) (nI d) x) := by
      unfold fX10_nearestWriter_b43 fX10_nearestWriter_b45 fX11_nearest_b99 fX11_nearest_b106
      rw [bnd_d, bnd_d, bnd_d, bnd_d, bnd_d, nA]
      exact ih k (i + 1) (nI i) (nI d) (by omega) (by omega) (Or.inr ⟨i, d, by omega, rfl, rfl, hd, f1⟩)
    rcases inv with rfl | ⟨j, e, hj, rfl, rfl, he, f3⟩
    · rw [if_pos (show (-2 : Int32) < 0 by decide), if_pos (show (-2 : Int32) < 0 by decide)]
      exact take
    · rw [if_neg (nNeg (by omega)), if_neg (nNeg (by omega)), f1, f3, bO_s, bO_s]
      by_cases g : nI e ≤ nI d
      · rw [if_pos g, if_pos g]
        unfold fX10_nearestWriter_b45 fX11_nearest_b106
        rw [bnd_d, bnd_d, nA]
        exact ih k (i + 1) (nI j) (nI e) (by omega) (by omega) (Or.inr ⟨j, e, hj, rfl, rfl, he, f3⟩)
      · rw [if_neg g, if_neg g]
        exact take
theorem sameQ_b {c : mS} {o : Option Int32} {p : Option (Int32 × mS)} (h : sameQ o c p) : sameQ (bO o fun r => some r) c p := by
  obtain ⟨r, x, h1, h2, h3⟩ := h
  exact ⟨r, x, by rw [h1, bO_s], h2, h3⟩
theorem z_nearest {c x : mS} (h : Rel c x) (a b : Int32) : sameQ (fX10_nearest a b c) c (fX11_nearest a b x) := by
  obtain ⟨n, x', b1, b2, b3, b4⟩ := begins_both h
  obtain ⟨W, r⟩ := b3.rW
  obtain ⟨⟨n', hn', n1, n2⟩, ⟨W', hW', w1, w2⟩, -⟩ := h.1
  have hn := b4.1
  have hW := r.1
  have eN : n' = n := (nEq (by omega) (by omega)).mp (n1.symm.trans b4.2.1)
  have eW : W' = W := (nEq (by omega) (by omega)).mp (w1.symm.trans r.2.1)
  subst eN
  subst eW
  unfold fX10_nearest fX11_nearest fX11_nearest_b32
  rw [f_has9, f_has6, f_isWriter hW' w2, f_isMachine hn' n2, w1, n1, bO_s, bO_s, bO_s, bO_s, b01_z, b01_z, b01_z, b01_z, b1, bO_s, bnd_d, bnd_d, bnd_d]
  by_cases hb : b = 0
  · subst hb
    rw [if_pos rfl, if_pos rfl]
    by_cases ha : a < 0 ∨ nI W' ≤ a
    · rw [if_pos ha, if_pos ha]; exact ⟨_, x, rfl, rfl, h⟩
    rw [if_neg ha, if_neg ha]
    obtain ⟨w, hw, rfl⟩ := nOfLt (fun z => ha (Or.inl z)) (fun z => ha (Or.inr z)) (by omega)
    unfold fX10_nearestMachine
    rw [bnd_d, bnd_d]
    exact sameQ_b (nm_loop b3 b4 r hw n' mFu 0 _ _ (by omega) (by show n' < 6000; omega) (Or.inl rfl))
  · rw [if_neg hb, if_neg hb]
    by_cases hb1 : b = nI 1
    · subst hb1
      rw [if_pos rfl, if_pos rfl]
      by_cases ha : a < 0 ∨ nI n' ≤ a
      · rw [if_pos ha, if_pos ha]; exact ⟨_, x, rfl, rfl, h⟩
      rw [if_neg ha, if_neg ha]
      obtain ⟨w, hw, rfl⟩ := nOfLt (fun z => ha (Or.inl z)) (fun z => ha (Or.inr z)) (by omega)
      unfold fX10_nearestWriter
      rw [bnd_d, bnd_d]
      exact sameQ_b (nw_loop b3 b4 r hw W' mFu 0 _ _ (by omega) (by show W' < 6000; omega) (Or.inl rfl))
    · rw [if_neg hb1, if_neg hb1]; exact ⟨_, x, rfl, rfl, h⟩
