-- letters by draws
theorem ush {y : UInt32} (h : y.toNat < 2147483648) : y.toInt32 = nI y.toNat := by
  apply Int32.toBitVec_inj.1
  apply BitVec.eq_of_toNat_eq
  show y.toBitVec.toNat = (BitVec.ofNat 32 y.toNat).toNat
  rw [BitVec.toNat_ofNat]
  have : y.toBitVec.toNat = y.toNat := rfl
  omega
theorem ush_n (v : Int32) (s : Nat) (hs : s = 8 ∨ s = 16) : ∃ u, u < 2147483648 ∧ (Int32.toUInt32 v >>> (Int32.toUInt32 (nI s) &&& Int32.toUInt32 31)).toInt32 = nI u := by
  have key : (Int32.toUInt32 v >>> (Int32.toUInt32 (nI s) &&& Int32.toUInt32 31)).toNat < 2147483648 := by
    rw [UInt32.toNat_shiftRight]
    have hv : v.toUInt32.toNat < 4294967296 := UInt32.toNat_lt _
    rcases hs with rfl | rfl
    · rw [show (Int32.toUInt32 (nI 8) &&& Int32.toUInt32 31).toNat % 32 = 8 by decide, Nat.shiftRight_eq_div_pow]
      omega
    · rw [show (Int32.toUInt32 (nI 16) &&& Int32.toUInt32 31).toNat % 32 = 16 by decide, Nat.shiftRight_eq_div_pow]
      omega
  exact ⟨_, key, ush key⟩
theorem rmI_n {β : Type} (v : Int32) (s n : Nat) (hs : s = 8 ∨ s = 16) (hn : 0 < n) (hn8 : n ≤ 8) : ∃ q, q < n ∧ ∀ k : Int32 → Option β, rmI ((Int32.toUInt32 v >>> (Int32.toUInt32 (nI s) &&& Int32.toUInt32 31)).toInt32) (nI n) k = k (nI q) := by
  obtain ⟨u, hu, e⟩ := ush_n v s hs
  refine ⟨u % n, Nat.mod_lt _ hn, fun k => ?_⟩
  unfold rmI
  rw [e, if_neg (fun z => absurd ((nEq (by omega) (by omega)).mp (z.trans nI_0.symm)) (by omega)), nRem hu (by omega)]
theorem di_loop {n W B : Nat} {y2 y3 y4 y7 y9 y5' y7' : Int32} (hn : 0 < n) (hW : 0 < W) (hB : B ≤ 30) (eB : y2 - y2 / nI 100 * nI 100 = nI B) (K : Int32 → Int32 → Int32 → Int32 → Int32 → Int32 → Int32 → mS → Option (Int32 × mS)) (K' : Int32 → Int32 → Int32 → Int32 → Int32 → Int32 → mS → Option (Int32 × mS)) : ∀ (r kf i : Nat) (z u : Int32) (c x : mS), i + r = B → r < kf → J 1 n W c x → ∃ z' u' c' x', fX10_drawn_b111 K kf y3 y4 (nI B) z y7 u y9 (nI i) c = (bO (fX10_allApart 1 c') fun r9 => bnd (y7 + r9) fun v10 => bnd (y9 + (nI 1)) fun v11 => K y3 y4 (nI B) z' v10 u' v11 c') ∧ fX11_drawn_b94 K' kf y2 y3 z y5' u y7' (nI i) x = fX11_drawn_b168 K' mFu y2 y3 z' y5' u' y7' (nI 0) x' ∧ smC c c' ∧ smX x x' ∧ J 1 n W c' x' := by
  intro r
  induction r with
  | zero =>
    intro kf i z u c x h1 h2 h
    obtain ⟨kf, rfl⟩ : ∃ k', kf = k' + 1 := ⟨kf - 1, by omega⟩
    have w : nI B ≤ nI i := (nLe (by omega) (by omega)).mpr (by omega)
    rw [fX10_drawn_b111, fX11_drawn_b94, eB, if_pos w, if_pos w, bnd_d]
    exact ⟨z, u, c, x, rfl, rfl, smC.rf c, smX.rf x, h⟩
  | succ r ih =>
    intro kf i z u c x h1 h2 h
    obtain ⟨kf, rfl⟩ : ∃ k', kf = k' + 1 := ⟨kf - 1, by omega⟩
    have hn8 := h.2.1.1
    have hW8 := h.2.2.1
    have w : ¬ nI B ≤ nI i := fun z => absurd ((nLe (by omega) (by omega)).mp z) (by omega)
    rw [fX10_drawn_b111, fX11_drawn_b94, eB, if_neg w, if_neg w, bnd_d, bnd_d, h.n0, h.2.1.2.2.1, h.2.2.2.1, h.2.2.2.2.1]
    obtain ⟨q, hq, eq⟩ := rmI_n (β := Int32 × mS) (z * nI 1103515245 + nI 12345) 16 n (Or.inr rfl) hn hn8
    obtain ⟨v, hv, ev⟩ := rmI_n (β := Int32 × mS) (z * nI 1103515245 + nI 12345) 8 W (Or.inl rfl) hW hW8
    obtain ⟨c', x', p1, p2, p3, p4, p5, -⟩ := pass1 h hv hq
    rw [eq, eq, bnd_d, bnd_d, ev, ev, p1, p2, bO_s, bO_s]
    unfold fX10_drawn_b181 fX11_drawn_b156
    by_cases g : nI q = y3
    · rw [if_pos g, if_pos g, bnd_d, bnd_d, bnd_d, bnd_d, nA]
      obtain ⟨z', u', c2, x2, e1, e2, e3, e4, e5⟩ := ih kf (i + 1) (z * nI 1103515245 + nI 12345) (u + nI 1) c' x' (by omega) (by omega) p5
      exact ⟨z', u', c2, x2, e1, e2, p3.tr e3, p4.tr e4, e5⟩
    · rw [if_neg g, if_neg g, bnd_d, bnd_d, bnd_d, bnd_d, nA]
      obtain ⟨z', u', c2, x2, e1, e2, e3, e4, e5⟩ := ih kf (i + 1) (z * nI 1103515245 + nI 12345) (u + nI 0) c' x' (by omega) (by omega) p5
      exact ⟨z', u', c2, x2, e1, e2, p3.tr e3, p4.tr e4, e5⟩
theorem ai_loop {n W w : Nat} {c x : mS} {y2 y3 y4 t y6 y7 : Int32} (h : J 1 n W c x) (hw : w < W) (K : Nat → Int32 → Int32 → mS → Option Int32) (K1 : Int32 → Int32 → Int32 → Int32 → Int32 → Int32 → mS → Option (Int32 × mS)) (K2 : Int32 → Int32 → Int32 → Int32 → Int32 → Int32 → Int32 → mS → Option (Int32 × mS)) : ∀ (r kf q : Nat) (s : Int32), q + r = n → r < kf → ∃ s', fX10_allApart_b18 K kf 1 s (nI w) (nI q) c = K 1 s' (nI (w + 1)) c ∧ fX11_drawn_b180 K1 K2 kf y2 y3 y4 (t + s) y6 y7 (nI w) (nI q) x = K2 y2 y3 y4 (t + s') y6 y7 (nI (w + 1)) x := by
  have hn := h.2.1.1
  intro r
  induction r with
  | zero =>
    intro kf q s h1 h2
    obtain ⟨kf, rfl⟩ : ∃ k', kf = k' + 1 := ⟨kf - 1, by omega⟩
    have z : nI n ≤ nI q := (nLe (by omega) (by omega)).mpr (by omega)
    rw [fX10_allApart_b18, fX11_drawn_b180, h.2.1.2.1, h.2.1.2.2.1, if_pos z, if_pos z, bnd_d, bnd_d, nA]
    exact ⟨s, rfl, rfl⟩
  | succ r ih =>
    intro kf q s h1 h2
    obtain ⟨kf, rfl⟩ : ∃ k', kf = k' + 1 := ⟨kf - 1, by omega⟩
    have z : ¬ nI n ≤ nI q := fun z => absurd ((nLe (by omega) (by omega)).mp z) (by omega)
    obtain ⟨d, hd, f1, f2⟩ := far_both h.2.1 h.2.2 hw (show q < n by omega)
    rw [fX10_allApart_b18, fX11_drawn_b180, h.2.1.2.1, h.2.1.2.2.1, if_neg z, if_neg z, f1, f2, bO_s, bO_s, bnd_d, bnd_d, bnd_d, bnd_d, nA, Int32.add_assoc]
    exact ih kf (q + 1) (s + nI d) (by omega) (by omega)
theorem ao_loop {n W : Nat} {c x : mS} {y2 y3 y4 t y6 y7 : Int32} (h : J 1 n W c x) (K1 : Int32 → Int32 → Int32 → Int32 → Int32 → Int32 → mS → Option (Int32 × mS)) : ∀ (r kf w : Nat) (s : Int32), w + r = W → r < kf → ∃ s', fX10_allApart_b4 kf 1 s (nI w) c = some s' ∧ fX11_drawn_b168 K1 kf y2 y3 y4 (t + s) y6 y7 (nI w) x = K1 y2 y3 y4 (t + s') y6 (y7 + nI 1) x := by
  have hn := h.2.1.1
  have hW := h.2.2.1
  intro r
  induction r with
  | zero =>
    intro kf w s h1 h2
    obtain ⟨kf, rfl⟩ : ∃ k', kf = k' + 1 := ⟨kf - 1, by omega⟩
    have z : nI W ≤ nI w := (nLe (by omega) (by omega)).mpr (by omega)
    rw [fX10_allApart_b4, fX11_drawn_b168, h.2.2.2.1, h.2.2.2.2.1, if_pos z, if_pos z, bnd_d]
    exact ⟨s, rfl, rfl⟩
  | succ r ih =>
    intro kf w s h1 h2
    obtain ⟨kf, rfl⟩ : ∃ k', kf = k' + 1 := ⟨kf - 1, by omega⟩
    have z : ¬ nI W ≤ nI w := fun z => absurd ((nLe (by omega) (by omega)).mp z) (by omega)
    rw [fX10_allApart_b4, fX11_drawn_b168, h.2.2.2.1, h.2.2.2.2.1, if_neg z, if_neg z, bnd_d, bnd_d]
    obtain ⟨s', e1, e2⟩ := ai_loop (y2 := y2) (y3 := y3) (y4 := y4) (t := t) (y6 := y6) (y7 := y7) h (show w < W by omega) (fun u0 u1 u2 u3 => fX10_allApart_b4 kf u0 u1 u2 u3) K1 (fun u0 u1 u2 u3 u4 u5 u6 u7 => fX11_drawn_b168 K1 kf u0 u1 u2 u3 u4 u5 u6 u7) n mFu 0 s (by omega) (show n < 6000 by omega)
    rw [e1, e2]
    exact ih kf (w + 1) s' (by omega) (by omega)
theorem dr_loop {n W A B : Nat} {y2 y3 : Int32} (hn : 0 < n) (hW : 0 < W) (hn8 : n ≤ 8) (hW8 : W ≤ 8) (hA : A ≤ 30) (hB : B ≤ 30) (eA : y2 / nI 100 = nI A) (eB : y2 - y2 / nI 100 * nI 100 = nI B) (h3 : (y3 = -1) ↔ ¬ 0 ≤ y3) : ∀ (r kf i : Nat) (z t u : Int32) (c x : mS), i + r = A → r < kf → Rel c x → gI c (iM_size 0) = nI n → gI c (iW_size 0) = nI W → same (fX10_drawn_b90 kf y3 (nI A) (nI B) z t u (nI i) c) (fX11_drawn_b78 kf y2 y3 z t u (nI i) x) := by
  intro r
  induction r with
  | zero =>
    intro kf i z t u c x h1 h2 h n1 w1
    obtain ⟨kf, rfl⟩ : ∃ k', kf = k' + 1 := ⟨kf - 1, by omega⟩
    have w : nI A ≤ nI i := (nLe (by omega) (by omega)).mpr (by omega)
    rw [fX10_drawn_b90, fX11_drawn_b78, eA, if_pos w, if_pos w]
    by_cases g : 0 ≤ y3
    · rw [if_pos g, if_neg (fun z => h3.mp z g)]; exact same_bad h
    · rw [if_neg g, if_pos (h3.mpr g)]; exact same_bad h
  | succ r ih =>
    intro kf i z t u c x h1 h2 h n1 w1
    obtain ⟨kf, rfl⟩ : ∃ k', kf = k' + 1 := ⟨kf - 1, by omega⟩
    have w : ¬ nI A ≤ nI i := fun z => absurd ((nLe (by omega) (by omega)).mp z) (by omega)
    rw [fX10_drawn_b90, fX11_drawn_b78, eA, if_neg w, if_neg w]
    obtain ⟨N, W', c0, x0, b1, b2, b3, b4, hJ⟩ := begin1 h
    have eN : N = n := (nEq (by have := hJ.2.1.1; omega) (by omega)).mp (hJ.n0.symm.trans ((b3.1 _ (by decide)).trans n1))
    have eW : W' = W := (nEq (by have := hJ.2.2.1; omega) (by omega)).mp (hJ.2.2.2.1.symm.trans ((b3.1 _ (by decide)).trans w1))
    subst eN
    subst eW
    rw [b1, b2, bO_s, bO_s, bnd_d, bnd_d]
    obtain ⟨z', u', c1, x1, e1, e2, e3, e4, e5⟩ := di_loop (y2 := y2) (y3 := y3) (y4 := nI A) (y7 := t) (y9 := nI i) (y5' := t) (y7' := nI i) hn hW hB eB (fun u0 u1 u2 u3 u4 u5 u6 u7 => fX10_drawn_b90 kf u0 u1 u2 u3 u4 u5 u6 u7) (fun u0 u1 u2 u3 u4 u5 u6 => fX11_drawn_b78 kf u0 u1 u2 u3 u4 u5 u6) B mFu 0 z u c0 x0 (by omega) (show B < 6000 by omega) hJ
    obtain ⟨s', f1, f2⟩ := ao_loop (y2 := y2) (y3 := y3) (y4 := z') (t := t) (y6 := u') (y7 := nI i) e5 (fun u0 u1 u2 u3 u4 u5 u6 => fX11_drawn_b78 kf u0 u1 u2 u3 u4 u5 u6) W' mFu 0 (nI 0) (by omega) (show W' < 6000 by omega)
    have f2' : fX11_drawn_b168 (fun u0 u1 u2 u3 u4 u5 u6 => fX11_drawn_b78 kf u0 u1 u2 u3 u4 u5 u6) mFu y2 y3 z' t u' (nI i) (nI 0) x1 = fX11_drawn_b78 kf y2 y3 z' (t + s') u' (nI i + nI 1) x1 := by
      rw [← f2, nI_0, Int32.add_zero]
    unfold fX10_allApart at e1
    rw [e1, e2, bnd_d, bnd_d, f1, bO_s, bnd_d, bnd_d, f2', nA]
    exact ih kf (i + 1) z' (t + s') u' c1 x1 (by omega) (by omega) e5.1 e5.n0 e5.2.2.2.1
theorem neg_div {x : Int32} (h : x < 0) : x / nI 100 < nI 1 := by
  rw [Int32.lt_iff_toInt_lt] at h ⊢
  have h0 : (0 : Int32).toInt = 0 := by decide
  have h1 : (nI 1).toInt = 1 := by decide
  have h2 := Int32.le_toInt x
  rw [Int32.toInt_div, show (nI 100).toInt = 100 by decide, h1]
  rw [h0] at h
  obtain ⟨y, hy⟩ : ∃ y : Nat, x.toInt = -(y : Int) := ⟨x.toInt.natAbs, by omega⟩
  have h5 : x.toInt.tdiv 100 = -((y / 100 : Nat) : Int) := by
    rw [hy, Int.neg_tdiv]
    exact congrArg (fun z : Int => -z) (Int.ofNat_tdiv y 100).symm
  have h3 : x.toInt.tdiv 100 ≤ 0 := by rw [h5]; omega
  have h4 : -2147483648 ≤ x.toInt.tdiv 100 := by rw [h5]; omega
  rw [Int.bmod_eq_of_le (by omega) (by omega)]
  omega
theorem z_drawn {c x : mS} (h : Rel c x) (a b e : Int32) : same (fX10_drawn a b e c) (fX11_drawn a b e x) := by
  unfold fX10_drawn fX11_drawn
  obtain ⟨⟨n, hn, n1, n2⟩, ⟨W, hW, w1, w2⟩, -⟩ := h.1
  rw [bnd_d, bnd_d]
  by_cases h0 : b < 0
  · rw [if_pos (neg_div h0), if_pos h0]; exact same_bad h
  rw [if_neg h0, show (1 : Int64) = Int32.toInt64 (nI 1) by decide, show (30 : Int64) = Int32.toInt64 (nI 30) by decide, f_within32, bO_s, b01_z, f_within32, bO_s, b01_z, f_has6, n1, bO_s, b01_z, f_isMachine hn n2, bO_s, b01_z]
  rw [ite_or (p := b / nI 100 < nI 1), ite_or (p := b - b / nI 100 * nI 100 < nI 1)]
  by_cases h1 : b / nI 100 < nI 1 ∨ nI 30 < b / nI 100
  · rw [if_pos h1, if_pos h1]; exact same_bad h
  rw [if_neg h1, if_neg h1]
  by_cases h2 : b - b / nI 100 * nI 100 < nI 1 ∨ nI 30 < b - b / nI 100 * nI 100
  · rw [if_pos h2, if_pos h2]; exact same_bad h
  rw [if_neg h2, if_neg h2]
  obtain ⟨B1, B2⟩ := nOf h0
  have rng : ∀ v : Int32, ¬ (v < nI 1 ∨ nI 30 < v) → ∃ k, k ≤ 30 ∧ v = nI k := by
    intro v hv
    refine lo_hi (by omega) (nor (fun z => hv (Or.inl ?_)) (fun z => hv (Or.inr z)))
    rw [Int32.lt_iff_toInt_lt] at z ⊢
    have : (0 : Int32).toInt = 0 := by decide
    have : (nI 1).toInt = 1 := by decide
    omega
  obtain ⟨A, hA, eA⟩ := rng _ h1
  obtain ⟨B, hB, eB⟩ := rng _ h2
  have main : ∀ (he : (e = -1) ↔ ¬ 0 ≤ e), same (fX10_drawn_b56 a e (b / nI 100) (b - b / nI 100 * nI 100) c) (fX11_drawn_b50 a b e x) := by
    intro he
    unfold fX10_drawn_b56 fX11_drawn_b50
    rw [n1, n2, w1, w2]
    by_cases g1 : n = 0
    · subst g1
      rw [i00, ite_self, i00]; exact same_bad h
    have g1' : ¬ nI n = 0 := fun z => g1 ((nEq (by omega) (by omega)).mp (z.trans nI_0.symm))
    rw [if_neg g1', if_neg g1']
    by_cases g2 : W = 0
    · subst g2
      rw [i00, i00]; exact same_bad h
    have g2' : ¬ nI W = 0 := fun z => g2 ((nEq (by omega) (by omega)).mp (z.trans nI_0.symm))
    rw [if_neg g2', if_neg g2', bnd_d, bnd_d, bnd_d, bnd_d, bnd_d, bnd_d, bnd_d, bnd_d, eA]
    rw [show b - nI A * nI 100 = nI B by rw [← eB, eA]]
    exact dr_loop (by omega) (by omega) hn hW hA hB eA eB he A mFu 0 _ _ _ c x (by omega) (show A < 6000 by omega) h n1 w1
  by_cases g : e = -1
  · rw [if_pos g, if_pos g]
    exact main ⟨fun _ => by rw [g]; decide, fun _ => g⟩
  · rw [if_neg g, if_neg g]
    by_cases g2 : e < 0 ∨ nI n ≤ e
    · rw [if_pos g2, if_pos g2]; exact same_bad h
    · rw [if_neg g2, if_neg g2]
      exact main ⟨fun z => absurd z g, fun z => absurd (Int32.not_lt.mp (fun w => g2 (Or.inl w))) z⟩
