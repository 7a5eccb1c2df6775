/-- a pair WRITER, MACHINE as both sides read it -/
theorem pair_both {c x : mS} (h : Rel c x) (a : Int32) : (fX10_isPair a c = some (nI 0) ∧ fX11_isWm a x = some (nI 0)) ∨ ∃ n W m w, n ≤ 8 ∧ W ≤ 8 ∧ m < n ∧ w < W ∧ gI c (iM_size 0) = nI n ∧ gI x iX_machines = nI n ∧ gI c (iW_size 0) = nI W ∧ gI x iX_writers = nI W ∧ a / nI 10 = nI w ∧ a - a / nI 10 * nI 10 = nI m ∧ fX10_isPair a c = some (nI 1) ∧ fX11_isWm a x = some (nI 1) := by
  obtain ⟨⟨n, hn, n1, n2⟩, ⟨W, hW, w1, w2⟩, -⟩ := h.1
  unfold fX10_isPair fX11_isWm
  by_cases ha : a < 0
  · rw [if_pos ha, if_pos ha]; exact Or.inl ⟨rfl, rfl⟩
  rw [if_neg ha, if_neg ha]
  obtain ⟨a1, a2⟩ := nOf ha
  generalize a.toNatClampNeg = A at a1 a2
  subst a1
  rw [nRem a2 (by omega), nDiv a2 (by omega), f_has9, f_isWriter hW w2, w1, f_has6, f_isMachine hn n2, n1]
  simp only [bO_s, b01_z]
  have g1 : A / 10 < 2147483648 := by omega
  have g2 : A % 10 < 2147483648 := by omega
  by_cases hw : A / 10 < W
  · have z1 : ¬ (nI (A / 10) < 0 ∨ nI W ≤ nI (A / 10)) := nor (nNeg g1) (fun z => absurd ((nLe (by omega) g1).mp z) (by omega))
    rw [if_neg z1]
    by_cases hm : A % 10 < n
    · have z2 : ¬ (nI (A % 10) < 0 ∨ nI n ≤ nI (A % 10)) := nor (nNeg g2) (fun z => absurd ((nLe (by omega) g2).mp z) (by omega))
      rw [if_neg z2]
      exact Or.inr ⟨n, W, A % 10, A / 10, hn, hW, hm, hw, rfl, n2, rfl, w2, rfl, rfl, rfl, rfl⟩
    · have z2 : nI (A % 10) < 0 ∨ nI n ≤ nI (A % 10) := Or.inr ((nLe (by omega) g2).mpr (by omega))
      rw [if_pos z2]; exact Or.inl ⟨rfl, rfl⟩
  · have z1 : nI (A / 10) < 0 ∨ nI W ≤ nI (A / 10) := Or.inr ((nLe (by omega) g1).mpr (by omega))
    rw [if_pos z1]; exact Or.inl ⟨rfl, rfl⟩
/-- a step nearer -/
def near (u v : Nat) : Nat := if u < v then u + 1 else if v < u then u - 1 else u
theorem near_le {u v t : Nat} (hu : u ≤ t) (hv : v ≤ t) : near u v ≤ t := by
  unfold near
  split
  · omega
  · split <;> omega
theorem near_c {u v : Nat} (hu : u ≤ 1000) (hv : v ≤ 1000) (s : mS) : fX2_nearer (nI u) (nI v) s = some (nI (near u v)) := by
  unfold fX2_nearer near
  by_cases h1 : u < v
  · rw [if_neg (fun z => absurd ((nLe (by omega) (by omega)).mp z) (by omega)), if_pos h1, nA]
  · rw [if_pos ((nLe (by omega) (by omega)).mpr (by omega)), if_neg h1]
    by_cases h2 : v < u
    · rw [if_neg (fun z => absurd ((nLe (by omega) (by omega)).mp z) (by omega)), if_pos h2, nSb (by omega)]
    · rw [if_pos ((nLe (by omega) (by omega)).mpr (by omega)), if_neg h2]
theorem near_x {u v : Nat} (hu : u ≤ 1000) (hv : v ≤ 1000) (s : mS) : fX11_nearer (nI u) (nI v) s = some (nI (near u v)) := near_c hu hv s
/-- LED's numbers -/
theorem Rel.let {c x : mS} (h : Rel c x) (v : Int32) : Rel (pI c (iG_letters 0) v) (pA x aX_ledNow 0 v) := ⟨h.1, h.2.1, h.2.2.1, h.2.2.2.1, h.2.2.2.2.1, h.2.2.2.2.2.1, rSk h.2.2.2.2.2.2.1 (fun k _ _ => gI_ne (show k ≠ 8 by omega)) (fun _ _ => rfl) rfl rfl rfl, rfl, h.2.2.2.2.2.2.2.2.1, h.2.2.2.2.2.2.2.2.2.1, h.2.2.2.2.2.2.2.2.2.2.1, h.2.2.2.2.2.2.2.2.2.2.2⟩
theorem Rel.cln {c x : mS} (h : Rel c x) (v : Int32) : Rel (pI c (iG_cleanings 0) v) (pA x aX_ledNow 1 v) := ⟨h.1, h.2.1, h.2.2.1, h.2.2.2.1, h.2.2.2.2.1, h.2.2.2.2.2.1, rSk h.2.2.2.2.2.2.1 (fun k _ _ => gI_ne (show k ≠ 9 by omega)) (fun _ _ => rfl) rfl rfl rfl, h.2.2.2.2.2.2.2.1, rfl, h.2.2.2.2.2.2.2.2.2.1, h.2.2.2.2.2.2.2.2.2.2.1, h.2.2.2.2.2.2.2.2.2.2.2⟩
theorem Rel.lrn {c x : mS} (h : Rel c x) (v : Int32) : Rel (pI c (iG_learnings 0) v) (pA x aX_ledNow 2 v) := ⟨h.1, h.2.1, h.2.2.1, h.2.2.2.1, h.2.2.2.2.1, h.2.2.2.2.2.1, rSk h.2.2.2.2.2.2.1 (fun k _ _ => gI_ne (show k ≠ 10 by omega)) (fun _ _ => rfl) rfl rfl rfl, h.2.2.2.2.2.2.2.1, h.2.2.2.2.2.2.2.2.1, rfl, h.2.2.2.2.2.2.2.2.2.2.1, h.2.2.2.2.2.2.2.2.2.2.2⟩
theorem Rel.shw {c x : mS} (h : Rel c x) (v : Int32) : Rel (pI c (iG_showed 0) v) (pA x aX_ledNow 3 v) := ⟨h.1, h.2.1, h.2.2.1, h.2.2.2.1, h.2.2.2.2.1, h.2.2.2.2.2.1, rSk h.2.2.2.2.2.2.1 (fun k _ _ => gI_ne (show k ≠ 11 by omega)) (fun _ _ => rfl) rfl rfl rfl, h.2.2.2.2.2.2.2.1, h.2.2.2.2.2.2.2.2.1, h.2.2.2.2.2.2.2.2.2.1, rfl, h.2.2.2.2.2.2.2.2.2.2.2⟩
theorem Rel.lat {c x : mS} (h : Rel c x) {m : Nat} (hm : m < 8) : Rel (pI c (iG_latest 0) (nI m)) (pI x iX_latest (nI m)) := ⟨h.1, h.2.1, h.2.2.1, h.2.2.2.1, h.2.2.2.2.1, h.2.2.2.2.2.1, rSk h.2.2.2.2.2.2.1 (fun k _ _ => gI_ne (show k ≠ 12 by omega)) (fun _ _ => rfl) rfl rfl rfl, h.2.2.2.2.2.2.2.1, h.2.2.2.2.2.2.2.2.1, h.2.2.2.2.2.2.2.2.2.1, h.2.2.2.2.2.2.2.2.2.2.1, Or.inr ⟨m, hm, rfl, rfl⟩⟩
theorem z_clean {c x : mS} (h : Rel c x) (a : Int32) : same (fX10_clean a c) (fX11_clean a x) := by
  obtain ⟨⟨n, hn, n1, n2⟩, -, -, hg, -⟩ := h.1
  unfold fX10_clean fX11_clean
  rw [f_has6, f_isMachine hn n2, n1]
  simp only [bO_s, b01_z]
  by_cases ha : a < 0 ∨ nI n ≤ a
  · rw [if_pos ha, if_pos ha]; exact same_bad h
  rw [if_neg ha, if_neg ha]
  obtain ⟨m, hm, rfl⟩ := nOfLt (fun z => ha (Or.inl z)) (fun z => ha (Or.inr z)) (by omega)
  obtain ⟨g1, -⟩ := hg m (by omega)
  rw [ldA_n (by omega) (by omega), nA, ldA_n (by omega) (by omega), g1]
  simp only [bnd_d]
  unfold fX6_setNew
  simp only [nM, nA]
  rw [stA_n (by omega) (by omega), stA_n (by omega) (by omega), stA_n (by omega) (by omega), stA_n (by omega) (by omega), bO_s]
  obtain ⟨k, hk⟩ : ∃ k, mFu = k + 4 := ⟨5996, rfl⟩
  have st : ∀ (i : Nat) (hi : i < 3) (f : Nat) (x : mS), fX11_clean_b23 (f + 1) (nI m) (gA c (aM_ages 0) m) (nI i) x = fX11_clean_b23 f (nI m) (gA c (aM_ages 0) m) (nI (i + 1)) (pA x aX_may (3 * m + i) (nI 6)) := by
    intro i hi f x
    rw [fX11_clean_b23, if_neg (fun z => absurd ((nLe (by omega) (by omega)).mp z) (by omega))]
    simp only [nM, nA, bnd_d]
    rw [stA_n (by omega) (by omega)]
  rw [hk, st 0 (by omega) (k + 3), st 1 (by omega) (k + 2), st 2 (by omega) (k + 1), fX11_clean_b23, if_pos (show nI 3 ≤ nI (2 + 1) by decide), nA, stA_n (by omega) (by omega), ldA_n (by omega) (by omega), stA_n (by omega) (by omega)]
  have hR : Rel (pA (pA (pA (pA c (aM_pulls 0) (3 * m) (nI 6)) (aM_pulls 0) (3 * m + 1) (nI 6)) (aM_pulls 0) (3 * m + 2) (nI 6)) (aM_ages 0) m (nI 0)) (pA (pA (pA (pA x aX_may (3 * m + 0) (nI 6)) aX_may (3 * m + 1) (nI 6)) aX_may (3 * m + 2) (nI 6)) aX_may (24 + m) (nI 0)) :=
    (((h.pull (p := 3 * m) (by omega) (by omega)).pull (p := 3 * m + 1) (by omega) (by omega)).pull (p := 3 * m + 2) (by omega) (by omega)).age (p := m) (by omega) (by omega)
  have e1 := hR.2.2.2.2.2.2.2.2.1
  refine ⟨_, _, _, rfl, rfl, ?_⟩
  rw [e1]
  exact hR.cln _
theorem learn_st {a : Int32} {m w : Nat} (e1 : a / nI 10 = nI w) (e2 : a - a / nI 10 * nI 10 = nI m) (hm : m < 8) (hw : w < 8) (i : Nat) (hi : i < 3) (f q : Nat) {c x : mS} (h : Rel c x) : ∃ v, v ≤ 12 ∧ fX10_learn_b17 (f + 1) a (nI w) (nI i) c = fX10_learn_b17 f a (nI w) (nI (i + 1)) (pA c (aW_hands 0) (3 * w + i) (nI v)) ∧ fX11_learn_b14 (f + 1) a (nI q) (nI i) x = fX11_learn_b14 f a (nI (13 * q + v)) (nI (i + 1)) (pA x aX_may (32 + (3 * w + i)) (nI v)) ∧ Rel (pA c (aW_hands 0) (3 * w + i) (nI v)) (pA x aX_may (32 + (3 * w + i)) (nI v)) := by
  obtain ⟨-, -, hp, -, hh, -⟩ := h.1
  obtain ⟨p1, u, hu, p2⟩ := hp (3 * m + i) (by omega)
  obtain ⟨q1, v, hv, q2⟩ := hh (3 * w + i) (by omega)
  refine ⟨near v u, near_le hv hu, ?_, ?_, h.hand (by omega) (near_le hv hu)⟩
  · rw [fX10_learn_b17, if_neg (fun z => absurd ((nLe (by omega) (by omega)).mp z) (by omega)), e2]
    unfold fX9_hand fX6_pull
    simp only [nM, nA]
    rw [ldA_n (by omega) (by omega), ldA_n (by omega) (by omega), q2, p2]
    simp only [bO_s, near_c (show v ≤ 1000 by omega) (show u ≤ 1000 by omega), bnd_d]
    rw [stA_n (by omega) (by omega)]
  · rw [fX11_learn_b14, if_neg (fun z => absurd ((nLe (by omega) (by omega)).mp z) (by omega)), e2, e1]
    simp only [nM, nA, bnd_d]
    rw [show 32 + 3 * w + i = 32 + (3 * w + i) by omega, ldA_n (by omega) (by omega), ldA_n (by omega) (by omega), q1, q2, p1, p2, near_x (show v ≤ 1000 by omega) (show u ≤ 1000 by omega), bO_s, stA_n (by omega) (by omega), ldA_n (by omega) (by omega), gA_eq, if_pos rfl, nA]
theorem z_learn {c x : mS} (h : Rel c x) (a : Int32) : same (fX10_learn a c) (fX11_learn a x) := by
  unfold fX10_learn fX11_learn
  rcases pair_both h a with ⟨h1, h2⟩ | ⟨n, W, m, w, hn, hW, hm, hw, n1, n2, w1, w2, e1, e2, h1, h2⟩
  · rw [h1, h2, bO_s, bO_s, i00, i00]; exact same_bad h
  rw [h1, h2, bO_s, bO_s, i10, i10, e1, bnd_d, bnd_d, bnd_d, bnd_d]
  obtain ⟨k, hk⟩ : ∃ k, mFu = k + 4 := ⟨5996, rfl⟩
  rw [hk]
  obtain ⟨v0, b0, c0, x0, r0⟩ := learn_st e1 e2 (show m < 8 by omega) (show w < 8 by omega) 0 (by omega) (k + 3) 0 h
  obtain ⟨v1, b1, c1, x1, r1⟩ := learn_st e1 e2 (show m < 8 by omega) (show w < 8 by omega) 1 (by omega) (k + 2) (13 * 0 + v0) r0
  obtain ⟨v2, b2, c2, x2, r2⟩ := learn_st e1 e2 (show m < 8 by omega) (show w < 8 by omega) 2 (by omega) (k + 1) (13 * (13 * 0 + v0) + v1) r1
  rw [c0, c1, c2, x0, x1, x2, fX10_learn_b17, fX11_learn_b14, if_pos (show nI 3 ≤ nI (2 + 1) by decide), if_pos (show nI 3 ≤ nI (2 + 1) by decide)]
  simp only [bnd_d]
  unfold fX9_handCode fX9_hand fX2_code
  simp only [nM, nA]
  rw [ldA_n (by omega) (by omega), ldA_n (by omega) (by omega), ldA_n (by omega) (by omega)]
  simp only [bO_s, gA_pI]
  rw [gA_eq, if_neg (by omega), gA_eq, if_neg (by omega), gA_eq, if_pos (by omega), gA_eq, if_neg (by omega), gA_eq, if_pos (by omega), gA_eq, if_pos (by omega), nM, nM, nA, nA, ldA_n (by omega) (by omega), stA_n (by omega) (by omega)]
  rw [show 13 * (13 * (13 * 0 + v0) + v1) + v2 = 169 * v0 + 13 * v1 + v2 by omega, r2.2.2.2.2.2.2.2.2.2.1]
  exact ⟨_, _, _, rfl, rfl, r2.lrn _⟩
