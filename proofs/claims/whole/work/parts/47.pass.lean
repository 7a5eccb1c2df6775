-- ranges
theorem f_win (a : Int32) (k : Nat) (K : Int64) (hK : K = (nI k).toInt64) (s : mS) : fX11_within a.toInt64 0 K s = some (b01 (a < 0 ∨ nI k < a)) := by
  rw [hK, show (0 : Int64) = Int32.toInt64 0 by decide, f_within32]
theorem lo_hi {a : Int32} {k : Nat} (hk : k < 2147483648) (h : ¬ (a < 0 ∨ nI k < a)) : ∃ v, v ≤ k ∧ a = nI v := by
  obtain ⟨e1, e2⟩ := nOf (fun z => h (Or.inl z))
  refine ⟨_, ?_, e1⟩
  have h2 : ¬ nI k < nI a.toNatClampNeg := fun z => h (Or.inr (e1 ▸ z))
  rw [nLt hk e2] at h2
  omega
theorem hi_bad {a : Int32} {k : Nat} (h : a < 0 ∨ nI k < a) (g : ¬ a < 0) : nI k < a := h.elim (fun z => absurd z g) id
theorem nLt_le {a : Int32} {k : Nat} (hk : k < 2147483647) (h : nI k < a) : nI (k + 1) ≤ a := by
  rw [Int32.lt_iff_toInt_lt, nI_toInt (by omega)] at h
  rw [Int32.le_iff_toInt_le, nI_toInt (by omega)]
  omega
theorem nLt_nle {a : Int32} {k : Nat} (h : nI k < a) : ¬ a ≤ nI k := Int32.not_le.mpr h
/-- a row of bytes or shorts, on both sides -/
def rR (j m : Nat) (f : Nat → Int32) (c x : mS) : Prop := j < 6 ∧ m ≤ 60 ∧ gI c (iS_size j) = nI m ∧ gA x aX_many j = nI m ∧ ∀ i, i < 60 → gL c (lS_cells j) i = (f i).toInt64 ∧ gL x lX_items (60 * j + i) = (f i).toInt64
theorem rR.keep {j m : Nat} {f : Nat → Int32} {c x d y : mS} (h : rR j m f c x) (hc : smC c d) (hx : smX x y) : rR j m f d y := by
  obtain ⟨h1, h2, h3, h4, h5⟩ := h
  refine ⟨h1, h2, ?_, ?_, fun i hi => ⟨?_, ?_⟩⟩
  · have z : 19 + 3 * j ∉ [2, 3, 5, 37, 38, 41, 42, 43, 44, 45, 46, 51] := by
      simp only [List.mem_cons, List.not_mem_nil, or_false]
      omega
    rw [hc.1 _ z]; exact h3
  · rw [hx.2.1 _ (by decide)]; exact h4
  · rw [hc.2.2]; exact (h5 i hi).1
  · rw [hx.2.2 _ (by decide)]; exact (h5 i hi).2
theorem row_both {c x : mS} (h : Rel c x) (a : Int32) (t : Nat) (ht : t ≤ 1) : (∃ v, (v = -1 ∨ v = -11 ∨ v = -12) ∧ fX10_rowRefusal a (nI t) c = some v ∧ fX11_rowIs a (nI t) x = some v) ∨ ∃ j m f, a = nI j ∧ rR j m f c x ∧ fX10_rowRefusal a (nI t) c = some (nI 0) ∧ fX11_rowIs a (nI t) x = some (nI 1) := by
  obtain ⟨-, -, -, -, -, -, h7, -⟩ := h
  unfold fX10_rowRefusal fX11_rowIs
  rw [f_isShelf, f_isShelfX, bO_s, bO_s, b01_z, b01_z]
  by_cases ha : a < 0 ∨ nI 6 ≤ a
  · rw [if_pos ha, if_pos ha]
    exact Or.inl ⟨-1, Or.inl rfl, rfl, rfl⟩
  · rw [if_neg ha, if_neg ha]
    obtain ⟨j, hj, rfl⟩ := sh_in ha
    obtain ⟨⟨m, hm, m1, m2⟩, s2, s3⟩ := h7 j hj
    rw [ldS_n hj (by omega), ldA_n hj (by omega), f_isEmpty, bO_s, b01_z]
    unfold fX7_isRowOf
    rcases s3 with ⟨q1, q2, q3⟩ | ⟨q1, n, g, q2, q3, q4, q5, q6⟩ | ⟨t', ht', q1, q2, q3, q4⟩
    · rw [q1, q2, q3, if_neg (by decide), if_neg (by decide)]
      exact Or.inl ⟨-11, Or.inr (Or.inl rfl), rfl, rfl⟩
    · rw [q1, q5, q6, if_pos (fun z => neg1 (by omega) z.2), if_pos (nI_pos' (by omega)), ldS_n hj (by omega), q1, if_neg (fun z => neg1 (k := t) (by omega) z.symm), bO_s, i00, ldA_n hj (by omega), q6, nA, if_neg (nlit_ne (by omega) (by omega) (by omega))]
      exact Or.inl ⟨-12, Or.inr (Or.inr rfl), rfl, rfl⟩
    · rw [q1, q2, q3, if_pos (fun z => neg1 (k := t') (by omega) z.1), if_pos (nI_pos' (by omega)), ldS_n hj (by omega), q1, ldA_n hj (by omega), q3, nA]
      by_cases e : t' = t
      · subst e
        rw [if_pos rfl, if_pos rfl, bO_s, i10]
        refine Or.inr ⟨j, m, fun i => Int64.toInt32 (gL c (lS_cells j) i), rfl, ⟨hj, hm, m1, m2, fun i hi => ?_⟩, rfl, rfl⟩
        obtain ⟨v, hv⟩ := q4 ht i hi
        show gL c (lS_cells j) i = Int32.toInt64 (Int64.toInt32 (gL c (lS_cells j) i)) ∧ gL x lX_items (60 * j + i) = Int32.toInt64 (Int64.toInt32 (gL c (lS_cells j) i))
        rw [s2 i hi, hv, Int32.toInt32_toInt64]
        exact ⟨rfl, rfl⟩
      · rw [if_neg (nlit_ne (by omega) (by omega) e), if_neg (nlit_ne (by omega) (by omega) (by omega)), bO_s, i00]
        exact Or.inl ⟨-12, Or.inr (Or.inr rfl), rfl, rfl⟩
-- one letter goes over
theorem rM.pull {k n : Nat} {c x : mS} (h : rM k n c x) {p v : Nat} (hp : p < 24) (hv : v ≤ 12) : rM k n (pA c (aM_pulls k) p (nI v)) (pA x aX_pull p (nI v)) := by
  obtain ⟨hn, n1, n2, hp', hg, hr⟩ := h
  refine ⟨hn, n1, n2, fun i hi => ?_, fun i hi => ?_, hr⟩
  · rw [gA_eq, gA_eq]
    by_cases e : i = p
    · rw [if_pos e, if_pos e]; exact ⟨rfl, v, hv, rfl⟩
    · rw [if_neg e, if_neg e]; exact hp' i hi
  · rw [gA_ne (show aX_age ≠ aX_pull by decide), gA_ne (show aM_ages k ≠ aM_pulls k by show 2 + 3 * k ≠ 0 + 3 * k; omega)]
    exact hg i hi
theorem rM.age {k n : Nat} {c x : mS} (h : rM k n c x) {p v : Nat} (hp : p < 8) (hv : v ≤ 99) : rM k n (pA c (aM_ages k) p (nI v)) (pA x aX_age p (nI v)) := by
  obtain ⟨hn, n1, n2, hp', hg, hr⟩ := h
  refine ⟨hn, n1, n2, fun i hi => ?_, fun i hi => ?_, hr⟩
  · rw [gA_ne (show aX_pull ≠ aX_age by decide), gA_ne (show aM_pulls k ≠ aM_ages k by show 0 + 3 * k ≠ 2 + 3 * k; omega)]
    exact hp' i hi
  · rw [gA_eq, gA_eq]
    by_cases e : i = p
    · rw [if_pos e, if_pos e]; exact ⟨rfl, v, hv, rfl⟩
    · rw [if_neg e, if_neg e]; exact hg i hi
theorem rW.pA {W : Nat} {c x : mS} (h : rW W c x) {j i p q : Nat} {u v : Int32} (hj : j ≠ 9 ∧ j ≠ 10) (hi : i ≠ 0) : rW W (pA c j p u) (pA x i q v) := by
  obtain ⟨hW, w1, w2, hh, ht⟩ := h
  refine ⟨hW, w1, w2, fun r hr => ?_, fun r hr => ?_⟩
  · rw [gA_ne (show aX_may ≠ i from fun e => hi e.symm), gA_ne (show aW_hands 0 ≠ j from fun e => hj.1 e.symm)]; exact hh r hr
  · rw [gA_ne (show aX_may ≠ i from fun e => hi e.symm), gA_ne (show aW_touches 0 ≠ j from fun e => hj.2 e.symm)]; exact ht r hr
theorem pass_st {k n W w m i : Nat} {c x : mS} (hk : k ≤ 1) (hM : rM k n c x) (hW : rW W c x) (hw : w < W) (hm : m < n) (hi : i < 3) (f : Nat) : ∃ v, v ≤ 12 ∧ fX10_pass_b3 (f + 1) k (nI w) (nI m) (nI i) c = fX10_pass_b3 f k (nI w) (nI m) (nI (i + 1)) (pA c (aM_pulls k) (3 * m + i) (nI v)) ∧ fX11_typesOn_b2 (f + 1) (nI w) (nI m) (nI i) x = fX11_typesOn_b2 f (nI w) (nI m) (nI (i + 1)) (pA x aX_pull (3 * m + i) (nI v)) := by
  obtain ⟨hn, n1, n2, hp, hg, hr⟩ := hM
  obtain ⟨hW8, w1, w2, hh, ht⟩ := hW
  obtain ⟨p1, u, hu, p2⟩ := hp (3 * m + i) (by omega)
  obtain ⟨q1, v, hv, q2⟩ := hh (3 * w + i) (by omega)
  refine ⟨near u v, near_le hu hv, ?_, ?_⟩
  · rw [fX10_pass_b3, if_neg (fun z => absurd ((nLe (by omega) (by omega)).mp z) (by omega))]
    unfold fX9_hand fX6_pull
    rw [nM, nA, nM, nA, ldA_n (by omega) (by omega), p2, bO_s, ldA_n (by omega) (by omega), q2, bO_s, near_c (by omega) (by omega), bO_s, bnd_d, stA_n (by omega) (by omega), bnd_d, nA]
  · rw [fX11_typesOn_b2, if_neg (fun z => absurd ((nLe (by omega) (by omega)).mp z) (by omega))]
    unfold fX11_handOf
    rw [nM, nA, ldA_n (by omega) (by omega), p1, p2, nM, nA, nA, show 32 + 3 * w + i = 32 + (3 * w + i) by omega, ldA_n (by omega) (by omega), q1, q2, bO_s, near_x (by omega) (by omega), bO_s, stA_n (by omega) (by omega), bnd_d, nA]
/-- one letter: what goes over on both sides -/
theorem pass_both {k n W w m : Nat} {c x : mS} (hk : k ≤ 1) (hM : rM k n c x) (hW : rW W c x) (hw : w < W) (hm : m < n) : ∃ v0 v1 v2 a c' x', v0 ≤ 12 ∧ v1 ≤ 12 ∧ v2 ≤ 12 ∧ a ≤ 99 ∧ fX10_pass k (nI w) (nI m) c = some c' ∧ fX11_typesOn (nI w) (nI m) x = some x' ∧ c' = pA (pA (pA (pA c (aM_pulls k) (3 * m) (nI v0)) (aM_pulls k) (3 * m + 1) (nI v1)) (aM_pulls k) (3 * m + 2) (nI v2)) (aM_ages k) m (nI a) ∧ x' = pA (pA (pA (pA x aX_pull (3 * m) (nI v0)) aX_pull (3 * m + 1) (nI v1)) aX_pull (3 * m + 2) (nI v2)) aX_age m (nI a) ∧ rM k n c' x' ∧ rW W c' x' := by
  have hn := hM.1
  have j0 : aM_pulls k ≠ 9 ∧ aM_pulls k ≠ 10 := by show 0 + 3 * k ≠ 9 ∧ 0 + 3 * k ≠ 10; omega
  have j1 : aM_ages k ≠ 9 ∧ aM_ages k ≠ 10 := by show 2 + 3 * k ≠ 9 ∧ 2 + 3 * k ≠ 10; omega
  unfold fX10_pass fX11_typesOn
  rw [bnd_d, bnd_d]
  obtain ⟨f, hf⟩ : ∃ f, mFu = f + 4 := ⟨5996, rfl⟩
  rw [hf]
  obtain ⟨v0, b0, c0, x0⟩ := pass_st hk hM hW hw hm (i := 0) (by omega) (f + 3)
  have M0 := hM.pull (p := 3 * m) (by omega) b0
  have W0 : rW W (pA c (aM_pulls k) (3 * m) (nI v0)) (pA x aX_pull (3 * m) (nI v0)) := hW.pA j0 (by decide)
  obtain ⟨v1, b1, c1, x1⟩ := pass_st hk M0 W0 hw hm (i := 1) (by omega) (f + 2)
  have M1 := M0.pull (p := 3 * m + 1) (by omega) b1
  have W1 := W0.pA (j := aM_pulls k) (i := aX_pull) (p := 3 * m + 1) (q := 3 * m + 1) (u := nI v1) (v := nI v1) j0 (by decide)
  obtain ⟨v2, b2, c2, x2⟩ := pass_st hk M1 W1 hw hm (i := 2) (by omega) (f + 1)
  have M2 := M1.pull (p := 3 * m + 2) (by omega) b2
  have W2 := W1.pA (j := aM_pulls k) (i := aX_pull) (p := 3 * m + 2) (q := 3 * m + 2) (u := nI v2) (v := nI v2) j0 (by decide)
  obtain ⟨g1, a, ha, g2⟩ := M2.2.2.2.2.1 m hm
  replace c0 : fX10_pass_b3 (f + 4) k (nI w) (nI m) (nI 0) c = fX10_pass_b3 (f + 2 + 1) k (nI w) (nI m) (nI 1) (pA c (aM_pulls k) (3 * m) (nI v0)) := c0
  replace x0 : fX11_typesOn_b2 (f + 4) (nI w) (nI m) (nI 0) x = fX11_typesOn_b2 (f + 2 + 1) (nI w) (nI m) (nI 1) (pA x aX_pull (3 * m) (nI v0)) := x0
  rw [c0, c1, c2, x0, x1, x2, fX10_pass_b3, fX11_typesOn_b2, if_pos (show nI 3 ≤ nI (2 + 1) by decide), if_pos (show nI 3 ≤ nI (2 + 1) by decide), ldA_n (by omega) (by omega), ldA_n (by omega) (by omega), ldA_n (by omega) (by omega), g1, g2, stA_n (by omega) (by omega)]
  by_cases h9 : 99 ≤ a
  · obtain rfl : a = 99 := by omega
    rw [if_pos (show nI 99 ≤ nI 99 by decide), if_pos (show nI 99 < nI 99 + nI 1 by decide)]
    unfold fX11_typesOn_b65
    rw [nA, stA_n (by omega) (by omega)]
    exact ⟨v0, v1, v2, 99, _, _, b0, b1, b2, ha, rfl, rfl, rfl, rfl, M2.age (by omega) ha, W2.pA j1 (by decide)⟩
  · rw [if_neg (fun z => h9 ((nLe (by omega) (by omega)).mp z)), nA, if_neg (fun z => absurd ((nLt (by omega) (by omega)).mp z) (by omega))]
    unfold fX11_typesOn_b65
    rw [nA, stA_n (by omega) (by omega)]
    exact ⟨v0, v1, v2, a + 1, _, _, b0, b1, b2, by omega, rfl, rfl, rfl, rfl, M2.age (by omega) (by omega), W2.pA j1 (by decide)⟩
/-- the same in thought -/
theorem pass1 {n W w m : Nat} {c x : mS} (h : J 1 n W c x) (hw : w < W) (hm : m < n) : ∃ c' x', fX10_pass 1 (nI w) (nI m) c = some c' ∧ fX11_typesOn (nI w) (nI m) x = some x' ∧ smC c c' ∧ smX x x' ∧ J 1 n W c' x' ∧ (∀ i, gA c' (aM_marks 1) i = gA c (aM_marks 1) i) ∧ (∀ i, gA x' aX_hadPull i = gA x aX_hadPull i) ∧ ∀ i, 3 * n ≤ i → gA x' aX_pull i = gA x aX_pull i := by
  obtain ⟨v0, v1, v2, a, c', x', -, -, -, -, e1, e2, rfl, rfl, M, W'⟩ := pass_both (by omega) h.2.1 h.2.2 hw hm
  have s1 : smC c (pA (pA (pA (pA c (aM_pulls 1) (3 * m) (nI v0)) (aM_pulls 1) (3 * m + 1) (nI v1)) (aM_pulls 1) (3 * m + 2) (nI v2)) (aM_ages 1) m (nI a)) := ((((smC.rf c).pA (aM_pulls 1) _ _ (by decide)).pA (aM_pulls 1) _ _ (by decide)).pA (aM_pulls 1) _ _ (by decide)).pA (aM_ages 1) _ _ (by decide)
  have s2 : smX x (pA (pA (pA (pA x aX_pull (3 * m) (nI v0)) aX_pull (3 * m + 1) (nI v1)) aX_pull (3 * m + 2) (nI v2)) aX_age m (nI a)) := ((((smX.rf x).pA aX_pull _ _ (by decide)).pA aX_pull _ _ (by decide)).pA aX_pull _ _ (by decide)).pA aX_age _ _ (by decide)
  refine ⟨_, _, e1, e2, s1, s2, ⟨h.1.sm s1 s2, M, W'⟩, fun i => ?_, fun i => ?_, fun i hi => ?_⟩
  · rw [gA_ne (by decide), gA_ne (by decide), gA_ne (by decide), gA_ne (by decide)]
  · rw [gA_ne (by decide), gA_ne (by decide), gA_ne (by decide), gA_ne (by decide)]
  · rw [gA_ne (by decide), gA_eq, if_neg (by omega), gA_eq, if_neg (by omega), gA_eq, if_neg (by omega)]
/-- both begin -/
theorem begin0 {c x : mS} (h : Rel c x) : ∃ n W x', fX11_begins x = some x' ∧ smX x x' ∧ J 0 n W c x' := by
  obtain ⟨n, x', b1, b2, b3, b4⟩ := begins_both h
  obtain ⟨W, r⟩ := b3.rW
  exact ⟨n, W, x', b1, b2, b3, b4, r⟩
theorem begin1 {c x : mS} (h : Rel c x) : ∃ n W c' x', fX11_begins x = some x' ∧ fX6_copy 1 0 c = some c' ∧ smC c c' ∧ smX x x' ∧ J 1 n W c' x' := by
  obtain ⟨n, x', b1, b2, b3, b4⟩ := begins_both h
  obtain ⟨c', e1, e2, e3⟩ := copy_both b4
  obtain ⟨W, r⟩ := b3.rW
  exact ⟨n, W, c', x', b1, e1, e2, b2, h.sm e2 b2, e3, r.keep e2 (smX.rf x')⟩
