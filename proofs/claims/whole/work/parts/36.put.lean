theorem gL_ne {s : mS} {k m j i : Nat} {v : Int64} (h : j ≠ k) : gL (pL s k m v) j i = gL s j i := by rw [gL_pL, if_neg (fun z => h z.1)]
theorem gL_eq {s : mS} {k m i : Nat} {v : Int64} : gL (pL s k m v) k i = if i = m then v else gL s k i := by
  rw [gL_pL]
  by_cases h : i = m
  · rw [if_pos ⟨rfl, h⟩, if_pos h]
  · rw [if_neg (fun z => h z.2), if_neg h]
theorem gA_ne {s : mS} {k m j i : Nat} {v : Int32} (h : j ≠ k) : gA (pA s k m v) j i = gA s j i := by rw [gA_pA, if_neg (fun z => h z.1)]
theorem gA_eq {s : mS} {k m i : Nat} {v : Int32} : gA (pA s k m v) k i = if i = m then v else gA s k i := by
  rw [gA_pA]
  by_cases h : i = m
  · rw [if_pos ⟨rfl, h⟩, if_pos h]
  · rw [if_neg (fun z => h z.2), if_neg h]
theorem gI_ne {s : mS} {k j : Nat} {v : Int32} (h : j ≠ k) : gI (pI s k v) j = gI s j := by rw [gI_pI, if_neg h]
theorem gI_eq {s : mS} {k : Nat} {v : Int32} : gI (pI s k v) k = v := by rw [gI_pI, if_pos rfl]
theorem low_sort (c x : mS) (j t : Nat) (v : Int64) (ht : t ≤ 4) (hs : gI c (iS_sort j) = nI t) : ∃ r, fX7_lowest j v c = some r ∧ fX11_asSort (nI t) v x = some r ∧ (t ≤ 1 → ∃ w : Int32, r = w.toInt64) := by
  unfold fX7_lowest fX11_asSort
  rw [hs]
  rcases (show t = 0 ∨ t = 1 ∨ t = 2 ∨ t = 3 ∨ t = 4 by omega) with rfl | rfl | rfl | rfl | rfl
  · rw [if_pos rfl, if_pos nI_0]
    exact ⟨_, rfl, rfl, fun _ => ⟨_, rfl⟩⟩
  · rw [if_neg (show ¬ nI 1 = nI 0 by decide), if_pos rfl, if_neg (show ¬ nI 1 = 0 by decide), if_pos rfl]
    exact ⟨_, rfl, rfl, fun _ => ⟨_, rfl⟩⟩
  · rw [if_neg (show ¬ nI 2 = nI 0 by decide), if_neg (show ¬ nI 2 = nI 1 by decide), if_pos rfl, if_neg (show ¬ nI 2 = 0 by decide), if_neg (show ¬ nI 2 = nI 1 by decide), if_pos rfl]
    exact ⟨_, rfl, rfl, fun z => absurd z (by omega)⟩
  · rw [if_neg (show ¬ nI 3 = nI 0 by decide), if_neg (show ¬ nI 3 = nI 1 by decide), if_neg (show ¬ nI 3 = nI 2 by decide), if_pos rfl, if_neg (show ¬ nI 3 = 0 by decide), if_neg (show ¬ nI 3 = nI 1 by decide), if_neg (show ¬ nI 3 = nI 2 by decide), if_neg (show ¬ nI 3 = nI 4 by decide)]
    exact ⟨_, rfl, rfl, fun z => absurd z (by omega)⟩
  · rw [if_neg (show ¬ nI 4 = nI 0 by decide), if_neg (show ¬ nI 4 = nI 1 by decide), if_neg (show ¬ nI 4 = nI 2 by decide), if_neg (show ¬ nI 4 = nI 3 by decide), if_neg (show ¬ nI 4 = 0 by decide), if_neg (show ¬ nI 4 = nI 1 by decide), if_neg (show ¬ nI 4 = nI 2 by decide), if_pos rfl]
    by_cases hv : lg_cmp v 0 = 0
    · rw [if_pos hv]; exact ⟨_, rfl, rfl, fun z => absurd z (by omega)⟩
    · rw [if_neg hv]; exact ⟨_, rfl, rfl, fun z => absurd z (by omega)⟩
/-- rows of cells alone change -/
theorem rS.cells {c x d y : mS} (h : rS c x) (hI : ∀ k, gI d k = gI c k) (hB : ∀ k i, gA y k i = gA x k i) (hL : ∀ j, j < 6 → ∀ i, i < 60 → gL y lX_items (60 * j + i) = gL d (lS_cells j) i) (hR : ∀ j t, j < 6 → t ≤ 1 → gI c (iS_sort j) = nI t → ∀ i, i < 60 → ∃ v : Int32, gL d (lS_cells j) i = v.toInt64) : rS d y := by
  intro j hj
  obtain ⟨s1, s2, s3⟩ := h j hj
  unfold rS1
  rw [hI, hI, hI, hI, hB, hB]
  refine ⟨s1, hL j hj, ?_⟩
  rcases s3 with s3 | s3 | ⟨t, ht, q1, q2, q3, q4⟩
  · exact Or.inl s3
  · exact Or.inr (Or.inl s3)
  · exact Or.inr (Or.inr ⟨t, ht, q1, q2, q3, fun h1 => hR j t hj h1 q1⟩)
theorem z_put {c x : mS} (h : Rel c x) (a i : Int32) (v : Int64) : same (fX10_put a i v c) (fX11_put a i v x) := by
  obtain ⟨w, w1, w2, w3⟩ := f_cellRefusal h a i
  unfold fX10_put fX11_put fX11_put_b37
  rw [w1, w2, bO_s, bO_s, bnd_d, bnd_d]
  by_cases hw : w = 0
  · rw [if_pos hw, if_pos hw]
    obtain ⟨j, t, m, k, hj, rfl, ht, q1, q2, hm, q3, hk, rfl⟩ := w3 hw
    obtain ⟨r, r1, r2, r3⟩ := low_sort c x j t v ht q1
    rw [ldS_n hj (by omega), ldS_n hj (by omega), r1, bO_s, stL_n (by omega) (by omega), ldA_n hj (by omega), q2, nSb (show 50 ≤ 50 + t by omega), show 50 + t - 50 = t by omega, r2, bO_s, nM, nA, stL_n (by omega) (by omega), if_pos hw]
    refine ⟨nI 1, _, _, rfl, rfl, h.shelf (fun _ _ => rfl) (fun _ _ => rfl) (fun _ => rfl) (fun _ _ _ _ => rfl) ?_⟩
    refine h.2.2.2.2.2.2.1.cells (fun _ => rfl) (fun _ _ => rfl) (fun j' hj' q hq => ?_) (fun j' t' hj' ht' hs q hq => ?_)
    · obtain ⟨-, s2, -⟩ := h.2.2.2.2.2.2.1 j' hj'
      rw [gL_pL, gL_pL]
      by_cases e : j' = j ∧ q = k
      · rw [if_pos ⟨rfl, by rw [e.1, e.2]⟩, if_pos ⟨by rw [e.1], e.2⟩]
      · rw [if_neg (fun z => e (by have := z.2; omega)), if_neg (fun z => e ⟨by have : 0 + 1 * j' = 0 + 1 * j := z.1; omega, z.2⟩)]
        exact s2 q hq
    · obtain ⟨-, -, s3⟩ := h.2.2.2.2.2.2.1 j' hj'
      rw [gL_pL]
      by_cases e : j' = j ∧ q = k
      · rw [if_pos ⟨by rw [e.1], e.2⟩]
        refine r3 ?_
        rw [e.1, q1, nEq (by omega) (by omega)] at hs
        omega
      · rw [if_neg (fun z => e ⟨by have : 0 + 1 * j' = 0 + 1 * j := z.1; omega, z.2⟩)]
        rcases s3 with ⟨p1, -⟩ | ⟨p1, -⟩ | ⟨t2, p0, p1, p2, p3, p4⟩
        · rw [p1] at hs; exact absurd hs.symm (neg1 (by omega))
        · rw [p1] at hs; exact absurd hs.symm (neg1 (by omega))
        · rw [p1, nEq (by omega) (by omega)] at hs
          exact p4 (by omega) q hq
  · rw [if_neg hw, if_neg hw, if_neg hw]
    exact same_bad h
/-- the reference's two loops of shift -/
theorem sh1_loop (j3 i : Nat) (y3 y4 : Int32) (n : Nat) (hj : j3 < 6) (hin : i + n ≤ 60) : ∀ (m k q : Nat) (s : mS), q + m = n → m < k → ∃ s', fX11_shift_b113 k (nI j3) (nI i) y3 y4 (nI n) (nI q) s = fX11_shift_b150 mFu y3 y4 (nI n) (nI 0) s' ∧ (∀ j, gI s' j = gI s j) ∧ (∀ j r, gA s' j r = gA s j r) ∧ (∀ d, d ≠ lX_carried → ∀ r, gL s' d r = gL s d r) ∧ ∀ r, gL s' lX_carried r = if q ≤ r ∧ r < n then gL s lX_items (60 * j3 + i + r) else gL s lX_carried r := by
  intro m
  induction m with
  | zero =>
    intro k q s h1 h2
    obtain ⟨k, rfl⟩ : ∃ k', k = k' + 1 := ⟨k - 1, by omega⟩
    rw [fX11_shift_b113, if_pos ((nLe (by omega) (by omega)).mpr (by omega)), bnd_d]
    refine ⟨s, rfl, fun _ => rfl, fun _ _ => rfl, fun _ _ _ => rfl, fun r => ?_⟩
    rw [if_neg (by omega)]
  | succ m ih =>
    intro k q s h1 h2
    obtain ⟨k, rfl⟩ : ∃ k', k = k' + 1 := ⟨k - 1, by omega⟩
    rw [fX11_shift_b113, if_neg (fun z => absurd ((nLe (by omega) (by omega)).mp z) (by omega)), nM, nA, nA, ldL_n (by omega) (by omega), stL_n (by omega) (by omega), bnd_d, nA]
    obtain ⟨s', e1, e2, e3, e4, e5⟩ := ih k (q + 1) (pL s lX_carried q (gL s lX_items (60 * j3 + i + q))) (by omega) (by omega)
    refine ⟨s', e1, fun j => by rw [e2]; rfl, fun j q => by rw [e3]; rfl, fun d hd r => by rw [e4 d hd, gL_pL, if_neg (fun z => hd z.1)], fun r => ?_⟩
    rw [e5, gL_eq, gL_ne (show lX_items ≠ lX_carried by decide)]
    by_cases hr : r = q
    · rw [if_neg (show ¬ (q + 1 ≤ r ∧ r < n) by omega), if_pos hr, if_pos (show q ≤ r ∧ r < n by omega), hr]
    · by_cases hr2 : q + 1 ≤ r ∧ r < n
      · rw [if_pos hr2, if_pos (show q ≤ r ∧ r < n by omega)]
      · rw [if_neg hr2, if_neg hr, if_neg (show ¬ (q ≤ r ∧ r < n) by omega)]
theorem sh2_loop (j4 i n : Nat) (hj : j4 < 6) (hin : i + n ≤ 60) : ∀ (m k q : Nat) (s : mS), q + m = n → m < k → ∃ s', fX11_shift_b150 k (nI j4) (nI i) (nI n) (nI q) s = some (nI n, s') ∧ (∀ j, gI s' j = gI s j) ∧ (∀ j r, gA s' j r = gA s j r) ∧ ∀ r, gL s' lX_items r = if 60 * j4 + i + q ≤ r ∧ r < 60 * j4 + i + n then gL s lX_carried (r - (60 * j4 + i)) else gL s lX_items r := by
  intro m
  induction m with
  | zero =>
    intro k q s h1 h2
    obtain ⟨k, rfl⟩ : ∃ k', k = k' + 1 := ⟨k - 1, by omega⟩
    rw [fX11_shift_b150, if_pos ((nLe (by omega) (by omega)).mpr (by omega))]
    refine ⟨s, rfl, fun _ => rfl, fun _ _ => rfl, fun r => ?_⟩
    rw [if_neg (by omega)]
  | succ m ih =>
    intro k q s h1 h2
    obtain ⟨k, rfl⟩ : ∃ k', k = k' + 1 := ⟨k - 1, by omega⟩
    rw [fX11_shift_b150, if_neg (fun z => absurd ((nLe (by omega) (by omega)).mp z) (by omega)), ldL_n (by omega) (by omega), nM, nA, nA, stL_n (by omega) (by omega), bnd_d, nA]
    obtain ⟨s', e1, e2, e3, e5⟩ := ih k (q + 1) (pL s lX_items (60 * j4 + i + q) (gL s lX_carried q)) (by omega) (by omega)
    refine ⟨s', e1, fun j => by rw [e2]; rfl, fun j q => by rw [e3]; rfl, fun r => ?_⟩
    rw [e5, gL_eq, gL_ne (show lX_carried ≠ lX_items by decide)]
    by_cases hr : r = 60 * j4 + i + q
    · rw [if_neg (show ¬ (60 * j4 + i + (q + 1) ≤ r ∧ r < 60 * j4 + i + n) by omega), if_pos hr, if_pos (show 60 * j4 + i + q ≤ r ∧ r < 60 * j4 + i + n by omega), show r - (60 * j4 + i) = q by omega]
    · by_cases hr2 : 60 * j4 + i + (q + 1) ≤ r ∧ r < 60 * j4 + i + n
      · rw [if_pos hr2, if_pos (show 60 * j4 + i + q ≤ r ∧ r < 60 * j4 + i + n by omega)]
      · rw [if_neg hr2, if_neg hr, if_neg (show ¬ (60 * j4 + i + q ≤ r ∧ r < 60 * j4 + i + n) by omega)]
theorem f_hasSpan (k : Nat) (a b : Int32) (s : mS) : fX7_hasSpan k a b s = some (b01 (a < 0 ∨ b < 0 ∨ gI s (iS_size k) < b ∨ gI s (iS_size k) - b < a)) := by
  unfold fX7_hasSpan b01
  by_cases h1 : a < 0
  · rw [if_pos h1, if_pos (Or.inl h1)]; rfl
  · by_cases h2 : b < 0
    · rw [if_neg h1, if_pos h2, if_pos (Or.inr (Or.inl h2))]; rfl
    · by_cases h3 : gI s (iS_size k) < b
      · rw [if_neg h1, if_neg h2, if_pos h3, if_pos (Or.inr (Or.inr (Or.inl h3)))]; rfl
      · by_cases h4 : gI s (iS_size k) - b < a
        · rw [if_neg h1, if_neg h2, if_neg h3, if_pos h4, if_pos (Or.inr (Or.inr (Or.inr h4)))]; rfl
        · rw [if_neg h1, if_neg h2, if_neg h3, if_neg h4, if_neg (nor h1 (nor h2 (nor h3 h4)))]; rfl
/-- what both sides see of a shelf -/
theorem sh_see {c x : mS} (h : Rel c x) {j : Nat} (hj : j < 6) : ∃ e : Bool, ∃ g : Nat, (gI c (iS_sort j) = -1 ∧ gI c (iS_ghost j) = -1 ∧ gA x aX_shelf j = -1) ∨ (g < 50 ∧ gI c (iS_sort j) = -1 ∧ ¬ gI c (iS_ghost j) = -1 ∧ gA x aX_shelf j = nI g) ∨ (g ≤ 4 ∧ gI c (iS_sort j) = nI g ∧ gA x aX_shelf j = nI (50 + g)) := by
  obtain ⟨-, -, s3⟩ := h.2.2.2.2.2.2.1 j hj
  rcases s3 with s3 | ⟨q1, n, g, q2, q3, q4, q5, q6⟩ | ⟨t, ht, q1, q2, q3, -⟩
  · exact ⟨true, 0, Or.inl s3⟩
  · exact ⟨true, g, Or.inr (Or.inl ⟨by omega, q1, by rw [q5]; exact neg1 (by omega), q6⟩)⟩
  · exact ⟨true, t, Or.inr (Or.inr ⟨ht, q1, q3⟩)⟩
theorem z_shift {c x : mS} (h : Rel c x) (a i b k n : Int32) : same (fX10_shift a i b k n c) (fX11_shift a i b k n x) := by
  unfold fX10_shift fX11_shift
  rw [f_isShelf, f_isShelfX, bO_s, bO_s, b01_z, b01_z]
  by_cases ha : a < 0 ∨ nI 6 ≤ a
  · rw [if_pos ha, if_pos ha]; exact same_bad h
  rw [if_neg ha, if_neg ha, f_isShelf, f_isShelfX, bO_s, bO_s, b01_z, b01_z]
  by_cases hb : b < 0 ∨ nI 6 ≤ b
  · rw [if_pos hb, if_pos hb]; exact same_bad h
  rw [if_neg hb, if_neg hb]
  obtain ⟨j, hj, rfl⟩ := sh_in ha
  obtain ⟨l, hl, rfl⟩ := sh_in hb
  rw [ldS_n hj (by omega), ldS_n hl (by omega), ldA_n hj (by omega), f_isEmpty, bO_s, b01_z]
  obtain ⟨-, g, p⟩ := sh_see h hj
  obtain ⟨-, g', p'⟩ := sh_see h hl
  rcases p with ⟨p1, p2, p3⟩ | p
  · rw [if_neg (fun z => z ⟨p1, p2⟩), p3, if_pos (show (-1 : Int32) < 0 by decide)]; exact same_bad h
  have q1 : ¬ (gI c (iS_sort j) = -1 ∧ gI c (iS_ghost j) = -1) ∧ ¬ gA x aX_shelf j < 0 := by
    rcases p with ⟨p0, p1, p2, p3⟩ | ⟨p0, p1, p2⟩
    · exact ⟨fun z => p2 z.2, by rw [p3]; exact nNeg (by omega)⟩
    · exact ⟨fun z => neg1 (k := g) (by omega) (by rw [← p1]; exact z.1), by rw [p2]; exact nNeg (by omega)⟩
  rw [if_pos q1.1, if_neg q1.2, f_isEmpty, bO_s, b01_z, ldA_n hl (by omega)]
  rcases p' with ⟨p1, p2, p3⟩ | p'
  · rw [if_neg (fun z => z ⟨p1, p2⟩), p3, if_neg (show ¬ (0 : Int32) ≤ -1 by decide)]; exact same_bad h
  have q2 : ¬ (gI c (iS_sort l) = -1 ∧ gI c (iS_ghost l) = -1) ∧ 0 ≤ gA x aX_shelf l := by
    rcases p' with ⟨p0, p1, p2, p3⟩ | ⟨p0, p1, p2⟩
    · exact ⟨fun z => p2 z.2, by rw [p3]; exact nI_pos' (by omega)⟩
    · exact ⟨fun z => neg1 (k := g') (by omega) (by rw [← p1]; exact z.1), by rw [p2]; exact nI_pos' (by omega)⟩
  rw [if_pos q2.1, if_pos q2.2, f_isRow, bO_s, b01_z, ldA_n hj (by omega)]
  rcases p with ⟨p0, p1, p2, p3⟩ | ⟨p0, p1, p2⟩
  · rw [if_pos p1, p3, if_pos ((nLt (a := g) (b := 50) (by omega) (by omega)).mpr p0)]; exact same_bad h
  rw [if_neg (by rw [p1]; exact neg1 (by omega)), p2, if_neg (fun z => absurd ((nLt (a := 50 + g) (b := 50) (by omega) (by omega)).mp z) (by omega)), f_isRowOf, bO_s, b01_z, ldA_n hj (by omega), ldA_n hl (by omega), p1, p2]
  have q3 : gI c (iS_sort l) = nI g ↔ nI (50 + g) = gA x aX_shelf l := by
    rcases p' with ⟨r0, r1, r2, r3⟩ | ⟨r0, r1, r2⟩
    · rw [r1, r3]
      refine ⟨fun z => absurd z.symm (neg1 (by omega)), fun z => ?_⟩
      rw [nEq (by omega) (by omega)] at z
      omega
    · rw [r1, r2, nEq (by omega) (by omega), nEq (by omega) (by omega)]
      omega
  by_cases hs : gI c (iS_sort l) = nI g
  · rw [if_neg (fun z => z hs), if_pos (q3.mp hs), f_hasSpan, bO_s, b01_z]
    obtain ⟨⟨m, hm, m1, m2⟩, s2, s3⟩ := h.2.2.2.2.2.2.1 j hj
    obtain ⟨⟨m', hm', m1', m2'⟩, s2', s3'⟩ := h.2.2.2.2.2.2.1 l hl
    rw [m1]
    by_cases hn : n < 0
    · rw [if_pos (Or.inr (Or.inl hn)), if_pos hn]; exact same_bad h
    rw [if_neg hn]
    by_cases hi : i < 0
    · rw [if_pos (Or.inl hi), if_pos hi]; exact same_bad h
    rw [if_neg hi]
    by_cases hk : k < 0
    · rw [if_pos hk, f_hasSpan, bO_s, b01_z, if_pos (Or.inl hk)]
      split <;> exact same_bad h
    rw [if_neg hk, ldA_n hj (by omega), m2]
    obtain ⟨n1, n2⟩ := nOf hn
    obtain ⟨i1, i2⟩ := nOf hi
    obtain ⟨k1, k2⟩ := nOf hk
    generalize n.toNatClampNeg = N at n1 n2
    generalize i.toNatClampNeg = I at i1 i2
    generalize k.toNatClampNeg = K at k1 k2
    subst n1
    subst i1
    subst k1
    have t1 : ∀ {u w : Nat}, u ≤ 60 → w < 2147483648 → ((nI u < nI N ∨ nI u - nI N < nI w) ↔ u < N + w) ∧ (nI u - nI N < nI w ↔ u < N + w) := by
      intro u w hu hw
      by_cases huN : N ≤ u
      · rw [nLt (by omega) n2, nSb huN, nLt (by omega) hw]
        omega
      · have e1 : nI u < nI N := (nLt (by omega) n2).mpr (by omega)
        have e2 : nI u - nI N < nI w := by
          rw [Int32.lt_iff_toInt_lt, nI_toInt hw, Int32.toInt_sub, nI_toInt (by omega), nI_toInt n2, Int.bmod_eq_of_le (by omega) (by omega)]
          omega
        exact ⟨⟨fun _ => by omega, fun _ => Or.inl e1⟩, ⟨fun _ => by omega, fun _ => e2⟩⟩
    by_cases c1 : m < N + I
    · rw [if_pos (Or.inr (Or.inr ((t1 hm i2).1.mpr c1))), if_pos ((t1 hm i2).2.mpr c1)]; exact same_bad h
    rw [if_neg (nor hi (nor hn (fun z => c1 ((t1 hm i2).1.mp z)))), if_neg (fun z => c1 ((t1 hm i2).2.mp z)), f_hasSpan, bO_s, b01_z, m1', ldA_n hl (by omega), m2']
    by_cases c2 : m' < N + K
    · rw [if_pos (Or.inr (Or.inr ((t1 hm' k2).1.mpr c2))), if_neg (Int32.not_le.mpr ((t1 hm' k2).2.mpr c2))]; exact same_bad h
    rw [if_neg (nor hk (nor hn (fun z => c2 ((t1 hm' k2).1.mp z)))), if_pos (Int32.not_lt.mp (fun z => c2 ((t1 hm' k2).2.mp z))), bnd_d, cpL_n (by omega) (by omega) (by omega) (by omega)]
    obtain ⟨x1, e1, e2, e3, e4, e5⟩ := sh1_loop j I (nI l) (nI K) N hj (by omega) N mFu 0 x (by omega) (by show N < 6000; omega)
    obtain ⟨x2, f1, f2, f3, f4⟩ := sh2_loop l K N hl (by omega) N mFu 0 x1 (by omega) (by show N < 6000; omega)
    rw [e1, f1]
    refine ⟨nI N, _, _, rfl, rfl, h.shelf (fun _ _ => rfl) (fun _ _ => rfl) (fun k => by rw [f2, e2]) (fun k _ _ i => by rw [f3, e3]) ?_⟩
    have hd : ∀ q r, gL (wL c (lS_cells l) (va_cpy (c.2.2 (lS_cells j)) (c.2.2 (lS_cells l)) I K N)) q r = if q = lS_cells l then (if K ≤ r ∧ r < K + N then gL c (lS_cells j) (I + (r - K)) else gL c (lS_cells l) r) else gL c q r := by
      intro q r
      rw [gL_wL]
      rfl
    refine h.2.2.2.2.2.2.1.cells (fun _ => rfl) (fun k i => by rw [f3, e3]) (fun j' hj' q hq => ?_) (fun j' t' hj' ht' hs' q hq => ?_)
    · obtain ⟨-, u2, -⟩ := h.2.2.2.2.2.2.1 j' hj'
      rw [f4, e4 _ (show lX_items ≠ lX_carried by decide), hd]
      by_cases ej : j' = l
      · subst ej
        rw [if_pos rfl]
        by_cases er : K ≤ q ∧ q < K + N
        · rw [if_pos (show 60 * j' + K + 0 ≤ 60 * j' + q ∧ 60 * j' + q < 60 * j' + K + N by omega), if_pos er, e5, if_pos (by omega), show 60 * j + I + (60 * j' + q - (60 * j' + K)) = 60 * j + (I + (q - K)) by omega]
          exact s2 _ (by omega)
        · rw [if_neg (show ¬ (60 * j' + K + 0 ≤ 60 * j' + q ∧ 60 * j' + q < 60 * j' + K + N) by omega), if_neg er]
          exact u2 q hq
      · rw [if_neg (show ¬ lS_cells j' = lS_cells l from fun z => ej (by have : 0 + 1 * j' = 0 + 1 * l := z; omega)), if_neg (show ¬ (60 * l + K + 0 ≤ 60 * j' + q ∧ 60 * j' + q < 60 * l + K + N) by omega)]
        exact u2 q hq
    · have rng : ∀ j' t', j' < 6 → t' ≤ 1 → gI c (iS_sort j') = nI t' → ∀ q, q < 60 → ∃ v : Int32, gL c (lS_cells j') q = v.toInt64 := by
        intro j' t' hj' ht' hs' q hq
        obtain ⟨-, -, s3⟩ := h.2.2.2.2.2.2.1 j' hj'
        rcases s3 with ⟨p1, -⟩ | ⟨p1, -⟩ | ⟨t2, p0, p1, p2, p3, p4⟩
        · rw [p1] at hs'; exact absurd hs'.symm (neg1 (by omega))
        · rw [p1] at hs'; exact absurd hs'.symm (neg1 (by omega))
        · rw [p1, nEq (by omega) (by omega)] at hs'
          exact p4 (by omega) q hq
      rw [hd]
      by_cases ej : j' = l
      · subst ej
        rw [if_pos rfl]
        by_cases er : K ≤ q ∧ q < K + N
        · rw [if_pos er]
          refine rng j t' hj ht' ?_ _ (by omega)
          rw [p1, ← hs, hs']
        · rw [if_neg er]
          exact rng j' t' hj' ht' hs' q hq
      · rw [if_neg (show ¬ lS_cells j' = lS_cells l from fun z => ej (by have : 0 + 1 * j' = 0 + 1 * l := z; omega))]
        exact rng j' t' hj' ht' hs' q hq
  · rw [if_pos hs, if_neg (fun z => hs (q3.mpr z))]; exact same_bad h
