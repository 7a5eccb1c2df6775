theorem fill_loop (n d : Nat) (v : Int64) (hn : n < 2147483648) : ∀ (m k i : Nat) (s : mS), i + m = n → m < k → ∃ s', fJ7_fill_d0a16_b6 n d k v (nI i) (nI n) s = some s' ∧ (∀ j, gI s' j = gI s j) ∧ (∀ j q, gA s' j q = gA s j q) ∧ ∀ j q, gL s' j q = if j = d ∧ i ≤ q ∧ q < n then v else gL s j q := by
  intro m
  induction m with
  | zero =>
    intro k i s h1 h2
    obtain ⟨k, rfl⟩ : ∃ k', k = k' + 1 := ⟨k - 1, by omega⟩
    rw [fJ7_fill_d0a16_b6, if_pos ((nLe (by omega) (by omega)).mpr (by omega))]
    refine ⟨s, rfl, fun _ => rfl, fun _ _ => rfl, fun j q => ?_⟩
    rw [if_neg (by omega)]
  | succ m ih =>
    intro k i s h1 h2
    obtain ⟨k, rfl⟩ : ∃ k', k = k' + 1 := ⟨k - 1, by omega⟩
    rw [fJ7_fill_d0a16_b6, if_neg (fun z => absurd ((nLe (by omega) (by omega)).mp z) (by omega)), stL_n (by omega) hn, bnd_d, nA]
    obtain ⟨s', e1, e2, e3, e4⟩ := ih k (i + 1) (pL s d i v) (by omega) (by omega)
    refine ⟨s', e1, fun j => by rw [e2]; rfl, fun j q => by rw [e3]; rfl, fun j q => ?_⟩
    rw [e4, gL_pL]
    by_cases hj : j = d
    · by_cases hq : q = i
      · rw [if_neg (by omega), if_pos ⟨hj, hq⟩, if_pos (by omega)]
      · by_cases hr : i + 1 ≤ q ∧ q < n
        · rw [if_pos ⟨hj, hr⟩, if_pos (by omega)]
        · rw [if_neg (fun z => hr z.2), if_neg (fun z => hq z.2), if_neg (by omega)]
    · rw [if_neg (fun z => hj z.1), if_neg (fun z => hj z.1), if_neg (fun z => hj z.1)]
theorem fillJ (n d : Nat) (v : Int64) (hn : n ≤ 5000) (s : mS) : ∃ s', fJ7_fill_d0a16 n d v s = some s' ∧ (∀ j, gI s' j = gI s j) ∧ (∀ j q, gA s' j q = gA s j q) ∧ ∀ j q, gL s' j q = if j = d ∧ q < n then v else gL s j q := by
  unfold fJ7_fill_d0a16
  rw [bnd_d, bnd_d]
  obtain ⟨s', e1, e2, e3, e4⟩ := fill_loop n d v (by omega) n mFu 0 s (by omega) (by show n < 6000; omega)
  refine ⟨s', e1, e2, e3, fun j q => ?_⟩
  rw [e4]
  by_cases hj : j = d ∧ q < n
  · rw [if_pos hj, if_pos ⟨hj.1, by omega, hj.2⟩]
  · rw [if_neg hj, if_neg (fun z => hj ⟨z.1, z.2.2⟩)]
theorem rowX_loop (j : Nat) (hj : j < 6) : ∀ (m k i : Nat) (s : mS), i + m = 60 → m < k → ∃ s', fX11_row_b57 k (nI j) (nI (60 * j + i)) s = some (nI 1, s') ∧ (∀ j, gI s' j = gI s j) ∧ (∀ j q, gA s' j q = gA s j q) ∧ ∀ d q, gL s' d q = if d = lX_items ∧ 60 * j + i ≤ q ∧ q < 60 * j + 60 then 0 else gL s d q := by
  intro m
  induction m with
  | zero =>
    intro k i s h1 h2
    obtain ⟨k, rfl⟩ : ∃ k', k = k' + 1 := ⟨k - 1, by omega⟩
    rw [fX11_row_b57, nM, nA, if_pos ((nLe (by omega) (by omega)).mpr (by omega))]
    refine ⟨s, rfl, fun _ => rfl, fun _ _ => rfl, fun d q => ?_⟩
    rw [if_neg (by omega)]
  | succ m ih =>
    intro k i s h1 h2
    obtain ⟨k, rfl⟩ : ∃ k', k = k' + 1 := ⟨k - 1, by omega⟩
    rw [fX11_row_b57, nM, nA, if_neg (fun z => absurd ((nLe (by omega) (by omega)).mp z) (by omega)), stL_n (by omega) (by omega), bnd_d, nA]
    obtain ⟨s', e1, e2, e3, e4⟩ := ih k (i + 1) (pL s lX_items (60 * j + i) 0) (by omega) (by omega)
    refine ⟨s', e1, fun j => by rw [e2]; rfl, fun j q => by rw [e3]; rfl, fun d q => ?_⟩
    rw [e4, gL_pL]
    by_cases hd : d = lX_items
    · by_cases hq : q = 60 * j + i
      · rw [if_neg (by omega), if_pos ⟨hd, hq⟩, if_pos (by omega)]
      · by_cases hr : 60 * j + (i + 1) ≤ q ∧ q < 60 * j + 60
        · rw [if_pos ⟨hd, hr⟩, if_pos (by omega)]
        · rw [if_neg (fun z => hr z.2), if_neg (fun z => hq z.2), if_neg (by omega)]
    · rw [if_neg (fun z => hd z.1), if_neg (fun z => hd z.1), if_neg (fun z => hd z.1)]
theorem z_row {c x : mS} (h : Rel c x) (a b n : Int32) : same (fX10_row a b n c) (fX11_row a b n x) := by
  unfold fX10_row fX11_row
  rw [f_isShelf, f_isShelfX, bO_s, bO_s, b01_z, b01_z]
  by_cases ha : a < 0 ∨ nI 6 ≤ a
  · rw [if_pos ha, if_pos ha]; exact same_bad h
  · rw [if_neg ha, if_neg ha, show (0 : Int64) = Int32.toInt64 0 by decide, show (4 : Int64) = Int32.toInt64 (nI 4) by decide, f_within32, bO_s, b01_z, iteC (le_pred (n := 5) (by omega) (by omega) b), ite_or]
    obtain ⟨j, hj, rfl⟩ := sh_in ha
    by_cases hb : b < 0 ∨ nI 5 ≤ b
    · rw [if_pos hb, if_pos hb]; exact same_bad h
    · rw [if_neg hb, if_neg hb]
      obtain ⟨t, ht, rfl⟩ := nOfLt (fun z => hb (Or.inl z)) (fun z => hb (Or.inr z)) (by omega)
      by_cases h60 : n ≤ nI 60
      · rw [if_pos h60, if_pos h60]
        by_cases h0 : 0 ≤ n
        · rw [if_pos h0, if_pos h0]
          obtain ⟨m, hm, rfl⟩ := nOfLe (Int32.not_lt.mpr h0) h60 (by omega)
          rw [ldS_n hj (by omega), stA_n hj (by omega), stA_n hj (by omega), bnd_d, nM, nA]
          unfold fX7_holdRow
          obtain ⟨c1, e1, e2, e3, e4⟩ := fillJ 60 (lS_cells j) 0 (by omega) c
          obtain ⟨x1, g1, g2, g3, g4⟩ := rowX_loop j hj 60 mFu 0 (pA (pA x aX_shelf j (nI (50 + t))) aX_many j (nI m)) (by omega) (by decide)
          rw [Nat.add_zero] at g1
          rw [e1, bO_s, bnd_d, bnd_d, bnd_d, bO_s, g1]
          refine ⟨nI 1, _, _, rfl, rfl, h.shelf (fun k hk => ?_) (fun k i => ?_) (fun k => ?_) (fun k k1 k2 i => ?_) (fun i hi => ?_)⟩
          · rw [gI_pI, if_neg (show k ≠ 20 + 3 * j by omega), gI_pI, if_neg (show k ≠ 19 + 3 * j by omega), gI_pI, if_neg (show k ≠ 18 + 3 * j by omega), e2]
          · show gA c1 k i = gA c k i
            exact e3 k i
          · rw [g2]; rfl
          · rw [g3, gA_pA, if_neg (fun z => k2 z.1), gA_pA, if_neg (fun z => k1 z.1)]
          · have hI : ∀ k, k ≠ iS_sort j → k ≠ iS_size j → k ≠ iS_ghost j → gI (pI (pI (pI c1 (iS_sort j) (nI t)) (iS_size j) (nI m)) (iS_ghost j) (-1)) k = gI c k := fun k k1 k2 k3 => by rw [gI_pI, if_neg k3, gI_pI, if_neg k2, gI_pI, if_neg k1, e2]
            have hL : ∀ q i, gL (pI (pI (pI c1 (iS_sort j) (nI t)) (iS_size j) (nI m)) (iS_ghost j) (-1)) q i = if q = lS_cells j ∧ i < 60 then 0 else gL c q i := fun q i => e4 q i
            obtain ⟨s1, s2, s3⟩ := h.2.2.2.2.2.2.1 i hi
            by_cases hij : i = j
            · subst hij
              have f1 : gI (pI (pI (pI c1 (iS_sort i) (nI t)) (iS_size i) (nI m)) (iS_ghost i) (-1)) (iS_sort i) = nI t := by rw [gI_pI, if_neg (show 18 + 3 * i ≠ 20 + 3 * i by omega), gI_pI, if_neg (show 18 + 3 * i ≠ 19 + 3 * i by omega), gI_pI, if_pos rfl]
              have f2 : gI (pI (pI (pI c1 (iS_sort i) (nI t)) (iS_size i) (nI m)) (iS_ghost i) (-1)) (iS_size i) = nI m := by rw [gI_pI, if_neg (show 19 + 3 * i ≠ 20 + 3 * i by omega), gI_pI, if_pos rfl]
              have f3 : gI (pI (pI (pI c1 (iS_sort i) (nI t)) (iS_size i) (nI m)) (iS_ghost i) (-1)) (iS_ghost i) = -1 := by rw [gI_pI, if_pos rfl]
              unfold rS1
              rw [f1, f2, f3, g3, gA_pA, if_pos ⟨rfl, rfl⟩, g3, gA_pA, if_neg (fun z => absurd z.1 (by decide)), gA_pA, if_pos ⟨rfl, rfl⟩]
              refine ⟨⟨m, by omega, rfl, rfl⟩, fun q hq => ?_, Or.inr (Or.inr ⟨t, by omega, rfl, rfl, rfl, fun _ q hq => ⟨0, ?_⟩⟩)⟩
              · rw [g4, if_pos ⟨rfl, by omega, by omega⟩, hL, if_pos ⟨rfl, hq⟩]
              · rw [hL, if_pos ⟨rfl, hq⟩]
                decide
            · have hL2 : ∀ q, gL (pI (pI (pI c1 (iS_sort j) (nI t)) (iS_size j) (nI m)) (iS_ghost j) (-1)) (lS_cells i) q = gL c (lS_cells i) q := fun q => by rw [hL, if_neg (fun z => hij (by have : 0 + 1 * i = 0 + 1 * j := z.1; omega))]
              have hL3 : gL (pI (pI (pI c1 (iS_sort j) (nI t)) (iS_size j) (nI m)) (iS_ghost j) (-1)) (lS_cells i) = gL c (lS_cells i) := funext hL2
              unfold rS1
              rw [hI (iS_size i) (show 19 + 3 * i ≠ 18 + 3 * j by omega) (show 19 + 3 * i ≠ 19 + 3 * j by omega) (show 19 + 3 * i ≠ 20 + 3 * j by omega), hI (iS_sort i) (show 18 + 3 * i ≠ 18 + 3 * j by omega) (show 18 + 3 * i ≠ 19 + 3 * j by omega) (show 18 + 3 * i ≠ 20 + 3 * j by omega), hI (iS_ghost i) (show 20 + 3 * i ≠ 18 + 3 * j by omega) (show 20 + 3 * i ≠ 19 + 3 * j by omega) (show 20 + 3 * i ≠ 20 + 3 * j by omega), hI iU_size (show 49 ≠ 18 + 3 * j by omega) (show 49 ≠ 19 + 3 * j by omega) (show 49 ≠ 20 + 3 * j by omega), hL3, g3, gA_pA, if_neg (fun z => hij z.2), gA_pA, if_neg (fun z => absurd z.1 (by decide)), g3, gA_pA, if_neg (fun z => absurd z.1 (by decide)), gA_pA, if_neg (fun z => hij z.2)]
              refine ⟨s1, fun q hq => ?_, s3⟩
              rw [g4, if_neg (fun z => by have := z.2; omega)]
              exact s2 q hq
        · rw [if_neg h0, if_neg h0]; exact same_bad h
      · rw [if_neg h60, if_neg h60]; exact same_bad h
