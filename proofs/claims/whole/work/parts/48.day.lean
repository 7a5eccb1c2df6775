theorem z_shows {c x : mS} (h : Rel c x) (a b e : Int32) : same (fX10_shows a b e c) (fX11_shows a b e x) := by
  unfold fX10_shows fX11_shows
  rcases pair_both h a with ⟨h1, h2⟩ | ⟨n, W, m, w, hn, hW, hm, hw, n1, n2, w1, w2, e1, e2, h1, h2⟩
  · rw [h1, h2, bO_s, bO_s, i00, i00]; exact same_bad h
  rw [h1, h2, bO_s, bO_s, i10, i10, e2, e1, f_win b 2 2 (by decide), bO_s, b01_z, f_win e 1 1 (by decide), bO_s, b01_z]
  by_cases hb : b < 0 ∨ nI 2 < b
  · rw [if_pos hb]
    by_cases g : b < 0
    · rw [if_pos g]; exact same_bad h
    · rw [if_neg g, if_pos (nLt_le (by omega) (hi_bad hb g))]; exact same_bad h
  rw [if_neg hb]
  obtain ⟨B, hB, rfl⟩ := lo_hi (by omega) hb
  rw [if_neg (nNeg (by omega)), if_neg (fun z => absurd ((nLe (by omega) (by omega)).mp z) (by omega))]
  by_cases he : e < 0 ∨ nI 1 < e
  · rw [if_pos he]
    by_cases g : e < 0
    · rw [if_pos g]; exact same_bad h
    · rw [if_neg g, if_neg (nLt_nle (hi_bad he g))]; exact same_bad h
  rw [if_neg he]
  obtain ⟨E, hE, rfl⟩ := lo_hi (by omega) he
  rw [if_neg (nNeg (by omega)), if_pos ((nLe (by omega) (by omega)).mpr hE)]
  obtain ⟨N, W', x', b1, b2, hJ⟩ := begin0 h
  have eN : N = n := (nEq (by have := hJ.2.1.1; omega) (by omega)).mp (hJ.2.1.2.1.symm.trans n1)
  have eW : W' = W := (nEq (by have := hJ.2.2.1; omega) (by omega)).mp (hJ.2.2.2.1.symm.trans w1)
  subst eN
  subst eW
  rw [b1, bO_s]
  by_cases g : nI E = 0
  · rw [if_pos g, if_pos g]
    obtain ⟨G, c', y, -, g1, g2, g3, g4⟩ := shown_both (by omega) hJ hw hm (h := B) (by omega)
    rw [g1, g2, bP_s, bP_s]
    exact same_bad (hJ.keep (by omega) g3 g4).1
  · rw [if_neg g, if_neg g]
    obtain ⟨G, c', y, -, g1, g2, g3, g4⟩ := grip_both (by omega) hJ hw hm (h := B) (by omega)
    rw [g1, g2, bP_s, bP_s]
    exact same_bad (hJ.keep (by omega) g3 g4).1
/-- the i-th letter of a day is one -/
def Dp (f : Nat → Int32) (m n W i : Nat) : Prop := 2 * i + 2 ≤ m ∧ ¬ (f (2 * i) < 0 ∨ nI W ≤ f (2 * i)) ∧ ¬ (f (2 * i + 1) < 0 ∨ nI n ≤ f (2 * i + 1))
theorem J.n0 {n W : Nat} {c x : mS} {k : Nat} (h : J k n W c x) : gI c (iM_size 0) = nI n := by
  obtain ⟨⟨n', hn', m1, m2⟩, -⟩ := h.1.1
  rw [m1, ← m2]
  exact h.2.1.2.2.1
theorem day_c {n W j m i k : Nat} {f : Nat → Int32} {c x : mS} (h : J k n W c x) (hr : rR j m f c x) (hi : i < 30) : (Dp f m n W i → fX10_dayHas j (nI i) c = some (nI 1)) ∧ (¬ Dp f m n W i → fX10_dayHas j (nI i) c = some (nI 0)) := by
  obtain ⟨hj, hm, r1, r2, r3⟩ := hr
  unfold fX10_dayHas Dp
  rw [nM, f_hasSpan, bO_s, b01_z, r1, nA, ldL_n (by omega) (by omega), ldL_n (by omega) (by omega), (r3 _ (by omega)).1, (r3 _ (by omega)).1, Int32.toInt32_toInt64, Int32.toInt32_toInt64, f_has9, f_has6, bO_s, b01_z, bO_s, b01_z, h.n0, h.2.2.2.1]
  by_cases g : 2 * i + 2 ≤ m
  · rw [if_neg (nor (nNeg (by omega)) (nor (nNeg (by omega)) (nor (fun z => absurd ((nLt (by omega) (by omega)).mp z) (by omega)) (fun z => by rw [nSb (by omega), nLt (by omega) (by omega)] at z; omega))))]
    by_cases g1 : f (2 * i) < 0 ∨ nI W ≤ f (2 * i)
    · rw [if_pos g1]; exact ⟨fun z => absurd g1 z.2.1, fun _ => rfl⟩
    · rw [if_neg g1]
      by_cases g2 : f (2 * i + 1) < 0 ∨ nI n ≤ f (2 * i + 1)
      · rw [if_pos g2]; exact ⟨fun z => absurd g2 z.2.2, fun _ => rfl⟩
      · rw [if_neg g2]; exact ⟨fun _ => rfl, fun z => absurd ⟨g, g1, g2⟩ z⟩
  · rw [if_pos]
    · exact ⟨fun z => absurd z.1 g, fun _ => rfl⟩
    · by_cases g1 : m < 2
      · exact Or.inr (Or.inr (Or.inl ((nLt (by omega) (by omega)).mpr g1)))
      · refine Or.inr (Or.inr (Or.inr ?_))
        rw [nSb (by omega), nLt (by omega) (by omega)]
        omega
theorem li_loop {n W j m : Nat} {f : Nat → Int32} {c x : mS} (hn : n ≤ 8) (n2 : gI x iX_machines = nI n) (hW : W ≤ 8) (w2 : gI x iX_writers = nI W) (hr : rR j m f c x) : ∀ (q k i : Nat), i + q = 30 → q < k → (∀ i', i' < i → Dp f m n W i') → ∃ L, L ≤ 30 ∧ fX11_lettersIn_b2 k (nI j) (nI i) x = some (nI L) ∧ (∀ i', i' < L → Dp f m n W i') ∧ (L < 30 → ¬ Dp f m n W L) := by
  obtain ⟨hj, hm, r1, r2, r3⟩ := hr
  intro q
  induction q with
  | zero =>
    intro k i h1 h2 h3
    obtain ⟨k, rfl⟩ : ∃ k', k = k' + 1 := ⟨k - 1, by omega⟩
    rw [fX11_lettersIn_b2, if_pos ((nLe (by omega) (by omega)).mpr (by omega))]
    exact ⟨i, by omega, rfl, h3, by omega⟩
  | succ q ih =>
    intro k i h1 h2 h3
    obtain ⟨k, rfl⟩ : ∃ k', k = k' + 1 := ⟨k - 1, by omega⟩
    rw [fX11_lettersIn_b2, if_neg (fun z => absurd ((nLe (by omega) (by omega)).mp z) (by omega)), ldA_n hj (by omega), r2, nM, nA]
    by_cases g : 2 * i + 2 ≤ m
    · rw [if_neg (fun z => absurd ((nLe (by omega) (by omega)).mp z) (by omega)), nM, nA, nA, ldL_n (by omega) (by omega), ldL_n (by omega) (by omega), (r3 _ (by omega)).2, show 60 * j + 2 * i + 1 = 60 * j + (2 * i + 1) by omega, (r3 _ (by omega)).2, f_isWriter hW w2, f_isMachine hn n2, bO_s, bO_s, b01_z, b01_z]
      by_cases g1 : f (2 * i) < 0 ∨ nI W ≤ f (2 * i)
      · rw [if_pos g1]; exact ⟨i, by omega, rfl, h3, fun _ z => z.2.1 g1⟩
      · rw [if_neg g1]
        by_cases g2 : f (2 * i + 1) < 0 ∨ nI n ≤ f (2 * i + 1)
        · rw [if_pos g2]; exact ⟨i, by omega, rfl, h3, fun _ z => z.2.2 g2⟩
        · rw [if_neg g2, bnd_d, nA]
          refine ih k (i + 1) (by omega) (by omega) (fun i' hi' => ?_)
          by_cases e : i' = i
          · subst e; exact ⟨g, g1, g2⟩
          · exact h3 i' (by omega)
    · rw [if_pos ((nLe (by omega) (by omega)).mpr (by omega))]
      exact ⟨i, by omega, rfl, h3, fun _ z => g z.1⟩
theorem li_both {n W j m : Nat} {f : Nat → Int32} {c x : mS} (hn : n ≤ 8) (n2 : gI x iX_machines = nI n) (hW : W ≤ 8) (w2 : gI x iX_writers = nI W) (hr : rR j m f c x) : ∃ L, L ≤ 30 ∧ fX11_lettersIn (nI j) x = some (nI L) ∧ (∀ i', i' < L → Dp f m n W i') ∧ (L < 30 → ¬ Dp f m n W L) := by
  unfold fX11_lettersIn
  rw [bnd_d]
  exact li_loop hn n2 hW w2 hr 30 mFu 0 (by omega) (by decide) (fun i hi => absurd hi (by omega))
/-- what a day's letters keep -/
def dayK (n : Nat) (c x d y : mS) : Prop := smC c d ∧ smX x y ∧ (∀ i, gA d (aM_marks 1) i = gA c (aM_marks 1) i) ∧ (∀ i, gA y aX_hadPull i = gA x aX_hadPull i) ∧ ∀ i, 3 * n ≤ i → gA y aX_pull i = gA x aX_pull i
theorem dayK.rf (n : Nat) (c x : mS) : dayK n c x c x := ⟨smC.rf c, smX.rf x, fun _ => rfl, fun _ => rfl, fun _ _ => rfl⟩
theorem dayK.tr {n : Nat} {c x d y e z : mS} (h : dayK n c x d y) (g : dayK n d y e z) : dayK n c x e z := ⟨h.1.tr g.1, h.2.1.tr g.2.1, fun i => (g.2.2.1 i).trans (h.2.2.1 i), fun i => (g.2.2.2.1 i).trans (h.2.2.2.1 i), fun i hi => (g.2.2.2.2 i hi).trans (h.2.2.2.2 i hi)⟩
theorem day_st {n W j m i : Nat} {f : Nat → Int32} {c x : mS} (h : J 1 n W c x) (hr : rR j m f c x) (hi : i < 30) (hd : Dp f m n W i) : ∃ d y, (∀ {β : Type} (K : mS → Option β), (ldL c (lS_cells j) 60 (nI 2 * nI i) fun v4 => ldL c (lS_cells j) 60 (nI 2 * nI i + nI 1) fun v5 => bO (fX10_pass 1 (Int64.toInt32 v4) (Int64.toInt32 v5) c) K) = K d) ∧ (∀ {β : Type} (K : mS → Option β), (ldL x lX_items 360 (nI 60 * nI j + nI 2 * nI i) fun v4 => ldL x lX_items 360 (nI 60 * nI j + nI 2 * nI i + nI 1) fun v5 => bO (fX11_typesOn (Int64.toInt32 v4) (Int64.toInt32 v5) x) K) = K y) ∧ dayK n c x d y ∧ J 1 n W d y ∧ rR j m f d y := by
  obtain ⟨hj, hm, r1, r2, r3⟩ := hr
  obtain ⟨d1, d2, d3⟩ := hd
  obtain ⟨w, hw, ew⟩ := nOfLt (fun z => d2 (Or.inl z)) (fun z => d2 (Or.inr z)) (by have := h.2.2.1; omega)
  obtain ⟨q, hq, eq⟩ := nOfLt (fun z => d3 (Or.inl z)) (fun z => d3 (Or.inr z)) (by have := h.2.1.1; omega)
  obtain ⟨c', x', p1, p2, p3, p4, p5, p6, p7, p8⟩ := pass1 h hw hq
  refine ⟨c', x', fun K => ?_, fun K => ?_, ⟨p3, p4, p6, p7, p8⟩, p5, rR.keep ⟨hj, hm, r1, r2, r3⟩ p3 p4⟩
  · rw [nM, nA, ldL_n (by omega) (by omega), ldL_n (by omega) (by omega), (r3 _ (by omega)).1, (r3 _ (by omega)).1, Int32.toInt32_toInt64, Int32.toInt32_toInt64, ew, eq, p1, bO_s]
  · rw [nM, nM, nA, nA, ldL_n (by omega) (by omega), ldL_n (by omega) (by omega), (r3 _ (by omega)).2, show 60 * j + 2 * i + 1 = 60 * j + (2 * i + 1) by omega, (r3 _ (by omega)).2, Int32.toInt32_toInt64, Int32.toInt32_toInt64, ew, eq, p2, bO_s]
theorem day_loop {n W j m B L E : Nat} {f : Nat → Int32} (hL : L ≤ 30) (hB : B ≤ 30) (hE : E = if B ≤ L then B else L) (l1 : ∀ i', i' < L → Dp f m n W i') (l2 : L < 30 → ¬ Dp f m n W L) : ∀ (q k i : Nat) (c x : mS), i + q = E → q < k → J 1 n W c x → rR j m f c x → ∃ c' x', fX10_thinkDay_b13 k j (nI B) (nI i) c = some (nI E, c') ∧ fX11_typesDay_b9 k (nI j) (nI B) (nI L) (nI i) x = some x' ∧ dayK n c x c' x' ∧ J 1 n W c' x' ∧ rR j m f c' x' := by
  have hE1 : E ≤ B ∧ E ≤ L ∧ (E = B ∨ E = L) := by
    rw [hE]
    by_cases g : B ≤ L
    · rw [if_pos g]; omega
    · rw [if_neg g]; omega
  intro q
  induction q with
  | zero =>
    intro k i c x h1 h2 h hr
    obtain ⟨k, rfl⟩ : ∃ k', k = k' + 1 := ⟨k - 1, by omega⟩
    have hi : i = E := by omega
    subst hi
    refine ⟨c, x, ?_, ?_, dayK.rf n c x, h, hr⟩
    · rw [fX10_thinkDay_b13]
      by_cases g : B ≤ i
      · rw [if_pos ((nLe (by omega) (by omega)).mpr g)]
      · rw [if_neg (fun z => g ((nLe (by omega) (by omega)).mp z)), (day_c h hr (by omega)).2 (by rw [show i = L by omega]; exact l2 (by omega)), bO_s, i00]
    · rw [fX11_typesDay_b9]
      by_cases g : B ≤ i
      · rw [if_pos ((nLe (by omega) (by omega)).mpr g)]
      · rw [if_neg (fun z => g ((nLe (by omega) (by omega)).mp z)), if_pos ((nLe (by omega) (by omega)).mpr (by omega))]
  | succ q ih =>
    intro k i c x h1 h2 h hr
    obtain ⟨k, rfl⟩ : ∃ k', k = k' + 1 := ⟨k - 1, by omega⟩
    obtain ⟨d, y, s1, s2, s3, s4, s5⟩ := day_st h hr (by omega) (l1 i (by omega))
    obtain ⟨c', x', e1, e2, e3, e4, e5⟩ := ih k (i + 1) d y (by omega) (by omega) s4 s5
    refine ⟨c', x', ?_, ?_, s3.tr e3, e4, e5⟩
    · rw [fX10_thinkDay_b13, if_neg (fun z => absurd ((nLe (by omega) (by omega)).mp z) (by omega)), (day_c h hr (by omega)).1 (l1 i (by omega)), bO_s, i10, s1, bnd_d, nA]
      exact e1
    · rw [fX11_typesDay_b9, if_neg (fun z => absurd ((nLe (by omega) (by omega)).mp z) (by omega)), if_neg (fun z => absurd ((nLe (by omega) (by omega)).mp z) (by omega)), s2, bnd_d, nA]
      exact e2
/-- a day in thought, from the beginning -/
theorem day_both {c x : mS} {j m B : Nat} {f : Nat → Int32} (h : Rel c x) (hr : rR j m f c x) (hB : B ≤ 30) : ∃ n W L E c' x0 x', E = (if B ≤ L then B else L) ∧ L ≤ 30 ∧ fX10_thinkDay j (nI B) c = some (nI E, c') ∧ fX11_lettersIn (nI j) x = some (nI L) ∧ fX11_begins x = some x0 ∧ fX11_typesDay (nI j) (nI B) x0 = some x' ∧ smC c c' ∧ smX x x' ∧ J 1 n W c' x' ∧ rR j m f c' x' ∧ (∀ i', i' < L → Dp f m n W i') ∧ (L < 30 → ¬ Dp f m n W L) := by
  obtain ⟨n, W, c0, x0, b1, b2, b3, b4, hJ⟩ := begin1 h
  have hr0 := hr.keep b3 b4
  obtain ⟨L, l0, l1, l2, l3⟩ := li_both hJ.2.1.1 hJ.2.1.2.2.1 hJ.2.2.1 hJ.2.2.2.2.1 hr0
  obtain ⟨c', x', e1, e2, e3, e4, e5⟩ := day_loop l0 hB rfl l2 l3 (if B ≤ L then B else L) mFu 0 c0 x0 (by omega) (show _ < 6000 by split <;> omega) hJ hr0
  have le : fX11_lettersIn (nI j) x = some (nI L) := by
    obtain ⟨L', k0, k1, k2, k3⟩ := li_both (x := x) hJ.2.1.1 (by rw [← b4.1 iX_machines (by decide)]; exact hJ.2.1.2.2.1) hJ.2.2.1 (by rw [← b4.1 iX_writers (by decide)]; exact hJ.2.2.2.2.1) hr
    have e : L' = L := by
      rcases Nat.lt_trichotomy L' L with z | z | z
      · exact absurd (l2 L' z) (k3 (by omega))
      · exact z
      · exact absurd (k2 L z) (l3 (by omega))
    rw [k1, e]
  refine ⟨n, W, L, _, c', x0, x', rfl, l0, ?_, le, b1, ?_, b3.tr e3.1, b4.tr e3.2.1, e4, e5, l2, l3⟩
  · unfold fX10_thinkDay
    rw [b2, bO_s, bnd_d]
    exact e1
  · unfold fX11_typesDay
    rw [l1, bO_s, bnd_d, bnd_d]
    exact e2
theorem ite_in {β : Type} {x y : Int32} {e Q : β} : (if x < 0 then e else if x ≤ y then Q else e) = if x < 0 ∨ y < x then e else Q := by
  by_cases g : x < 0
  · rw [if_pos g, if_pos (Or.inl g)]
  · rw [if_neg g]
    by_cases g2 : x ≤ y
    · rw [if_pos g2, if_neg (nor g (Int32.not_lt.mpr g2))]
    · rw [if_neg g2, if_pos (Or.inr (Int32.not_le.mp g2))]
theorem ite_in1 {β : Type} {x : Int32} {k : Nat} {e Q : β} (hk : k < 2147483647) : (if x < 0 then e else if x < nI (k + 1) then Q else e) = if x < 0 ∨ nI k < x then e else Q := by
  by_cases g : x < 0
  · rw [if_pos g, if_pos (Or.inl g)]
  · rw [if_neg g]
    by_cases g2 : nI k < x
    · rw [if_neg (Int32.not_lt.mpr (nLt_le hk g2)), if_pos (Or.inr g2)]
    · have h : ¬ (x < 0 ∨ nI k < x) := nor g g2
      rw [if_neg h]
      obtain ⟨v, hv, rfl⟩ := lo_hi (by omega) h
      rw [if_pos ((nLt (by omega) (by omega)).mpr (by omega))]
theorem vbad {v : Int32} (h : v = -1 ∨ v = -11 ∨ v = -12) : ¬ (0 : Int32) ≤ v ∧ ¬ v = 0 := by
  rcases h with rfl | rfl | rfl <;> decide
theorem z_later {c x : mS} (h : Rel c x) (a b e g : Int32) : same (fX10_later a b e g c) (fX11_later a b e g x) := by
  unfold fX10_later fX11_later
  obtain ⟨⟨n, hn, n1, n2⟩, -⟩ := h.1
  rw [f_win b 30 30 (by decide), bO_s, b01_z, f_win g 3 3 (by decide), bO_s, b01_z, f_has6, n1, bO_s, b01_z, f_isMachine hn n2, bO_s, b01_z, ite_or, ite_in]
  rcases row_both h a 0 (by omega) with ⟨v, v1, v2, v3⟩ | ⟨j, m, f, ha, hr, v2, v3⟩
  · rw [v2, v3, bO_s, bO_s, bO_s, bO_s, bnd_d, if_neg (vbad v1).1, if_neg (vbad v1).2]
    by_cases e1 : v = -1
    · subst e1
      rw [if_pos rfl]
      split <;> (try split) <;> (try split) <;> exact same_bad h
    rw [if_neg e1]
    split <;> (try split) <;> (try split) <;> exact same_bad h
  rw [v2, v3, bO_s, bO_s, bO_s, bO_s, bnd_d, i00, if_neg (show ¬ nI 1 = -1 by decide), if_pos (show (0 : Int32) ≤ nI 1 by decide)]
  by_cases hb : b < 0 ∨ nI 30 < b
  · rw [if_pos hb, if_pos hb]; exact same_bad h
  rw [if_neg hb, if_neg hb]
  by_cases he : e < 0 ∨ nI n ≤ e
  · rw [if_pos he, if_pos he]; exact same_bad h
  rw [if_neg he, if_neg he]
  by_cases hg : g < 0 ∨ nI 3 < g
  · rw [if_pos hg, if_pos hg]; exact same_bad h
  rw [if_neg hg, if_neg hg]
  obtain ⟨B, hB, rfl⟩ := lo_hi (by omega) hb
  obtain ⟨G, hG, rfl⟩ := lo_hi (by omega) hg
  obtain ⟨q, hq, rfl⟩ := nOfLt (fun z => he (Or.inl z)) (fun z => he (Or.inr z)) (by omega)
  subst ha
  obtain ⟨N, W, L, E, c', x0, x', -, -, t1, t2, t3, t4, t5, t6, hJ, -⟩ := day_both h hr hB
  have eN : N = n := (nEq (by have := hJ.2.1.1; omega) (by omega)).mp (hJ.2.1.2.2.1.symm.trans ((t6.1 _ (by decide)).trans n2))
  subst eN
  obtain ⟨-, m1, m2, hp, ha, -⟩ := hJ.2.1
  rw [ldS_n hr.1 (by omega), t1, t3, bP_s, bO_s, t4, bO_s]
  by_cases g3 : G = 3
  · subst g3
    obtain ⟨p1, v, hv, p2⟩ := ha q hq
    rw [if_pos rfl, if_pos rfl, ldA_n (by omega) (by omega), ldA_n (by omega) (by omega), p1]
    exact same_bad hJ.1
  · rw [if_neg (nlit_ne (by omega) (by omega) g3), if_neg (nlit_ne (by omega) (by omega) g3)]
    unfold fX6_pull
    obtain ⟨p1, v, hv, p2⟩ := hp (3 * q + G) (by omega)
    rw [nM, nA, ldA_n (by omega) (by omega), ldA_n (by omega) (by omega), p1, bO_s]
    exact same_bad hJ.1
theorem z_letter {c x : mS} (h : Rel c x) (a b : Int32) : same (fX10_letter a b c) (fX11_letter a b x) := by
  unfold fX10_letter fX11_letter
  rcases row_both h a 0 (by omega) with ⟨v, v1, v2, v3⟩ | ⟨j, m, f, ha, hr, v2, v3⟩
  · rw [v2, v3, bO_s, bO_s, bO_s, bO_s, bnd_d, if_neg (vbad v1).1, if_neg (vbad v1).2]
    by_cases e1 : v = -1
    · subst e1
      rw [if_pos rfl]
      split <;> exact same_bad h
    rw [if_neg e1]
    split <;> exact same_bad h
  rw [v2, v3, bO_s, bO_s, bO_s, bO_s, bnd_d, i00, if_neg (show ¬ nI 1 = -1 by decide), if_pos (show (0 : Int32) ≤ nI 1 by decide)]
  by_cases hb : -1 ≤ b
  · rw [if_pos hb, if_pos hb]
    subst ha
    rw [ldS_n hr.1 (by omega)]
    by_cases b1 : b = -1
    · obtain ⟨N, W, L, E, c', x0, x', hE, hL, t1, t2, t3, t4, t5, t6, hJ, -⟩ := day_both h hr (B := 30) (by omega)
      have eE : E = L := by
        by_cases g : 30 ≤ L
        · rw [if_pos g] at hE; omega
        · rw [if_neg g] at hE; omega
      rw [if_pos b1, t1, t2, bP_s, bO_s, bnd_d, if_pos b1, eE]
      exact same_bad (h.sm t5 (smX.rf x))
    rw [if_neg b1]
    have b0 : ¬ b < 0 := by
      intro z
      apply b1
      rw [Int32.lt_iff_toInt_lt] at z
      rw [Int32.le_iff_toInt_le] at hb
      apply Int32.toInt_inj.mp
      have : (0 : Int32).toInt = 0 := by decide
      have : (-1 : Int32).toInt = -1 := by decide
      omega
    obtain ⟨B1, B2⟩ := nOf b0
    generalize b.toNatClampNeg = B at B1 B2
    subst B1
    by_cases g : 30 ≤ B
    · obtain ⟨N, W, L, E, c', x0, x', hE, hL, t1, t2, t3, t4, t5, t6, hJ, -⟩ := day_both h hr (B := 30) (by omega)
      rw [if_pos ((nLe (by omega) B2).mpr g), t2, bO_s, bnd_d, if_neg b1, if_neg (fun z => absurd ((nLt B2 (by omega)).mp z) (by omega))]
      exact same_bad h
    rw [if_neg (fun z => g ((nLe (by omega) B2).mp z))]
    obtain ⟨N, W, L, E, c', x0, x', hE, hL, t1, t2, t3, t4, t5, t6, hJ, hr', l1, l2⟩ := day_both h hr (B := B) (by omega)
    rw [t1, t2, bP_s, bO_s, bnd_d, if_neg b1]
    by_cases g1 : L < B
    · rw [if_neg (show ¬ B ≤ L by omega)] at hE
      subst hE
      rw [if_pos ((nLt (by omega) (by omega)).mpr g1), if_neg (fun z => absurd ((nLt (by omega) (by omega)).mp z) (by omega))]
      exact same_bad (h.sm t5 (smX.rf x))
    rw [if_pos (show B ≤ L by omega)] at hE
    subst hE
    rw [if_neg (fun z => absurd ((nLt (by omega) (by omega)).mp z) (by omega))]
    by_cases g2 : E = L
    · rw [(day_c hJ hr' (by omega)).2 (by rw [g2]; exact l2 (by omega)), bO_s, i00, if_neg (fun z => absurd ((nLt (by omega) (by omega)).mp z) (by omega))]
      exact same_bad (h.sm t5 (smX.rf x))
    have hd := l1 E (by omega)
    rw [(day_c hJ hr' (by omega)).1 hd, bO_s, i10, if_pos ((nLt (by omega) (by omega)).mpr (by omega)), t3, bO_s, t4, bO_s]
    obtain ⟨hj, hm, r1, r2, r3⟩ := hr'
    obtain ⟨d1, d2, d3⟩ := hd
    obtain ⟨w, hw, ew⟩ := nOfLt (fun z => d2 (Or.inl z)) (fun z => d2 (Or.inr z)) (by have := hJ.2.2.1; omega)
    obtain ⟨q, hq, eq⟩ := nOfLt (fun z => d3 (Or.inl z)) (fun z => d3 (Or.inr z)) (by have := hJ.2.1.1; omega)
    rw [nM, nM, nA, nA, nA, ldL_n (by omega) (by omega), ldL_n (by omega) (by omega), ldL_n (by omega) (by omega), ldL_n (by omega) (by omega), (r3 _ (by omega)).1, (r3 _ (by omega)).1, (r3 _ (by omega)).2, show 60 * j + 2 * E + 1 = 60 * j + (2 * E + 1) by omega, (r3 _ (by omega)).2, Int32.toInt32_toInt64, Int32.toInt32_toInt64, ew, eq]
    obtain ⟨G, c1, y, -, g1, g2, g3, g4⟩ := code_both (by omega) hJ hw hq
    rw [g1, g2, bP_s, bP_s]
    exact same_bad (hJ.keep (by omega) g3 g4).1
  · rw [if_neg hb, if_neg hb]; exact same_bad h
