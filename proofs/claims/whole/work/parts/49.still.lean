-- how the combinators go through each other
theorem bP_bO {α β γ : Type} (o : Option α) (k : α → Option (β × mS)) (g : β → mS → Option γ) : bP (bO o k) g = bO o (fun r => bP (k r) g) := by
  cases o <;> rfl
theorem bP_ldL {β γ : Type} (s : mS) (id n : Nat) (i : Int32) (k : Int64 → Option (β × mS)) (g : β → mS → Option γ) : bP (ldL s id n i k) g = ldL s id n i (fun r => bP (k r) g) := by
  unfold ldL
  by_cases h : i < 0 ∨ n ≤ i.toNatClampNeg
  · rw [if_pos h, if_pos h]; rfl
  · rw [if_neg h, if_neg h]
theorem bP_ite {β γ : Type} {p : Prop} [Decidable p] (a b : Option (β × mS)) (g : β → mS → Option γ) : bP (if p then a else b) g = if p then bP a g else bP b g := by
  by_cases h : p
  · rw [if_pos h, if_pos h]
  · rw [if_neg h, if_neg h]
theorem play_think (j : Nat) : ∀ (k : Nat) (y : Int32) (c : mS), fX10_playRound_b9 k j y c = bP (fX10_thinkDay_b13 k j (nI 30) y c) fun _ s => fX10_playRound_b58 s := by
  intro k
  induction k with
  | zero => intro y c; rfl
  | succ k ih =>
    intro y c
    rw [fX10_playRound_b9, fX10_thinkDay_b13, bP_ite, bP_s, bP_bO]
    congr 1
    congr 1
    funext r
    rw [bP_ite, bP_s]
    congr 1
    rw [bP_ldL]
    congr 1
    funext v
    rw [bP_ldL]
    congr 1
    funext v
    rw [bP_bO]
    congr 1
    funext s
    exact ih _ _
theorem hp_loop (K : Int32 → Int32 → mS → Option (Int32 × mS)) (a y : Int32) : ∀ (m k i : Nat) (x : mS), i + m = 24 → m < k → ∃ x', fX11_still_b30 K k a y (nI i) x = (bO (fX11_typesDay a (nI 30) x') fun s5 => bnd (nI 1) fun v6 => bnd (nI 0) fun v7 => fX11_still_b66 K mFu a y v6 v7 s5) ∧ smX x x' ∧ (∀ j, j ≠ aX_hadPull → ∀ q, gA x' j q = gA x j q) ∧ (∀ q, gI x' q = gI x q) ∧ ∀ q, gA x' aX_hadPull q = if i ≤ q ∧ q < 24 then gA x aX_pull q else gA x aX_hadPull q := by
  intro m
  induction m with
  | zero =>
    intro k i x h1 h2
    obtain ⟨k, rfl⟩ : ∃ k', k = k' + 1 := ⟨k - 1, by omega⟩
    rw [fX11_still_b30, if_pos ((nLe (by omega) (by omega)).mpr (by omega))]
    exact ⟨x, rfl, smX.rf x, fun _ _ _ => rfl, fun _ => rfl, fun q => by rw [if_neg (by omega)]⟩
  | succ m ih =>
    intro k i x h1 h2
    obtain ⟨k, rfl⟩ : ∃ k', k = k' + 1 := ⟨k - 1, by omega⟩
    rw [fX11_still_b30, if_neg (fun z => absurd ((nLe (by omega) (by omega)).mp z) (by omega)), ldA_n (by omega) (by omega), stA_n (by omega) (by omega), bnd_d, nA]
    obtain ⟨x', e1, e2, e4, e6, e5⟩ := ih k (i + 1) (pA x aX_hadPull i (gA x aX_pull i)) (by omega) (by omega)
    refine ⟨x', e1, ((smX.rf x).pA aX_hadPull i _ (by decide)).tr e2, fun j hj q => by rw [e4 j hj, gA_ne hj], fun q => e6 q, fun q => ?_⟩
    rw [e5, gA_ne (show aX_pull ≠ aX_hadPull by decide), gA_eq]
    by_cases hq : q = i
    · rw [if_neg (show ¬ (i + 1 ≤ q ∧ q < 24) by omega), if_pos hq, if_pos (show i ≤ q ∧ q < 24 by omega), hq]
    · by_cases hr : i + 1 ≤ q ∧ q < 24
      · rw [if_pos hr, if_pos (show i ≤ q ∧ q < 24 by omega)]
      · rw [if_neg hr, if_neg hq, if_neg (show ¬ (i ≤ q ∧ q < 24) by omega)]
theorem cm0 (K : Int32 → Int32 → mS → Option (Int32 × mS)) (a y : Int32) (x : mS) : ∀ (m k i : Nat), i + m = 24 → m < k → fX11_still_b66 K k a y (nI 0) (nI i) x = (bnd (y + (nI 1)) fun v8 => K a v8 x) := by
  intro m
  induction m with
  | zero =>
    intro k i h1 h2
    obtain ⟨k, rfl⟩ : ∃ k', k = k' + 1 := ⟨k - 1, by omega⟩
    rw [fX11_still_b66, if_pos ((nLe (by omega) (by omega)).mpr (by omega)), i00]
  | succ m ih =>
    intro k i h1 h2
    obtain ⟨k, rfl⟩ : ∃ k', k = k' + 1 := ⟨k - 1, by omega⟩
    rw [fX11_still_b66, if_neg (fun z => absurd ((nLe (by omega) (by omega)).mp z) (by omega)), i00]
    unfold fX11_still_b98 fX11_still_b99
    rw [bnd_d, bnd_d, nA]
    exact ih k (i + 1) (by omega) (by omega)
theorem cm1 (K : Int32 → Int32 → mS → Option (Int32 × mS)) (a y : Int32) (x : mS) : ∀ (m k i : Nat), i + m = 24 → m < k → ((∀ q, i ≤ q → q < 24 → gA x aX_hadPull q = gA x aX_pull q) → fX11_still_b66 K k a y (nI 1) (nI i) x = some (y, x)) ∧ ((∃ q, i ≤ q ∧ q < 24 ∧ ¬ gA x aX_hadPull q = gA x aX_pull q) → fX11_still_b66 K k a y (nI 1) (nI i) x = (bnd (y + (nI 1)) fun v8 => K a v8 x)) := by
  intro m
  induction m with
  | zero =>
    intro k i h1 h2
    obtain ⟨k, rfl⟩ : ∃ k', k = k' + 1 := ⟨k - 1, by omega⟩
    rw [fX11_still_b66, if_pos ((nLe (by omega) (by omega)).mpr (by omega)), i10]
    exact ⟨fun _ => rfl, fun ⟨q, q1, q2, _⟩ => absurd q1 (by omega)⟩
  | succ m ih =>
    intro k i h1 h2
    obtain ⟨k, rfl⟩ : ∃ k', k = k' + 1 := ⟨k - 1, by omega⟩
    rw [fX11_still_b66, if_neg (fun z => absurd ((nLe (by omega) (by omega)).mp z) (by omega)), i10, ldA_n (by omega) (by omega), ldA_n (by omega) (by omega)]
    obtain ⟨t1, t2⟩ := ih k (i + 1) (by omega) (by omega)
    by_cases e : gA x aX_hadPull i = gA x aX_pull i
    · rw [if_pos e]
      unfold fX11_still_b99
      rw [bnd_d, bnd_d, nA]
      refine ⟨fun g => t1 (fun q q1 q2 => g q (by omega) q2), fun ⟨q, q1, q2, q3⟩ => t2 ⟨q, ?_, q2, q3⟩⟩
      by_cases e2 : q = i
      · subst e2; exact absurd e q3
      · omega
    · rw [if_neg e]
      unfold fX11_still_b98 fX11_still_b99
      rw [bnd_d, bnd_d, nA]
      exact ⟨fun g => absurd (g i (by omega) (by omega)) e, fun _ => cm0 K a y x m k (i + 1) (by omega) (by omega)⟩
theorem hm_loop {n : Nat} {c : mS} (hn : n ≤ 8) (n1 : gI c (iM_size 1) = nI n) : ∀ (m k i : Nat), i + m = 3 * n → m < k → ((∀ q, i ≤ q → q < 3 * n → gA c (aM_pulls 1) q = gA c (aM_marks 1) q) → fX6_haveMoved_b2 k 1 (nI i) c = some (nI 0)) ∧ ((∃ q, i ≤ q ∧ q < 3 * n ∧ ¬ gA c (aM_pulls 1) q = gA c (aM_marks 1) q) → fX6_haveMoved_b2 k 1 (nI i) c = some (nI 1)) := by
  intro m
  induction m with
  | zero =>
    intro k i h1 h2
    obtain ⟨k, rfl⟩ : ∃ k', k = k' + 1 := ⟨k - 1, by omega⟩
    rw [fX6_haveMoved_b2, n1, nM, if_pos ((nLe (by omega) (by omega)).mpr (by omega))]
    exact ⟨fun _ => rfl, fun ⟨q, q1, q2, _⟩ => absurd q1 (by omega)⟩
  | succ m ih =>
    intro k i h1 h2
    obtain ⟨k, rfl⟩ : ∃ k', k = k' + 1 := ⟨k - 1, by omega⟩
    rw [fX6_haveMoved_b2, n1, nM, if_neg (fun z => absurd ((nLe (by omega) (by omega)).mp z) (by omega)), ldA_n (by omega) (by omega), ldA_n (by omega) (by omega)]
    obtain ⟨t1, t2⟩ := ih k (i + 1) (by omega) (by omega)
    by_cases e : gA c (aM_pulls 1) i = gA c (aM_marks 1) i
    · rw [if_pos e, bnd_d, nA]
      refine ⟨fun g => t1 (fun q q1 q2 => g q (by omega) q2), fun ⟨q, q1, q2, q3⟩ => t2 ⟨q, ?_, q2, q3⟩⟩
      by_cases e2 : q = i
      · subst e2; exact absurd e q3
      · omega
    · rw [if_neg e]
      exact ⟨fun g => absurd (g i (by omega) (by omega)) e, fun _ => rfl⟩
/-- the class keeps its pulls as marks -/
theorem mark_c {n W : Nat} {c x : mS} (h : J 1 n W c x) : ∃ c', fX6_markPulls 1 c = some c' ∧ smC c c' ∧ J 1 n W c' x ∧ (∀ k, gI c' k = gI c k) ∧ (∀ k, k ≠ aM_marks 1 → ∀ i, gA c' k i = gA c k i) ∧ ∀ i, i < 3 * n → gA c' (aM_marks 1) i = gA c (aM_pulls 1) i := by
  obtain ⟨hR, ⟨hn, n1, n2, hp, hg, hr⟩, hW⟩ := h
  unfold fX6_markPulls
  rw [n1, nM, cpA_n (by omega) (by omega) (by omega) (by omega)]
  have s : smC c (wA c (aM_marks 1) (va_cpy (c.2.1 (aM_pulls 1)) (c.2.1 (aM_marks 1)) 0 0 (3 * n))) := (smC.rf c).wA (aM_marks 1) _ (by decide)
  refine ⟨_, rfl, s, ⟨hR.sm s (smX.rf x), ⟨hn, n1, n2, hp, hg, hr⟩, hW.keep s (smX.rf x)⟩, fun _ => rfl, fun k hk i => ?_, fun i hi => ?_⟩
  · rw [gA_wA, if_neg hk]
  · rw [gA_wA, if_pos rfl, cpy_at, if_pos ⟨Nat.zero_le _, by omega⟩, Nat.sub_zero, Nat.zero_add]
    rfl
theorem round_both {n W j m L : Nat} {f : Nat → Int32} {c x : mS} (hL : L ≤ 30) (l1 : ∀ i', i' < L → Dp f m n W i') (l2 : L < 30 → ¬ Dp f m n W L) (h : J 1 n W c x) (hr : rR j m f c x) (K : Int32 → Int32 → mS → Option (Int32 × mS)) (y : Int32) : ∃ c' x', J 1 n W c' x' ∧ rR j m f c' x' ∧ ((fX10_playRound j c = some (nI 0, c') ∧ fX11_still_b30 K mFu (nI j) y (nI 0) x = some (y, x')) ∨ (fX10_playRound j c = some (nI 1, c') ∧ fX11_still_b30 K mFu (nI j) y (nI 0) x = bnd (y + nI 1) fun v8 => K (nI j) v8 x')) := by
  obtain ⟨c0, a1, a2, a3, a4, a5, a6⟩ := mark_c h
  obtain ⟨x0, b1, b2, b3, b5, b4⟩ := hp_loop K (nI j) y 24 mFu 0 x (by omega) (by decide)
  have hJ0 : J 1 n W c0 x0 := by
    refine ⟨a3.1.sm (smC.rf c0) b2, ?_, a3.2.2.keep (smC.rf c0) b2⟩
    obtain ⟨hn, n1, n2, hp, hg, hr⟩ := a3.2.1
    refine ⟨hn, n1, by rw [b5]; exact n2, fun i hi => ?_, fun i hi => ?_, by rw [b5]; exact hr.1, hr.2⟩
    · rw [b3 _ (by decide)]; exact hp i hi
    · rw [b3 _ (by decide)]; exact hg i hi
  have hr0 : rR j m f c0 x0 := hr.keep a2 b2
  obtain ⟨L', k0, k1, k2, k3⟩ := li_both hJ0.2.1.1 hJ0.2.1.2.2.1 hJ0.2.2.1 hJ0.2.2.2.2.1 hr0
  have e : L' = L := by
    rcases Nat.lt_trichotomy L' L with z | z | z
    · exact absurd (l1 L' z) (k3 (by omega))
    · exact z
    · exact absurd (k2 L z) (l2 (by omega))
  subst e
  obtain ⟨c', x', e1, e2, e3, e4, e5⟩ := day_loop hL (B := 30) (by omega) rfl l1 l2 (if 30 ≤ L' then 30 else L') mFu 0 c0 x0 (by omega) (show _ < 6000 by split <;> omega) hJ0 hr0
  refine ⟨c', x', e4, e5, ?_⟩
  have hn := h.2.1.1
  have P : fX10_playRound j c = (bO (fX6_haveMoved 1 c') fun r3 => rB r3 (some (r3, c'))) := by
    unfold fX10_playRound
    rw [a1, bO_s, bnd_d, play_think, e1, bP_s]
    rfl
  have Q : fX11_still_b30 K mFu (nI j) y (nI 0) x = fX11_still_b66 K mFu (nI j) y (nI 1) (nI 0) x' := by
    rw [b1]
    unfold fX11_typesDay
    rw [k1, bO_s, bnd_d, bnd_d, e2, bO_s, bnd_d, bnd_d]
  rw [P, Q]
  unfold fX6_haveMoved
  rw [bnd_d]
  obtain ⟨t1, t2⟩ := hm_loop hn e4.2.1.2.1 (3 * n) mFu 0 (by omega) (show 3 * n < 6000 by omega)
  obtain ⟨s1, s2⟩ := cm1 K (nI j) y x' 24 mFu 0 (by omega) (by decide)
  have had : ∀ q, q < 24 → gA x' aX_hadPull q = gA x aX_pull q := by
    intro q hq
    rw [e3.2.2.2.1, b4, if_pos ⟨Nat.zero_le _, hq⟩]
  have mk : ∀ q, q < 3 * n → gA c' (aM_marks 1) q = gA x aX_pull q := by
    intro q hq
    rw [e3.2.2.1, a6 q hq, ((h.2.1.2.2.2.1) q hq).1]
  by_cases z : ∃ q, q < 3 * n ∧ ¬ gA c' (aM_pulls 1) q = gA c' (aM_marks 1) q
  · obtain ⟨q, q1, q2⟩ := z
    rw [t2 ⟨q, Nat.zero_le _, q1, q2⟩, bO_s, s2 ⟨q, Nat.zero_le _, by omega, by rw [had q (by omega), (e4.2.1.2.2.2.1 q q1).1, ← mk q q1]; exact fun w => q2 w.symm⟩]
    exact Or.inr ⟨rfl, rfl⟩
  · have z' : ∀ q, q < 3 * n → gA c' (aM_pulls 1) q = gA c' (aM_marks 1) q := fun q hq => Classical.byContradiction (fun w => z ⟨q, hq, w⟩)
    rw [t1 (fun q _ q2 => z' q q2), bO_s, s1 (fun q _ q2 => ?_)]
    · exact Or.inl ⟨rfl, rfl⟩
    · rw [had q q2]
      by_cases g : q < 3 * n
      · rw [(e4.2.1.2.2.2.1 q g).1, z' q g, mk q g]
      · rw [e3.2.2.2.2 q (by omega), b3 _ (by decide)]
theorem still_loop {n W j m L : Nat} {f : Nat → Int32} (hL : L ≤ 30) (l1 : ∀ i', i' < L → Dp f m n W i') (l2 : L < 30 → ¬ Dp f m n W L) : ∀ (q k i : Nat) (c x : mS), i + q = 100 → q < k → J 1 n W c x → rR j m f c x → same (fX10_still_b34 k j (nI i) c) (fX11_still_b22 k (nI j) (nI i) x) := by
  intro q
  induction q with
  | zero =>
    intro k i c x h1 h2 h hr
    obtain ⟨k, rfl⟩ : ∃ k', k = k' + 1 := ⟨k - 1, by omega⟩
    have z : nI 99 < nI i := (nLt (by omega) (by omega)).mpr (by omega)
    rw [fX10_still_b34, fX11_still_b22, if_pos z, if_pos z]
    exact same_bad h.1
  | succ q ih =>
    intro k i c x h1 h2 h hr
    obtain ⟨k, rfl⟩ : ∃ k', k = k' + 1 := ⟨k - 1, by omega⟩
    have z : ¬ nI 99 < nI i := fun z => absurd ((nLt (by omega) (by omega)).mp z) (by omega)
    rw [fX10_still_b34, fX11_still_b22, if_neg z, if_neg z, bnd_d]
    obtain ⟨c', x', e4, e5, e⟩ := round_both hL l1 l2 h hr (fun u0 u1 u2 => fX11_still_b22 k u0 u1 u2) (nI i)
    rcases e with ⟨e1, e2⟩ | ⟨e1, e2⟩
    · rw [e1, e2, bP_s, i00]
      exact same_bad e4.1
    · rw [e1, e2, bP_s, i10, bnd_d, bnd_d, nA]
      exact ih k (i + 1) c' x' (by omega) (by omega) e4 e5
theorem z_still {c x : mS} (h : Rel c x) (a : Int32) : same (fX10_still a c) (fX11_still a x) := by
  unfold fX10_still fX11_still
  rcases row_both h a 0 (by omega) with ⟨v, v1, v2, v3⟩ | ⟨j, m, f, ha, hr, v2, v3⟩
  · rw [v2, v3, bO_s, bO_s, bO_s, bnd_d, if_neg (vbad v1).1, if_neg (vbad v1).2]
    exact same_bad h
  rw [v2, v3, bO_s, bO_s, bnd_d, i00, if_pos (show (0 : Int32) ≤ nI 1 by decide)]
  subst ha
  obtain ⟨n, W, c0, x0, b1, b2, b3, b4, hJ⟩ := begin1 h
  have hr0 := hr.keep b3 b4
  obtain ⟨L, l0, l1, l2, l3⟩ := li_both hJ.2.1.1 hJ.2.1.2.2.1 hJ.2.2.1 hJ.2.2.2.2.1 hr0
  rw [ldS_n hr.1 (by omega), b1, b2, bO_s, bO_s, bnd_d, bnd_d]
  exact still_loop l0 l2 l3 100 mFu 0 c0 x0 (by omega) (by decide) hJ hr0
