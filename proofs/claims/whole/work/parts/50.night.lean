-- a night: every machine comes nearer to the next
/-- the place of the same habit on the next machine -/
def nx (n i : Nat) : Nat := if 3 * n ≤ i + 3 then i + 3 - 3 * n else i + 3
theorem nx_lt {n i : Nat} (h : i < 3 * n) : nx n i < 3 * n := by
  unfold nx
  split <;> omega
theorem pn_loop {n : Nat} (hn : n ≤ 8) (P : Nat → Nat) (hP : ∀ i, i < 3 * n → P i ≤ 12) : ∀ (m k i : Nat) (c : mS), (∀ q, q < 3 * n → gA c (aM_marks 1) q = nI (P q)) → i + m = 3 * n → m < k → ∃ c', fX6_passNight_b13 k 1 (nI (3 * n)) (nI i) c = some c' ∧ smC c c' ∧ (∀ q, gI c' q = gI c q) ∧ (∀ j, j ≠ aM_pulls 1 → ∀ q, gA c' j q = gA c j q) ∧ ∀ q, gA c' (aM_pulls 1) q = if i ≤ q ∧ q < 3 * n then nI (near (P q) (P (nx n q))) else gA c (aM_pulls 1) q := by
  intro m
  induction m with
  | zero =>
    intro k i c hc h1 h2
    obtain ⟨k, rfl⟩ : ∃ k', k = k' + 1 := ⟨k - 1, by omega⟩
    rw [fX6_passNight_b13, if_pos ((nLe (by omega) (by omega)).mpr (by omega))]
    exact ⟨c, rfl, smC.rf c, fun _ => rfl, fun _ _ _ => rfl, fun q => by rw [if_neg (by omega)]⟩
  | succ m ih =>
    intro k i c hc h1 h2
    obtain ⟨k, rfl⟩ : ∃ k', k = k' + 1 := ⟨k - 1, by omega⟩
    rw [fX6_passNight_b13, if_neg (fun z => absurd ((nLe (by omega) (by omega)).mp z) (by omega)), nA]
    have hx := nx_lt (n := n) (i := i) (by omega)
    have e : (if nI (3 * n) ≤ nI (i + 3) then fX6_passNight_b36 (fun u0 u1 u2 u3 => fX6_passNight_b13 k u0 u1 u2 u3) 1 (nI (3 * n)) (nI i) (nI (i + 3) - nI (3 * n)) c else fX6_passNight_b36 (fun u0 u1 u2 u3 => fX6_passNight_b13 k u0 u1 u2 u3) 1 (nI (3 * n)) (nI i) (nI (i + 3)) c) = fX6_passNight_b36 (fun u0 u1 u2 u3 => fX6_passNight_b13 k u0 u1 u2 u3) 1 (nI (3 * n)) (nI i) (nI (nx n i)) c := by
      unfold nx
      by_cases g : 3 * n ≤ i + 3
      · rw [if_pos ((nLe (by omega) (by omega)).mpr g), if_pos g, nSb g]
      · rw [if_neg (fun z => g ((nLe (by omega) (by omega)).mp z)), if_neg g]
    rw [e]
    unfold fX6_passNight_b36
    have h0 := hP i (by omega)
    have h3 := hP (nx n i) hx
    rw [bnd_d, ldA_n (by omega) (by omega), ldA_n (by omega) (by omega), hc i (by omega), hc _ hx, near_c (by omega) (by omega), bO_s, stA_n (by omega) (by omega), bnd_d, nA]
    obtain ⟨c', e1, e2, e3, e4, e5⟩ := ih k (i + 1) (pA c (aM_pulls 1) i (nI (near (P i) (P (nx n i))))) (fun q hq => by rw [gA_ne (by decide)]; exact hc q hq) (by omega) (by omega)
    refine ⟨c', e1, ((smC.rf c).pA (aM_pulls 1) i _ (by decide)).tr e2, fun q => e3 q, fun j hj q => by rw [e4 j hj, gA_ne hj], fun q => ?_⟩
    rw [e5, gA_eq]
    by_cases hq : q = i
    · rw [if_neg (show ¬ (i + 1 ≤ q ∧ q < 3 * n) by omega), if_pos hq, if_pos (show i ≤ q ∧ q < 3 * n by omega), hq]
    · by_cases hr : i + 1 ≤ q ∧ q < 3 * n
      · rw [if_pos hr, if_pos (show i ≤ q ∧ q < 3 * n by omega)]
      · rw [if_neg hr, if_neg hq, if_neg (show ¬ (i ≤ q ∧ q < 3 * n) by omega)]
theorem sl_in (K : Int32 → mS → Option mS) {n a b : Nat} (hn : n ≤ 8) (ha : a < n) (hb : b < n) (P : Nat → Nat) (hP : ∀ i, i < 3 * n → P i ≤ 12) {x : mS} (hx : ∀ q, q < 3 * n → gA x aX_hadPull q = nI (P q)) : fX11_sleeps_b56 K mFu (nI a) (nI b) (nI 0) x = K (nI (a + 1)) (pA (pA (pA x aX_pull (3 * a) (nI (near (P (3 * a)) (P (3 * b))))) aX_pull (3 * a + 1) (nI (near (P (3 * a + 1)) (P (3 * b + 1))))) aX_pull (3 * a + 2) (nI (near (P (3 * a + 2)) (P (3 * b + 2))))) := by
  have st : ∀ (f i : Nat) (y : mS), i < 3 → (∀ q, q < 3 * n → gA y aX_hadPull q = nI (P q)) → fX11_sleeps_b56 K (f + 1) (nI a) (nI b) (nI i) y = fX11_sleeps_b56 K f (nI a) (nI b) (nI (i + 1)) (pA y aX_pull (3 * a + i) (nI (near (P (3 * a + i)) (P (3 * b + i))))) := by
    intro f i y hi hy
    have h0 := hP (3 * a + i) (by omega)
    have h1 := hP (3 * b + i) (by omega)
    rw [fX11_sleeps_b56, if_neg (fun z => absurd ((nLe (by omega) (by omega)).mp z) (by omega)), nM, nA, nM, nA, ldA_n (by omega) (by omega), ldA_n (by omega) (by omega), hy _ (by omega), hy _ (by omega), near_x (by omega) (by omega), bO_s, stA_n (by omega) (by omega), bnd_d, nA]
  obtain ⟨f, hf⟩ : ∃ f, mFu = f + 4 := ⟨5996, rfl⟩
  rw [hf]
  have s0 : fX11_sleeps_b56 K (f + 4) (nI a) (nI b) (nI 0) x = fX11_sleeps_b56 K (f + 3) (nI a) (nI b) (nI 1) (pA x aX_pull (3 * a) (nI (near (P (3 * a)) (P (3 * b))))) := st (f + 3) 0 x (by omega) hx
  have h1 : ∀ q, q < 3 * n → gA (pA x aX_pull (3 * a) (nI (near (P (3 * a)) (P (3 * b))))) aX_hadPull q = nI (P q) := fun q hq => by rw [gA_ne (by decide)]; exact hx q hq
  have h2 : ∀ q, q < 3 * n → gA (pA (pA x aX_pull (3 * a) (nI (near (P (3 * a)) (P (3 * b))))) aX_pull (3 * a + 1) (nI (near (P (3 * a + 1)) (P (3 * b + 1))))) aX_hadPull q = nI (P q) := fun q hq => by rw [gA_ne (by decide)]; exact h1 q hq
  rw [s0, st (f + 2) 1 _ (by omega) h1, st (f + 1) 2 _ (by omega) h2, fX11_sleeps_b56, if_pos (show nI 3 ≤ nI (2 + 1) by decide), bnd_d, nA]
theorem sl_loop {n : Nat} (hn : n ≤ 8) (P : Nat → Nat) (hP : ∀ i, i < 3 * n → P i ≤ 12) : ∀ (m k i : Nat) (x : mS), gI x iX_machines = nI n → (∀ q, q < 3 * n → gA x aX_hadPull q = nI (P q)) → i + m = n → m < k → ∃ x', fX11_sleeps_b28 k (nI i) x = some x' ∧ smX x x' ∧ (∀ q, gI x' q = gI x q) ∧ (∀ j, j ≠ aX_pull → ∀ q, gA x' j q = gA x j q) ∧ ∀ q, gA x' aX_pull q = if 3 * i ≤ q ∧ q < 3 * n then nI (near (P q) (P (nx n q))) else gA x aX_pull q := by
  intro m
  induction m with
  | zero =>
    intro k i x n2 hx h1 h2
    obtain ⟨k, rfl⟩ : ∃ k', k = k' + 1 := ⟨k - 1, by omega⟩
    rw [fX11_sleeps_b28, n2, if_pos ((nLe (by omega) (by omega)).mpr (by omega))]
    exact ⟨x, rfl, smX.rf x, fun _ => rfl, fun _ _ _ => rfl, fun q => by rw [if_neg (by omega)]⟩
  | succ m ih =>
    intro k i x n2 hx h1 h2
    obtain ⟨k, rfl⟩ : ∃ k', k = k' + 1 := ⟨k - 1, by omega⟩
    rw [fX11_sleeps_b28, n2, if_neg (fun z => absurd ((nLe (by omega) (by omega)).mp z) (by omega)), nA]
    obtain ⟨b, hb, hb2, e⟩ : ∃ b, b < n ∧ b = (if n ≤ i + 1 then 0 else i + 1) ∧ (if nI n ≤ nI (i + 1) then fX11_sleeps_b53 (fun u0 u1 => fX11_sleeps_b28 k u0 u1) (nI i) (nI 0) x else fX11_sleeps_b53 (fun u0 u1 => fX11_sleeps_b28 k u0 u1) (nI i) (nI (i + 1)) x) = fX11_sleeps_b53 (fun u0 u1 => fX11_sleeps_b28 k u0 u1) (nI i) (nI b) x := by
      by_cases g : n ≤ i + 1
      · exact ⟨0, by omega, by rw [if_pos g], by rw [if_pos ((nLe (by omega) (by omega)).mpr g)]⟩
      · exact ⟨i + 1, by omega, by rw [if_neg g], by rw [if_neg (fun z => g ((nLe (by omega) (by omega)).mp z))]⟩
    rw [e]
    unfold fX11_sleeps_b53
    rw [bnd_d, bnd_d, sl_in (fun u0 u1 => fX11_sleeps_b28 k u0 u1) hn (show i < n by omega) hb P hP hx]
    have hnx : ∀ t, t < 3 → nx n (3 * i + t) = 3 * b + t := by
      intro t ht
      unfold nx
      by_cases g : n ≤ i + 1
      · rw [if_pos g] at hb2
        rw [if_pos (by omega)]
        omega
      · rw [if_neg g] at hb2
        rw [if_neg (by omega)]
        omega
    generalize hy : (pA (pA (pA x aX_pull (3 * i) (nI (near (P (3 * i)) (P (3 * b))))) aX_pull (3 * i + 1) (nI (near (P (3 * i + 1)) (P (3 * b + 1))))) aX_pull (3 * i + 2) (nI (near (P (3 * i + 2)) (P (3 * b + 2))))) = y
    have y1 : smX x y := by rw [← hy]; exact (((smX.rf x).pA aX_pull _ _ (by decide)).pA aX_pull _ _ (by decide)).pA aX_pull _ _ (by decide)
    have y2 : ∀ q, gI y q = gI x q := by intro q; rw [← hy]; rfl
    have y3 : ∀ j, j ≠ aX_pull → ∀ q, gA y j q = gA x j q := by intro j hj q; rw [← hy, gA_ne hj, gA_ne hj, gA_ne hj]
    have y4 : ∀ q, gA y aX_pull q = if 3 * i ≤ q ∧ q < 3 * i + 3 then nI (near (P q) (P (nx n q))) else gA x aX_pull q := by
      intro q
      rw [← hy, gA_eq, gA_eq, gA_eq]
      by_cases q0 : q = 3 * i
      · subst q0
        rw [if_neg (by omega), if_neg (by omega), if_pos rfl, if_pos (by omega), show nx n (3 * i) = 3 * b from hnx 0 (by omega)]
      · by_cases q1 : q = 3 * i + 1
        · subst q1
          rw [if_neg (by omega), if_pos rfl, if_pos (by omega), hnx 1 (by omega)]
        · by_cases q2 : q = 3 * i + 2
          · subst q2
            rw [if_pos rfl, if_pos (by omega), hnx 2 (by omega)]
          · rw [if_neg q2, if_neg q1, if_neg q0, if_neg (by omega)]
    obtain ⟨x', e1, e2, e3, e4, e5⟩ := ih k (i + 1) y (by rw [y2]; exact n2) (fun q hq => by rw [y3 _ (by decide)]; exact hx q hq) (by omega) (by omega)
    refine ⟨x', e1, y1.tr e2, fun q => (e3 q).trans (y2 q), fun j hj q => (e4 j hj q).trans (y3 j hj q), fun q => ?_⟩
    rw [e5, y4]
    by_cases g : 3 * (i + 1) ≤ q ∧ q < 3 * n
    · rw [if_pos g, if_pos (show 3 * i ≤ q ∧ q < 3 * n by omega)]
    · rw [if_neg g]
      by_cases g2 : 3 * i ≤ q ∧ q < 3 * i + 3
      · rw [if_pos g2, if_pos (show 3 * i ≤ q ∧ q < 3 * n by omega)]
      · rw [if_neg g2, if_neg (show ¬ (3 * i ≤ q ∧ q < 3 * n) by omega)]
theorem sp_loop : ∀ (m k i : Nat) (x : mS), i + m = 24 → m < k → ∃ x', fX11_sleeps_b2 k (nI i) x = fX11_sleeps_b28 mFu (nI 0) x' ∧ smX x x' ∧ (∀ j, j ≠ aX_hadPull → ∀ q, gA x' j q = gA x j q) ∧ (∀ q, gI x' q = gI x q) ∧ ∀ q, gA x' aX_hadPull q = if i ≤ q ∧ q < 24 then gA x aX_pull q else gA x aX_hadPull q := by
  intro m
  induction m with
  | zero =>
    intro k i x h1 h2
    obtain ⟨k, rfl⟩ : ∃ k', k = k' + 1 := ⟨k - 1, by omega⟩
    rw [fX11_sleeps_b2, if_pos ((nLe (by omega) (by omega)).mpr (by omega)), bnd_d]
    exact ⟨x, rfl, smX.rf x, fun _ _ _ => rfl, fun _ => rfl, fun q => by rw [if_neg (by omega)]⟩
  | succ m ih =>
    intro k i x h1 h2
    obtain ⟨k, rfl⟩ : ∃ k', k = k' + 1 := ⟨k - 1, by omega⟩
    rw [fX11_sleeps_b2, if_neg (fun z => absurd ((nLe (by omega) (by omega)).mp z) (by omega)), ldA_n (by omega) (by omega), stA_n (by omega) (by omega), bnd_d, nA]
    obtain ⟨x', e1, e2, e4, e6, e5⟩ := ih k (i + 1) (pA x aX_hadPull i (gA x aX_pull i)) (by omega) (by omega)
    refine ⟨x', e1, ((smX.rf x).pA aX_hadPull i _ (by decide)).tr e2, fun j hj q => by rw [e4 j hj, gA_ne hj], fun q => e6 q, fun q => ?_⟩
    rw [e5, gA_ne (show aX_pull ≠ aX_hadPull by decide), gA_eq]
    by_cases hq : q = i
    · rw [if_neg (show ¬ (i + 1 ≤ q ∧ q < 24) by omega), if_pos hq, if_pos (show i ≤ q ∧ q < 24 by omega), hq]
    · by_cases hr : i + 1 ≤ q ∧ q < 24
      · rw [if_pos hr, if_pos (show i ≤ q ∧ q < 24 by omega)]
      · rw [if_neg hr, if_neg hq, if_neg (show ¬ (i ≤ q ∧ q < 24) by omega)]
theorem night_both {n W : Nat} {c x : mS} (h : J 1 n W c x) : ∃ c' x', fX6_passNight 1 c = some c' ∧ fX11_sleeps x = some x' ∧ smC c c' ∧ smX x x' ∧ J 1 n W c' x' := by
  obtain ⟨c0, a1, a2, a3, a4, a5, a6⟩ := mark_c h
  obtain ⟨x0, b1, b2, b3, b5, b4⟩ := sp_loop 24 mFu 0 x (by omega) (by decide)
  obtain ⟨hn, n1, n2, hp, hg, hr⟩ := h.2.1
  let P : Nat → Nat := fun i => (gA c (aM_pulls 1) i).toNatClampNeg
  have hP : ∀ i, i < 3 * n → P i ≤ 12 ∧ gA c (aM_pulls 1) i = nI (P i) := by
    intro i hi
    obtain ⟨-, v, hv, e⟩ := hp i hi
    have : P i = v := by
      show (gA c (aM_pulls 1) i).toNatClampNeg = v
      rw [e, nI_clamp (by omega)]
    rw [this]
    exact ⟨hv, e⟩
  obtain ⟨c', c1, c2, c3, c4, c5⟩ := pn_loop hn P (fun i hi => (hP i hi).1) (3 * n) mFu 0 c0 (fun q hq => by rw [a6 q hq]; exact (hP q hq).2) (by omega) (show 3 * n < 6000 by omega)
  obtain ⟨x', d1, d2, d3, d4, d5⟩ := sl_loop hn P (fun i hi => (hP i hi).1) n mFu 0 x0 (by rw [b5]; exact n2) (fun q hq => by rw [b4, if_pos ⟨Nat.zero_le _, by omega⟩, (hp q hq).1]; exact (hP q hq).2) (by omega) (show n < 6000 by omega)
  refine ⟨c', x', ?_, ?_, a2.tr c2, b2.tr d2, h.1.sm (a2.tr c2) (b2.tr d2), ⟨hn, ?_, ?_, fun i hi => ?_, fun i hi => ?_, ?_, ?_⟩, h.2.2.keep (a2.tr c2) (b2.tr d2)⟩
  · unfold fX6_passNight
    rw [a1, bO_s, a4, n1, nM, bnd_d, bnd_d]
    exact c1
  · unfold fX11_sleeps
    rw [bnd_d, b1]
    exact d1
  · rw [c3, a4]; exact n1
  · rw [d3, b5]; exact n2
  · rw [c5, d5, if_pos ⟨by omega, hi⟩, if_pos ⟨by omega, hi⟩]
    exact ⟨rfl, _, near_le (hP i hi).1 (hP _ (nx_lt hi)).1, rfl⟩
  · rw [c4 _ (by decide), a5 _ (by decide), d4 _ (by decide), b3 _ (by decide)]; exact hg i hi
  · rw [d3, b5, c3, a4]; exact hr.1
  · rw [c3, a4]; exact hr.2
theorem mo_loop {n W q t B : Nat} (hq : q < n) (ht : t < 3) (hB : B ≤ 60) : ∀ (m k i : Nat) (c x : mS), i + m = B → m < k → J 1 n W c x → same (fX10_morning_b46 k (nI q) (nI B) (nI t) (nI i) c) (fX11_morning_b42 k (nI q) (nI B) (nI t) (nI i) x) := by
  intro m
  induction m with
  | zero =>
    intro k i c x h1 h2 h
    obtain ⟨k, rfl⟩ : ∃ k', k = k' + 1 := ⟨k - 1, by omega⟩
    have z : nI B ≤ nI i := (nLe (by omega) (by omega)).mpr (by omega)
    rw [fX10_morning_b46, fX11_morning_b42, if_pos z, if_pos z]
    unfold fX6_pull
    obtain ⟨hn, n1, n2, hp, -⟩ := h.2.1
    rw [nM, nA, ldA_n (by omega) (by omega), ldA_n (by omega) (by omega), (hp _ (by omega)).1, bO_s]
    exact same_bad h.1
  | succ m ih =>
    intro k i c x h1 h2 h
    obtain ⟨k, rfl⟩ : ∃ k', k = k' + 1 := ⟨k - 1, by omega⟩
    have z : ¬ nI B ≤ nI i := fun z => absurd ((nLe (by omega) (by omega)).mp z) (by omega)
    rw [fX10_morning_b46, fX11_morning_b42, if_neg z, if_neg z]
    obtain ⟨c', x', e1, e2, -, -, e3⟩ := night_both h
    rw [e1, e2, bO_s, bO_s, bnd_d, bnd_d, nA]
    exact ih k (i + 1) c' x' (by omega) (by omega) e3
theorem z_morning {c x : mS} (h : Rel c x) (a b e : Int32) : same (fX10_morning a b e c) (fX11_morning a b e x) := by
  unfold fX10_morning fX11_morning
  obtain ⟨⟨n, hn, n1, n2⟩, -⟩ := h.1
  rw [f_win b 60 60 (by decide), bO_s, b01_z, f_win e 2 2 (by decide), bO_s, b01_z, f_has6, n1, bO_s, b01_z, f_isMachine hn n2, bO_s, b01_z, ite_or (p := b < 0), ite_in1 (k := 2) (by omega)]
  by_cases ha : a < 0 ∨ nI n ≤ a
  · rw [if_pos ha, if_pos ha]; exact same_bad h
  rw [if_neg ha, if_neg ha]
  by_cases hb : b < 0 ∨ nI 60 < b
  · rw [if_pos hb, if_pos hb]; exact same_bad h
  rw [if_neg hb, if_neg hb]
  by_cases he : e < 0 ∨ nI 2 < e
  · rw [if_pos he, if_pos he]; exact same_bad h
  rw [if_neg he, if_neg he]
  obtain ⟨B, hB, rfl⟩ := lo_hi (by omega) hb
  obtain ⟨E, hE, rfl⟩ := lo_hi (by omega) he
  obtain ⟨q, hq, rfl⟩ := nOfLt (fun z => ha (Or.inl z)) (fun z => ha (Or.inr z)) (by omega)
  obtain ⟨N, W, c0, x0, b1, b2, b3, b4, hJ⟩ := begin1 h
  have eN : N = n := (nEq (by have := hJ.2.1.1; omega) (by omega)).mp (hJ.2.1.2.2.1.symm.trans ((b4.1 _ (by decide)).trans n2))
  subst eN
  rw [b1, b2, bO_s, bO_s, bnd_d, bnd_d]
  exact mo_loop hq (by omega) hB B mFu 0 c0 x0 (by omega) (show B < 6000 by omega) hJ
/-- all alike, as the class and as the reference look -/
theorem al_loop {n : Nat} {c : mS} (hn : n ≤ 8) (n1 : gI c (iM_size 1) = nI n) : ∀ (m k i : Nat), i + m = 3 * n → 3 ≤ i → m < k → ((∀ q, i ≤ q → q < 3 * n → gA c (aM_pulls 1) q = gA c (aM_pulls 1) (q - 3)) → fX6_areAllAlike_b2 k 1 (nI i) c = some (nI 1)) ∧ ((∃ q, i ≤ q ∧ q < 3 * n ∧ ¬ gA c (aM_pulls 1) q = gA c (aM_pulls 1) (q - 3)) → fX6_areAllAlike_b2 k 1 (nI i) c = some (nI 0)) := by
  intro m
  induction m with
  | zero =>
    intro k i h1 h3 h2
    obtain ⟨k, rfl⟩ : ∃ k', k = k' + 1 := ⟨k - 1, by omega⟩
    rw [fX6_areAllAlike_b2, n1, nM, if_pos ((nLe (by omega) (by omega)).mpr (by omega))]
    exact ⟨fun _ => rfl, fun ⟨q, q1, q2, _⟩ => absurd q1 (by omega)⟩
  | succ m ih =>
    intro k i h1 h3 h2
    obtain ⟨k, rfl⟩ : ∃ k', k = k' + 1 := ⟨k - 1, by omega⟩
    rw [fX6_areAllAlike_b2, n1, nM, if_neg (fun z => absurd ((nLe (by omega) (by omega)).mp z) (by omega)), nSb h3, ldA_n (by omega) (by omega), ldA_n (by omega) (by omega)]
    obtain ⟨t1, t2⟩ := ih k (i + 1) (by omega) (by omega) (by omega)
    by_cases e : gA c (aM_pulls 1) i = gA c (aM_pulls 1) (i - 3)
    · rw [if_pos e, bnd_d, nA]
      refine ⟨fun g => t1 (fun q q1 q2 => g q (by omega) q2), fun ⟨q, q1, q2, q3⟩ => t2 ⟨q, ?_, q2, q3⟩⟩
      by_cases e2 : q = i
      · subst e2; exact absurd e q3
      · omega
    · rw [if_neg e]
      exact ⟨fun g => absurd (g i (by omega) (by omega)) e, fun _ => rfl⟩
theorem ax0 (K : Int32 → mS → Option (Int32 × mS)) (y : Int32) {n : Nat} {x : mS} (hn : n ≤ 8) (n2 : gI x iX_machines = nI n) : ∀ (m k i : Nat), i + m = 3 * n → m < k → fX11_alike_b16 K k y (nI 0) (nI i) x = (bO (fX11_sleeps x) fun s5 => bnd (y + (nI 1)) fun v6 => K v6 s5) := by
  intro m
  induction m with
  | zero =>
    intro k i h1 h2
    obtain ⟨k, rfl⟩ : ∃ k', k = k' + 1 := ⟨k - 1, by omega⟩
    rw [fX11_alike_b16, n2, nM, if_pos ((nLe (by omega) (by omega)).mpr (by omega)), i00]
  | succ m ih =>
    intro k i h1 h2
    obtain ⟨k, rfl⟩ : ∃ k', k = k' + 1 := ⟨k - 1, by omega⟩
    rw [fX11_alike_b16, n2, nM, if_neg (fun z => absurd ((nLe (by omega) (by omega)).mp z) (by omega)), i00]
    unfold fX11_alike_b51 fX11_alike_b52
    rw [bnd_d, bnd_d, nA]
    exact ih k (i + 1) (by omega) (by omega)
theorem ax1 (K : Int32 → mS → Option (Int32 × mS)) (y : Int32) {n : Nat} {x : mS} (hn : n ≤ 8) (n2 : gI x iX_machines = nI n) : ∀ (m k i : Nat), i + m = 3 * n → m < k → ((∀ q, i ≤ q → q < 3 * n → gA x aX_pull q = gA x aX_pull (q % 3)) → fX11_alike_b16 K k y (nI 1) (nI i) x = some (y, x)) ∧ ((∃ q, i ≤ q ∧ q < 3 * n ∧ ¬ gA x aX_pull q = gA x aX_pull (q % 3)) → fX11_alike_b16 K k y (nI 1) (nI i) x = (bO (fX11_sleeps x) fun s5 => bnd (y + (nI 1)) fun v6 => K v6 s5)) := by
  intro m
  induction m with
  | zero =>
    intro k i h1 h2
    obtain ⟨k, rfl⟩ : ∃ k', k = k' + 1 := ⟨k - 1, by omega⟩
    rw [fX11_alike_b16, n2, nM, if_pos ((nLe (by omega) (by omega)).mpr (by omega)), i10]
    exact ⟨fun _ => rfl, fun ⟨q, q1, q2, _⟩ => absurd q1 (by omega)⟩
  | succ m ih =>
    intro k i h1 h2
    obtain ⟨k, rfl⟩ : ∃ k', k = k' + 1 := ⟨k - 1, by omega⟩
    rw [fX11_alike_b16, n2, nM, if_neg (fun z => absurd ((nLe (by omega) (by omega)).mp z) (by omega)), i10, nRem (by omega) (by omega), ldA_n (by omega) (by omega), ldA_n (by omega) (by omega)]
    obtain ⟨t1, t2⟩ := ih k (i + 1) (by omega) (by omega)
    by_cases e : gA x aX_pull i = gA x aX_pull (i % 3)
    · rw [if_pos e]
      unfold fX11_alike_b52
      rw [bnd_d, bnd_d, nA]
      refine ⟨fun g => t1 (fun q q1 q2 => g q (by omega) q2), fun ⟨q, q1, q2, q3⟩ => t2 ⟨q, ?_, q2, q3⟩⟩
      by_cases e2 : q = i
      · subst e2; exact absurd e q3
      · omega
    · rw [if_neg e]
      unfold fX11_alike_b51 fX11_alike_b52
      rw [bnd_d, bnd_d, nA]
      exact ⟨fun g => absurd (g i (by omega) (by omega)) e, fun _ => ax0 K y hn n2 m k (i + 1) (by omega) (by omega)⟩
theorem al_both {n W : Nat} {c x : mS} (h : J 1 n W c x) (K : Int32 → mS → Option (Int32 × mS)) (y : Int32) : (fX6_areAllAlike 1 c = some (nI 1) ∧ fX11_alike_b16 K mFu y (nI 1) (nI 3) x = some (y, x)) ∨ (fX6_areAllAlike 1 c = some (nI 0) ∧ fX11_alike_b16 K mFu y (nI 1) (nI 3) x = (bO (fX11_sleeps x) fun s5 => bnd (y + (nI 1)) fun v6 => K v6 s5)) := by
  obtain ⟨hn, n1, n2, hp, hg, hr⟩ := h.2.1
  unfold fX6_areAllAlike
  rw [bnd_d]
  by_cases h0 : n = 0
  · subst h0
    rw [mFu_s, fX6_areAllAlike_b2, fX11_alike_b16, n1, n2, if_pos (show nI 3 * nI 0 ≤ nI 3 by decide), if_pos (show nI 3 * nI 0 ≤ nI 3 by decide), i10]
    exact Or.inl ⟨rfl, rfl⟩
  obtain ⟨t1, t2⟩ := al_loop hn n1 (3 * n - 3) mFu 3 (by omega) (by omega) (show _ < 6000 by omega)
  obtain ⟨s1, s2⟩ := ax1 K y hn n2 (3 * n - 3) mFu 3 (by omega) (show _ < 6000 by omega)
  by_cases z : ∀ q, 3 ≤ q → q < 3 * n → gA c (aM_pulls 1) q = gA c (aM_pulls 1) (q - 3)
  · have w : ∀ r t, t < 3 → 3 * r + t < 3 * n → gA c (aM_pulls 1) (3 * r + t) = gA c (aM_pulls 1) t := by
      intro r
      induction r with
      | zero => intro t ht hr; rw [show 3 * 0 + t = t by omega]
      | succ r ih =>
        intro t ht hr
        rw [z (3 * (r + 1) + t) (by omega) hr, show 3 * (r + 1) + t - 3 = 3 * r + t by omega]
        exact ih t ht (by omega)
    refine Or.inl ⟨t1 z, s1 (fun q q1 q2 => ?_)⟩
    rw [(hp q q2).1, (hp (q % 3) (by omega)).1]
    have := w (q / 3) (q % 3) (by omega) (by omega)
    rwa [show 3 * (q / 3) + q % 3 = q by omega] at this
  · have z' : ∃ q, 3 ≤ q ∧ q < 3 * n ∧ ¬ gA c (aM_pulls 1) q = gA c (aM_pulls 1) (q - 3) := by
      refine Classical.byContradiction (fun w => z (fun q q1 q2 => Classical.byContradiction (fun v => w ⟨q, q1, q2, v⟩)))
    refine Or.inr ⟨t2 z', s2 (Classical.byContradiction (fun w => z (fun q q1 q2 => ?_)))⟩
    have a1 : ∀ q, 3 ≤ q → q < 3 * n → gA x aX_pull q = gA x aX_pull (q % 3) := fun q q1 q2 => Classical.byContradiction (fun v => w ⟨q, q1, q2, v⟩)
    have a2 : ∀ q, q < 3 * n → gA x aX_pull q = gA x aX_pull (q % 3) := by
      intro q q2
      by_cases g : 3 ≤ q
      · exact a1 q g q2
      · rw [show q % 3 = q by omega]
    rw [← (hp q q2).1, ← (hp (q - 3) (by omega)).1, a2 q q2, a2 (q - 3) (by omega), show (q - 3) % 3 = q % 3 by omega]
theorem alike_loop {n W : Nat} : ∀ (q k i : Nat) (c x : mS), i + q = 100 → q < k → J 1 n W c x → same (fX10_alike_b13 k (nI i) c) (fX11_alike_b6 k (nI i) x) := by
  intro q
  induction q with
  | zero =>
    intro k i c x h1 h2 h
    obtain ⟨k, rfl⟩ : ∃ k', k = k' + 1 := ⟨k - 1, by omega⟩
    have z : nI 99 < nI i := (nLt (by omega) (by omega)).mpr (by omega)
    rw [fX10_alike_b13, fX11_alike_b6, if_pos z, if_pos z]
    exact same_bad h.1
  | succ q ih =>
    intro k i c x h1 h2 h
    obtain ⟨k, rfl⟩ : ∃ k', k = k' + 1 := ⟨k - 1, by omega⟩
    have z : ¬ nI 99 < nI i := fun z => absurd ((nLt (by omega) (by omega)).mp z) (by omega)
    rw [fX10_alike_b13, fX11_alike_b6, if_neg z, if_neg z, bnd_d, bnd_d]
    rcases al_both h (fun u0 u1 => fX11_alike_b6 k u0 u1) (nI i) with ⟨e1, e2⟩ | ⟨e1, e2⟩
    · rw [e1, e2, bO_s, i10]
      exact same_bad h.1
    · obtain ⟨c', x', g1, g2, -, -, g3⟩ := night_both h
      rw [e1, e2, bO_s, i00, g1, g2, bO_s, bO_s, bnd_d, bnd_d, nA]
      exact ih k (i + 1) c' x' (by omega) (by omega) g3
theorem z_alike {c x : mS} (h : Rel c x) : same (fX10_alike c) (fX11_alike x) := by
  unfold fX10_alike fX11_alike
  obtain ⟨n, W, c0, x0, b1, b2, b3, b4, hJ⟩ := begin1 h
  rw [b1, b2, bO_s, bO_s, bnd_d, bnd_d]
  exact alike_loop 100 mFu 0 c0 x0 (by omega) (by decide) hJ
