-- prices
theorem pr_loop {c x : mS} {n W m : Nat} (hM : rM 0 n c x) (hW : rW W c x) (hm : m < n) : ∀ (r k i : Nat) (best least : Int32), i + r = W → r < k → ((best = -2 ∧ least = -1) ∨ ∃ j d, j < W ∧ best = nI j ∧ least = nI d ∧ d ≤ 36 ∧ fX10_apart 0 (nI j) (nI m) c = some (nI d)) → ∃ best' least', fX10_nearestWriter_b5 k (nI m) best (nI i) c = some best' ∧ fX11_priceOf_b4 k (nI m) least (nI i) x = (if 0 ≤ least' then fX11_priceOf_b57 (nI m) ((nI 3) * least') (nI 100) x else fX11_priceOf_b57 (nI m) (nI 50) (nI 100) x) ∧ ((best' = -2 ∧ least' = -1) ∨ ∃ j d, j < W ∧ best' = nI j ∧ least' = nI d ∧ d ≤ 36 ∧ fX10_apart 0 (nI j) (nI m) c = some (nI d)) := by
  have hn := hW.1
  intro r
  induction r with
  | zero =>
    intro k i best least h1 h2 inv
    obtain ⟨k, rfl⟩ : ∃ k', k = k' + 1 := ⟨k - 1, by omega⟩
    have z : nI W ≤ nI i := (nLe (by omega) (by omega)).mpr (by omega)
    rw [fX10_nearestWriter_b5, fX11_priceOf_b4, hW.2.1, hW.2.2.1, if_pos z, if_pos z]
    exact ⟨best, least, rfl, rfl, inv⟩
  | succ r ih =>
    intro k i best least h1 h2 inv
    obtain ⟨k, rfl⟩ : ∃ k', k = k' + 1 := ⟨k - 1, by omega⟩
    obtain ⟨d, hd, f1, f2⟩ := far_both hM hW (show i < W by omega) hm
    have z : ¬ nI W ≤ nI i := fun z => absurd ((nLe (by omega) (by omega)).mp z) (by omega)
    rw [fX10_nearestWriter_b5, fX11_priceOf_b4, hW.2.1, hW.2.2.1, if_neg z, if_neg z, f2, bO_s, bnd_d]
    have take := ih k (i + 1) (nI i) (nI d) (by omega) (by omega) (Or.inr ⟨i, d, by omega, rfl, rfl, hd, f1⟩)
    unfold fX10_nearestWriter_b43 fX10_nearestWriter_b45 fX11_priceOf_b30 fX11_priceOf_b36
    rcases inv with ⟨rfl, rfl⟩ | ⟨j, e, hj, rfl, rfl, he, f3⟩
    · rw [if_pos (show (-2 : Int32) < 0 by decide), if_pos (show (-1 : Int32) < 0 by decide), bnd_d, bnd_d, bnd_d, bnd_d, nA]
      exact take
    · rw [if_neg (nNeg (by omega)), if_neg (nNeg (by omega)), f1, f3, bO_s, bO_s]
      by_cases g : nI e ≤ nI d
      · rw [if_pos g, if_pos g, bnd_d, bnd_d, bnd_d, nA]
        exact ih k (i + 1) (nI j) (nI e) (by omega) (by omega) (Or.inr ⟨j, e, hj, rfl, rfl, he, f3⟩)
      · rw [if_neg g, if_neg g, bnd_d, bnd_d, bnd_d, bnd_d, nA]
        exact take
theorem price_both {c x : mS} {n W m : Nat} (hM : rM 0 n c x) (hW : rW W c x) (hm : m < n) : ∃ p, fX10_pence (nI m) c = some p ∧ fX11_priceOf (nI m) x = some p := by
  have hW8 := hW.1
  obtain ⟨hn, n1, n2, hp, hg, -⟩ := id hM
  obtain ⟨b, l, e1, e2, e3⟩ := pr_loop hM hW hm W mFu 0 (-2) (-1) (by omega) (show W < 6000 by omega) (Or.inl ⟨rfl, rfl⟩)
  obtain ⟨a1, a, ha, a2⟩ := hg m hm
  have fin : ∀ t : Int32, ∃ p, fX10_pence_b27 (nI m) t c = some p ∧ fX11_priceOf_b57 (nI m) t (nI 100) x = some p := by
    intro t
    unfold fX10_pence_b27 fX11_priceOf_b57
    rw [bnd_d, ldA_n (by omega) (by omega), ldA_n (by omega) (by omega), a1, a2, bnd_d]
    generalize nI 100 - t - nI a / nI 2 = T
    by_cases g : T ≤ 0
    · rw [if_neg (show ¬ nI 0 < T from Int32.not_lt.mpr (by rw [nI_0]; exact g)), if_pos g]
      exact ⟨_, rfl, rfl⟩
    · rw [if_pos (show nI 0 < T by rw [nI_0]; exact Int32.not_le.mp g), if_neg g]
      exact ⟨_, rfl, rfl⟩
  unfold fX10_pence fX11_priceOf fX10_nearestWriter
  rw [bnd_d, bnd_d, bnd_d, bnd_d, e1, e2, bO_s, bnd_d]
  rcases e3 with ⟨rfl, rfl⟩ | ⟨j, d, hj, rfl, rfl, hd, f⟩
  · rw [if_neg (show ¬ (0 : Int32) ≤ -2 by decide), if_neg (show ¬ (0 : Int32) ≤ -1 by decide)]
    exact fin _
  · rw [if_pos (nI_pos' (by omega)), if_pos (nI_pos' (by omega)), f, bO_s]
    exact fin _
theorem z_price {c x : mS} (h : Rel c x) (a : Int32) : sameQ (fX10_price a c) c (fX11_price a x) := by
  unfold fX10_price fX11_price
  obtain ⟨⟨n, hn, n1, n2⟩, -⟩ := h.1
  rw [f_has6, n1, bO_s, b01_z, f_isMachine hn n2, bO_s, b01_z]
  by_cases ha : a < 0 ∨ nI n ≤ a
  · rw [if_pos ha, if_pos ha]; exact ⟨_, x, rfl, rfl, h⟩
  rw [if_neg ha, if_neg ha]
  obtain ⟨q, hq, rfl⟩ := nOfLt (fun z => ha (Or.inl z)) (fun z => ha (Or.inr z)) (by omega)
  obtain ⟨N, W, x0, b1, b2, hJ⟩ := begin0 h
  have eN : N = n := (nEq (by have := hJ.2.1.1; omega) (by omega)).mp (hJ.2.1.2.1.symm.trans n1)
  subst eN
  obtain ⟨p, p1, p2⟩ := price_both hJ.2.1 hJ.2.2 hq
  rw [p1, b1, bO_s, bO_s, p2, bO_s]
  exact ⟨p, x0, rfl, rfl, hJ.1⟩
theorem bit_n : ∀ q, q < 8 → ∀ v, v < 256 → (v &&& 2 ^ q = 0 ↔ v / 2 ^ q % 2 = 0) := by decide +kernel
theorem bit_c {v q : Nat} (hv : v < 256) (hq : q < 8) : (nI v &&& (nI 1 <<< (nI q &&& 31)) = 0) ↔ v / 2 ^ q % 2 = 0 := by
  rw [sh1_n q (by omega), and_n, ← nI_0, nEq (Nat.lt_of_le_of_lt Nat.and_le_left (by omega)) (by omega), bit_n q hq v hv]
theorem bit_x {v q : Nat} (hv : v < 256) (hq : q < 8) : ((nI v >>> (nI q &&& 31)) &&& nI 1 = nI 1) ↔ ¬ v / 2 ^ q % 2 = 0 := by
  rw [shr_n q hq v hv, nEq (by omega) (by omega)]
  omega
/-- the pence of a set, as the class and as the reference sum them -/
theorem sum_loop {c x : mS} {n v : Nat} (hv : v < 256) (hn : n ≤ 8) (n1 : gI c (iM_size 0) = nI n) (n2 : gI x iX_machines = nI n) (hp : ∀ i, i < n → fX11_priceOf (nI i) x = some (gA c aT_prices i)) (K : Int32 → Int32 → Int32 → Int32 → Int32 → mS → Option (Int32 × mS)) (y1 y2 y3 y4 : Int32) : ∀ (r k i : Nat) (s : Int32), i + r = n → r < k → ∃ S, fX10_penceOf_b4 k (nI v) s (nI i) c = some S ∧ ∃ k', fX11_buy_b53 K k y1 y2 y3 y4 (nI v) s (nI i) x = fX11_buy_b53 K (k' + 1) y1 y2 y3 y4 (nI v) S (nI n) x := by
  intro r
  induction r with
  | zero =>
    intro k i s h1 h2
    obtain ⟨k, rfl⟩ : ∃ k', k = k' + 1 := ⟨k - 1, by omega⟩
    have z : nI n ≤ nI i := (nLe (by omega) (by omega)).mpr (by omega)
    rw [fX10_penceOf_b4, n1, if_pos z, show i = n by omega]
    exact ⟨s, rfl, k, rfl⟩
  | succ r ih =>
    intro k i s h1 h2
    obtain ⟨k, rfl⟩ : ∃ k', k = k' + 1 := ⟨k - 1, by omega⟩
    have z : ¬ nI n ≤ nI i := fun z => absurd ((nLe (by omega) (by omega)).mp z) (by omega)
    rw [fX10_penceOf_b4, fX11_buy_b53, n1, n2, if_neg z, if_neg z]
    unfold fX10_penceOf_b32 fX11_buy_b85
    by_cases g : v / 2 ^ i % 2 = 0
    · rw [if_pos ((bit_c hv (by omega)).mpr g), if_neg (fun z => (bit_x hv (by omega)).mp z g), bnd_d, bnd_d, bnd_d, nA, nI_0, Int32.add_zero]
      exact ih k (i + 1) s (by omega) (by omega)
    · rw [if_neg (fun z => g ((bit_c hv (by omega)).mp z)), if_pos ((bit_x hv (by omega)).mpr g), hp i (by omega), bO_s, ldA_n (by omega) (by omega), bnd_d, bnd_d, bnd_d, bnd_d, nA]
      exact ih k (i + 1) _ (by omega) (by omega)
theorem buy_loop {c x : mS} {n : Nat} (hR : Rel c x) (hn : n ≤ 8) (n1 : gI c (iM_size 0) = nI n) (n2 : gI x iX_machines = nI n) (hp : ∀ i, i < n → fX11_priceOf (nI i) x = some (gA c aT_prices i)) (y1 y2 : Int32) : ∀ (r k i b : Nat) (s : Int32), i + r = 2 ^ n → r < k → b < 256 → same (fX10_buy_b60 k y1 y2 (nI b) s (nI i) c) (fX11_buy_b36 k y1 y2 (nI b) s (nI i) x) := by
  have hp2 : 2 ^ n ≤ 256 := show 2 ^ n ≤ 2 ^ 8 from Nat.pow_le_pow_right (by omega) hn
  have sh := sh1_n n (by omega)
  intro r
  induction r with
  | zero =>
    intro k i b s h1 h2 hb
    obtain ⟨k, rfl⟩ : ∃ k', k = k' + 1 := ⟨k - 1, by omega⟩
    have z : nI (2 ^ n) ≤ nI i := (nLe (by omega) (by omega)).mpr (by omega)
    rw [fX10_buy_b60, fX11_buy_b36, n1, n2, sh, if_pos z, if_pos z, bc_n hb, bo_n hb, bO_s, bO_s]
    by_cases g : y2 = 0
    · rw [if_pos g, if_pos g]; exact same_bad hR
    · rw [if_neg g, if_neg g]; exact same_bad hR
  | succ r ih =>
    intro k i b s h1 h2 hb
    obtain ⟨k, rfl⟩ : ∃ k', k = k' + 1 := ⟨k - 1, by omega⟩
    have hi : i < 256 := by omega
    have z : ¬ nI (2 ^ n) ≤ nI i := fun z => absurd ((nLe (by omega) (by omega)).mp z) (by omega)
    obtain ⟨S, e1, k', e2⟩ := sum_loop hi hn n1 n2 hp (fun u0 u1 u2 u3 u4 u5 => fX11_buy_b36 k u0 u1 u2 u3 u4 u5) y1 y2 (nI b) s n mFu 0 (nI 0) (by omega) (show n < 6000 by omega)
    have zn : nI n ≤ nI n := (nLe (by omega) (by omega)).mpr (by omega)
    have pb : ∀ v, popc v ≤ 8 := by intro v; unfold popc; omega
    have pi := pb i
    have pbb := pb b
    rw [fX10_buy_b60, fX11_buy_b36, n1, n2, sh, if_neg z, if_neg z, bnd_d, bnd_d, e2, fX11_buy_b53, n2, if_pos zn]
    unfold fX10_penceOf fX10_buy_b117 fX10_buy_b124 fX11_buy_b131 fX11_buy_b138
    rw [bnd_d, bnd_d, e1, bO_s, bnd_d, bc_n hi, bc_n hb, bo_n hi, bo_n hb, bO_s, bO_s, bO_s, bO_s, bO_s, bO_s]
    simp only [bnd_d, nA]
    have no := ih k (i + 1) b s (by omega) (by omega) hb
    have yes := ih k (i + 1) i S (by omega) (by omega) hi
    by_cases g0 : y1 < S
    · rw [if_pos g0, if_pos g0]; exact no
    rw [if_neg g0, if_neg g0]
    by_cases g1 : popc b < popc i
    · have w : 0 < nI (popc i) - nI (popc b) := by rw [nSb (by omega), ← nI_0, nLt (by omega) (by omega)]; omega
      rw [if_pos w, if_pos ((nLt (by omega) (by omega)).mpr g1)]; exact yes
    have w2 : ¬ nI (popc b) < nI (popc i) := fun z => g1 ((nLt (by omega) (by omega)).mp z)
    rw [if_neg w2]
    by_cases g2 : popc i = popc b
    · have w : nI (popc i) - nI (popc b) = 0 := by rw [g2, nSb (by omega), Nat.sub_self, nI_0]
      rw [w, if_neg (show ¬ (0 : Int32) < 0 by decide), if_pos (show (0 : Int32) = 0 from rfl), if_pos (show nI (popc i) = nI (popc b) by rw [g2])]
      by_cases g3 : s ≤ S
      · rw [if_pos g3, if_pos g3]; exact no
      · rw [if_neg g3, if_neg g3]; exact yes
    · have w : nI (popc i) - nI (popc b) < 0 := by
        rw [Int32.lt_iff_toInt_lt, Int32.toInt_sub, nI_toInt (by omega), nI_toInt (by omega), Int.bmod_eq_of_le (by omega) (by omega)]
        have : (0 : Int32).toInt = 0 := by decide
        omega
      have w3 : ¬ 0 < nI (popc i) - nI (popc b) := fun z => by
        rw [Int32.lt_iff_toInt_lt] at z w
        omega
      have w4 : ¬ nI (popc i) - nI (popc b) = 0 := fun z => by rw [z] at w; exact absurd w (by decide)
      rw [if_neg w3, if_neg w4, if_neg (nlit_ne (by omega) (by omega) g2)]; exact no
theorem bp_loop {x : mS} {n W : Nat} (y1 y2 : Int32) : ∀ (r k i : Nat) (c : mS), i + r = n → r < k → J 0 n W c x → (∀ j, j < i → fX11_priceOf (nI j) x = some (gA c aT_prices j)) → ∃ c', fX10_buy_b24 k y1 y2 (nI i) c = fX10_buy_b60 mFu y1 y2 (nI 0) (nI 0) (nI 1) c' ∧ smC c c' ∧ J 0 n W c' x ∧ ∀ j, j < n → fX11_priceOf (nI j) x = some (gA c' aT_prices j) := by
  intro r
  induction r with
  | zero =>
    intro k i c h1 h2 hJ hp
    obtain ⟨k, rfl⟩ : ∃ k', k = k' + 1 := ⟨k - 1, by omega⟩
    have hn := hJ.2.1.1
    rw [fX10_buy_b24, hJ.2.1.2.1, if_pos ((nLe (by omega) (by omega)).mpr (by omega)), bnd_d, bnd_d, bnd_d]
    exact ⟨c, rfl, smC.rf c, hJ, fun j hj => hp j (by omega)⟩
  | succ r ih =>
    intro k i c h1 h2 hJ hp
    obtain ⟨k, rfl⟩ : ∃ k', k = k' + 1 := ⟨k - 1, by omega⟩
    have hn := hJ.2.1.1
    obtain ⟨p, p1, p2⟩ := price_both hJ.2.1 hJ.2.2 (show i < n by omega)
    rw [fX10_buy_b24, hJ.2.1.2.1, if_neg (fun z => absurd ((nLe (by omega) (by omega)).mp z) (by omega)), p1, bO_s, stA_n (by omega) (by omega), bnd_d, nA]
    have s1 : smC c (pA c aT_prices i p) := (smC.rf c).pA _ _ _ (by decide)
    have hJ1 : J 0 n W (pA c aT_prices i p) x := by
      refine ⟨hJ.1.sm s1 (smX.rf x), ?_, hJ.2.2.keep s1 (smX.rf x)⟩
      obtain ⟨hn, m1, m2, hp, hg, hr⟩ := hJ.2.1
      refine ⟨hn, m1, m2, fun i hi => ?_, fun i hi => ?_, hr⟩
      · rw [gA_ne (by decide)]; exact hp i hi
      · rw [gA_ne (by decide)]; exact hg i hi
    obtain ⟨c', e1, e2, e3, e4⟩ := ih k (i + 1) _ (by omega) (by omega) hJ1 (fun j hj => by
      rw [gA_eq]
      by_cases e : j = i
      · rw [if_pos e, e]; exact p2
      · rw [if_neg e]; exact hp j (by omega))
    exact ⟨c', e1, s1.tr e2, e3, e4⟩
theorem z_buy {c x : mS} (h : Rel c x) (a b : Int32) : same (fX10_buy a b c) (fX11_buy a b x) := by
  unfold fX10_buy fX11_buy
  rw [f_win a 999 999 (by decide), bO_s, b01_z, f_win b 1 1 (by decide), bO_s, b01_z, ite_or, ite_in]
  by_cases ha : a < 0 ∨ nI 999 < a
  · rw [if_pos ha, if_pos ha]; exact same_bad h
  rw [if_neg ha, if_neg ha]
  by_cases hb : b < 0 ∨ nI 1 < b
  · rw [if_pos hb, if_pos hb]; exact same_bad h
  rw [if_neg hb, if_neg hb]
  obtain ⟨n, W, x0, b1, b2, hJ⟩ := begin0 h
  have hn := hJ.2.1.1
  obtain ⟨c', e1, e2, e3, e4⟩ := bp_loop a b n mFu 0 c (by omega) (show n < 6000 by omega) hJ (fun j hj => absurd hj (by omega))
  rw [b1, bO_s, bnd_d, bnd_d, bnd_d, bnd_d, e1]
  have hp2 : 2 ^ n ≤ 256 := show 2 ^ n ≤ 2 ^ 8 from Nat.pow_le_pow_right (by omega) hn
  have hp0 : 1 ≤ 2 ^ n := Nat.one_le_two_pow
  exact buy_loop e3.1 hn e3.2.1.2.1 e3.2.1.2.2.1 e4 a b (2 ^ n - 1) mFu 1 0 (nI 0) (by omega) (show _ < 6000 by omega) (by omega)
