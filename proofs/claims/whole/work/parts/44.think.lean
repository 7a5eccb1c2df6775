-- machines in thought: the class's Machines k and the reference's pull, age, ribbon
def rM (k n : Nat) (c x : mS) : Prop := n ≤ 8 ∧ gI c (iM_size k) = nI n ∧ gI x iX_machines = nI n ∧ (∀ i, i < 3 * n → gA x aX_pull i = gA c (aM_pulls k) i ∧ ∃ v, v ≤ 12 ∧ gA c (aM_pulls k) i = nI v) ∧ (∀ i, i < n → gA x aX_age i = gA c (aM_ages k) i ∧ ∃ v, v ≤ 99 ∧ gA c (aM_ages k) i = nI v) ∧ gI x iX_ribbon = gI c (iM_ribbon k) ∧ ∃ v, v ≤ 9 ∧ gI c (iM_ribbon k) = nI v
/-- the writers' numbers, as later reads need them -/
def rW (W : Nat) (c x : mS) : Prop := W ≤ 8 ∧ gI c (iW_size 0) = nI W ∧ gI x iX_writers = nI W ∧ (∀ i, i < 24 → gA x aX_may (32 + i) = gA c (aW_hands 0) i ∧ ∃ v, v ≤ 12 ∧ gA c (aW_hands 0) i = nI v) ∧ (∀ i, i < 8 → gA x aX_may (56 + i) = gA c (aW_touches 0) i ∧ ∃ v, v ≤ 12 ∧ gA c (aW_touches 0) i = nI v)
theorem Rel.rW {c x : mS} (h : Rel c x) : ∃ W, rW W c x := by
  obtain ⟨-, ⟨W, hW, w1, w2⟩, -, -, hh, ht, -⟩ := h.1
  exact ⟨W, hW, w1, w2, hh, ht⟩
theorem bg1_loop : ∀ (m k i : Nat) (x : mS), i + m = 24 → m < k → ∃ x', fX11_begins_b2 k (nI i) x = fX11_begins_b28 mFu (nI 0) x' ∧ smX x x' ∧ (∀ j, j ≠ aX_pull → ∀ q, gA x' j q = gA x j q) ∧ ∀ q, gA x' aX_pull q = if i ≤ q ∧ q < 24 then gA x aX_may q else gA x aX_pull q := by
  intro m
  induction m with
  | zero =>
    intro k i x h1 h2
    obtain ⟨k, rfl⟩ : ∃ k', k = k' + 1 := ⟨k - 1, by omega⟩
    rw [fX11_begins_b2, if_pos ((nLe (by omega) (by omega)).mpr (by omega)), bnd_d]
    exact ⟨x, rfl, smX.rf x, fun _ _ _ => rfl, fun q => by rw [if_neg (by omega)]⟩
  | succ m ih =>
    intro k i x h1 h2
    obtain ⟨k, rfl⟩ : ∃ k', k = k' + 1 := ⟨k - 1, by omega⟩
    rw [fX11_begins_b2, if_neg (fun z => absurd ((nLe (by omega) (by omega)).mp z) (by omega)), ldA_n (by omega) (by omega), stA_n (by omega) (by omega), bnd_d, nA]
    obtain ⟨x', e1, e2, e4, e5⟩ := ih k (i + 1) (pA x aX_pull i (gA x aX_may i)) (by omega) (by omega)
    refine ⟨x', e1, ((smX.rf x).pA aX_pull i _ (by decide)).tr e2, fun j hj q => by rw [e4 j hj, gA_ne hj], fun q => ?_⟩
    rw [e5, gA_ne (show aX_may ≠ aX_pull by decide), gA_eq]
    by_cases hq : q = i
    · rw [if_neg (show ¬ (i + 1 ≤ q ∧ q < 24) by omega), if_pos hq, if_pos (show i ≤ q ∧ q < 24 by omega), hq]
    · by_cases hr : i + 1 ≤ q ∧ q < 24
      · rw [if_pos hr, if_pos (show i ≤ q ∧ q < 24 by omega)]
      · rw [if_neg hr, if_neg hq, if_neg (show ¬ (i ≤ q ∧ q < 24) by omega)]
theorem bg2_loop : ∀ (m k i : Nat) (x : mS), i + m = 8 → m < k → ∃ x', fX11_begins_b28 k (nI i) x = some x' ∧ smX x x' ∧ (∀ j, j ≠ aX_age → ∀ q, gA x' j q = gA x j q) ∧ gI x' iX_ribbon = gA x aX_may 64 ∧ ∀ q, gA x' aX_age q = if i ≤ q ∧ q < 8 then gA x aX_may (24 + q) else gA x aX_age q := by
  intro m
  induction m with
  | zero =>
    intro k i x h1 h2
    obtain ⟨k, rfl⟩ : ∃ k', k = k' + 1 := ⟨k - 1, by omega⟩
    rw [fX11_begins_b28, if_pos ((nLe (by omega) (by omega)).mpr (by omega)), ldA_n (by omega) (by omega), bnd_d]
    exact ⟨_, rfl, (smX.rf x).pI iX_ribbon _ (by decide), fun _ _ _ => rfl, gI_eq, fun q => by rw [if_neg (by omega)]; rfl⟩
  | succ m ih =>
    intro k i x h1 h2
    obtain ⟨k, rfl⟩ : ∃ k', k = k' + 1 := ⟨k - 1, by omega⟩
    rw [fX11_begins_b28, if_neg (fun z => absurd ((nLe (by omega) (by omega)).mp z) (by omega)), nA, ldA_n (by omega) (by omega), stA_n (by omega) (by omega), bnd_d, nA]
    obtain ⟨x', e1, e2, e4, e6, e5⟩ := ih k (i + 1) (pA x aX_age i (gA x aX_may (24 + i))) (by omega) (by omega)
    refine ⟨x', e1, ((smX.rf x).pA aX_age i _ (by decide)).tr e2, fun j hj q => by rw [e4 j hj, gA_ne hj], by rw [e6, gA_ne (by decide)], fun q => ?_⟩
    rw [e5, gA_ne (show aX_may ≠ aX_age by decide), gA_eq]
    by_cases hq : q = i
    · rw [if_neg (show ¬ (i + 1 ≤ q ∧ q < 8) by omega), if_pos hq, if_pos (show i ≤ q ∧ q < 8 by omega), hq]
    · by_cases hr : i + 1 ≤ q ∧ q < 8
      · rw [if_pos hr, if_pos (show i ≤ q ∧ q < 8 by omega)]
      · rw [if_neg hr, if_neg hq, if_neg (show ¬ (i ≤ q ∧ q < 8) by omega)]
theorem begins_ok (x : mS) : ∃ x', fX11_begins x = some x' ∧ smX x x' ∧ (∀ q, q < 24 → gA x' aX_pull q = gA x aX_may q) ∧ (∀ q, q < 8 → gA x' aX_age q = gA x aX_may (24 + q)) ∧ gI x' iX_ribbon = gA x aX_may 64 := by
  unfold fX11_begins
  rw [bnd_d]
  obtain ⟨x1, e1, e2, e3, e4⟩ := bg1_loop 24 mFu 0 x (by omega) (by decide)
  obtain ⟨x2, f1, f2, f3, f5, f4⟩ := bg2_loop 8 mFu 0 x1 (by omega) (by decide)
  rw [e1, f1]
  refine ⟨x2, rfl, e2.tr f2, fun q hq => ?_, fun q hq => ?_, ?_⟩
  · rw [f3 _ (by decide), e4, if_pos ⟨Nat.zero_le _, hq⟩]
  · rw [f4, if_pos ⟨Nat.zero_le _, hq⟩, e3 _ (by decide)]
  · rw [f5, e3 _ (by decide)]
/-- the reference begins: its machines in thought are the class's own -/
theorem begins_both {c x : mS} (h : Rel c x) : ∃ n x', fX11_begins x = some x' ∧ smX x x' ∧ Rel c x' ∧ rM 0 n c x' := by
  obtain ⟨x', e1, e2, e3, e4, e5⟩ := begins_ok x
  have h' : Rel c x' := h.sm (smC.rf c) e2
  obtain ⟨⟨n, hn, n1, n2⟩, -, hp, hg, -, -, hr⟩ := h.1
  obtain ⟨⟨n', -, m1, m2⟩, -⟩ := h'.1
  refine ⟨n, x', e1, e2, h', hn, n1, by rw [m2, ← m1, n1], fun i hi => ?_, fun i hi => ?_, ?_⟩
  · rw [e3 i (by omega)]; exact hp i (by omega)
  · rw [e4 i (by omega)]; exact hg i (by omega)
  · rw [e5]; exact hr
/-- the class copies: its machines in thought are its own -/
theorem copy_both {c x : mS} {n : Nat} (h : rM 0 n c x) : ∃ c', fX6_copy 1 0 c = some c' ∧ smC c c' ∧ rM 1 n c' x := by
  obtain ⟨hn, n1, n2, hp, hg, hr⟩ := h
  unfold fX6_copy fX6_layBack
  rw [n1, nM, cpA_n (by omega) (by omega) (by omega) (by omega)]
  have a1 : gI (wA c (aM_pulls 1) (va_cpy (c.2.1 (aM_pulls 0)) (c.2.1 (aM_pulls 1)) 0 0 (3 * n))) (iM_size 0) = nI n := n1
  rw [a1, cpA_n (by omega) (by omega) (by omega) (by omega), bO_s, bnd_d, bnd_d]
  have q1 : ∀ (f g : Nat → Int32) (m i : Nat), i < m → va_cpy f g 0 0 m i = f i := by
    intro f g m i hi
    rw [cpy_at, if_pos ⟨Nat.zero_le _, by omega⟩, Nat.sub_zero, Nat.zero_add]
  refine ⟨_, rfl, ?_, hn, n1, n2, fun i hi => ?_, fun i hi => ?_, hr⟩
  · exact ((((smC.rf c).wA (aM_pulls 1) _ (by decide)).wA (aM_ages 1) _ (by decide)).pI (iM_size 1) _ (by decide)).pI (iM_ribbon 1) _ (by decide)
  · have z : ∀ t, t = gA c (aM_pulls 0) i → (gA x aX_pull i = t ∧ ∃ v, v ≤ 12 ∧ t = nI v) := by
      intro t ht
      rw [ht]
      exact hp i hi
    exact z _ (q1 (c.2.1 (aM_pulls 0)) (c.2.1 (aM_pulls 1)) (3 * n) i hi)
  · have z : ∀ t, t = gA c (aM_ages 0) i → (gA x aX_age i = t ∧ ∃ v, v ≤ 99 ∧ t = nI v) := by
      intro t ht
      rw [ht]
      exact hg i hi
    exact z _ (q1 (c.2.1 (aM_ages 0)) (c.2.1 (aM_ages 1)) n i hi)
/-- how far two numbers are apart -/
def dst (u v : Nat) : Nat := if u ≤ v then v - u else u - v
theorem dst_c {u v : Nat} (hu : u ≤ 12) (hv : v ≤ 12) : (if 0 ≤ nI u - nI v then nI u - nI v else 0 - (nI u - nI v)) = nI (dst u v) := by
  unfold dst
  by_cases h : v ≤ u
  · rw [nSb h, if_pos (nI_pos' (by omega))]
    by_cases e : u ≤ v
    · rw [if_pos e, show u - v = v - u by omega]
    · rw [if_neg e]
  · have hlt : ¬ (0 : Int32) ≤ nI u - nI v := by
      rw [Int32.le_iff_toInt_le, Int32.toInt_sub, nI_toInt (by omega), nI_toInt (by omega), Int.bmod_eq_of_le (by omega) (by omega)]
      have : (0 : Int32).toInt = 0 := by decide
      omega
    rw [if_neg hlt, if_pos (by omega)]
    apply Int32.toInt_inj.mp
    rw [Int32.toInt_sub, Int32.toInt_sub, nI_toInt (by omega), nI_toInt (by omega), nI_toInt (by omega), show (0 : Int32).toInt = 0 by decide]
    rw [Int.bmod_eq_of_le (n := (u : Int) - v) (by omega) (by omega), Int.bmod_eq_of_le (by omega) (by omega)]
    omega
theorem dst_x {u v : Nat} (hu : u ≤ 12) (hv : v ≤ 12) (s : mS) : fX11_apart (nI u) (nI v) s = some (nI (dst u v)) := by
  unfold fX11_apart dst
  by_cases h : u ≤ v
  · rw [if_pos ((nLe (by omega) (by omega)).mpr h), if_pos h, nSb h]
  · rw [if_neg (fun z => h ((nLe (by omega) (by omega)).mp z)), if_neg h, nSb (by omega)]
theorem dst_le {u v : Nat} (hu : u ≤ 12) (hv : v ≤ 12) : dst u v ≤ 12 := by
  unfold dst
  split <;> omega
theorem far_both {c x : mS} {k n W w m : Nat} (hM : rM k n c x) (hW : rW W c x) (hw : w < W) (hm : m < n) : ∃ d, d ≤ 36 ∧ fX10_apart k (nI w) (nI m) c = some (nI d) ∧ fX11_farOf (nI w) (nI m) x = some (nI d) := by
  obtain ⟨hn, n1, n2, hp, hg, hr⟩ := hM
  obtain ⟨hW8, w1, w2, hh, ht⟩ := hW
  unfold fX10_apart fX11_farOf
  rw [bnd_d, bnd_d, bnd_d, bnd_d]
  obtain ⟨f, hf⟩ : ∃ f, mFu = f + 4 := ⟨5996, rfl⟩
  have st : ∀ (i : Nat) (hi : i < 3) (f q : Nat), q ≤ 1000 → ∃ d, d ≤ 12 ∧ fX10_apart_b6 (f + 1) k (nI w) (nI m) (nI q) (nI i) c = fX10_apart_b6 f k (nI w) (nI m) (nI (q + d)) (nI (i + 1)) c ∧ fX11_farOf_b5 (f + 1) (nI w) (nI m) (nI q) (nI i) x = fX11_farOf_b5 f (nI w) (nI m) (nI (q + d)) (nI (i + 1)) x := by
    intro i hi f q hq
    obtain ⟨p1, u, hu, p2⟩ := hp (3 * m + i) (by omega)
    obtain ⟨q1, v, hv, q2⟩ := hh (3 * w + i) (by omega)
    refine ⟨dst v u, dst_le hv hu, ?_, ?_⟩
    · rw [fX10_apart_b6, if_neg (fun z => absurd ((nLe (by omega) (by omega)).mp z) (by omega))]
      unfold fX9_hand fX6_pull
      rw [nM, nA, nM, nA, ldA_n (by omega) (by omega), ldA_n (by omega) (by omega), bO_s, bO_s, q2, p2, dst_c hv hu, bnd_d, bnd_d, nA, nA]
    · rw [fX11_farOf_b5, if_neg (fun z => absurd ((nLe (by omega) (by omega)).mp z) (by omega))]
      unfold fX11_handOf
      rw [nM, nA, nA, nM, nA, show 32 + 3 * w + i = 32 + (3 * w + i) by omega, ldA_n (by omega) (by omega), bO_s, ldA_n (by omega) (by omega), q1, q2, p1, p2, dst_x hv hu, bO_s, bnd_d, bnd_d, nA, nA]
  rw [hf]
  obtain ⟨d0, b0, c0, x0⟩ := st 0 (by omega) (f + 3) 0 (by omega)
  obtain ⟨d1, b1, c1, x1⟩ := st 1 (by omega) (f + 2) (0 + d0) (by omega)
  obtain ⟨d2, b2, c2, x2⟩ := st 2 (by omega) (f + 1) (0 + d0 + d1) (by omega)
  rw [c0, c1, c2, x0, x1, x2, fX10_apart_b6, fX11_farOf_b5, if_pos (show nI 3 ≤ nI (2 + 1) by decide), if_pos (show nI 3 ≤ nI (2 + 1) by decide)]
  exact ⟨0 + d0 + d1 + d2, by omega, rfl, rfl⟩
/-- answers of which the class's keeps its state -/
def sameQ {α : Type} (o : Option α) (c : mS) (p : Option (α × mS)) : Prop := ∃ r x, o = some r ∧ p = some (r, x) ∧ Rel c x
theorem z_far {c x : mS} (h : Rel c x) (a : Int32) : sameQ (fX10_far a c) c (fX11_far a x) := by
  unfold fX10_far fX11_far
  rcases pair_both h a with ⟨h1, h2⟩ | ⟨n, W, m, w, hn, hW, hm, hw, n1, n2, w1, w2, e1, e2, h1, h2⟩
  · rw [h1, h2, bO_s, bO_s, i00, i00]; exact ⟨_, x, rfl, rfl, h⟩
  rw [h1, h2, bO_s, bO_s, i10, i10, e2, e1]
  obtain ⟨N, x', b1, b2, b3, b4⟩ := begins_both h
  obtain ⟨W', r⟩ := b3.rW
  have eN : N = n := (nEq (by have := b4.1; omega) (by omega)).mp (b4.2.1.symm.trans n1)
  have eW : W' = W := (nEq (by have := r.1; omega) (by omega)).mp (r.2.1.symm.trans w1)
  subst eN
  subst eW
  obtain ⟨d, hd, f1, f2⟩ := far_both b4 r hw hm
  rw [b1, bO_s, f1, f2, bO_s, bO_s]
  exact ⟨_, x', rfl, rfl, b3⟩
