-- given: the reference's side
def FRg (p : Nat) (x x' : mS) : Prop := smX x x' ∧ (∀ k, gI x' k = gI x k) ∧ (∀ k, k ≠ aX_restGets → ∀ j, gA x' k j = gA x k j) ∧ ∀ j, j ≠ p → gA x' aX_restGets j = gA x aX_restGets j
theorem FRg.rf (p : Nat) (x : mS) : FRg p x x := ⟨smX.rf x, fun _ => rfl, fun _ _ _ => rfl, fun _ _ => rfl⟩
theorem FRg.tr {p : Nat} {x y z : mS} (h : FRg p x y) (g : FRg p y z) : FRg p x z := ⟨h.1.tr g.1, fun k => (g.2.1 k).trans (h.2.1 k), fun k hk j => (g.2.2.1 k hk j).trans (h.2.2.1 k hk j), fun j hj => (g.2.2.2 j hj).trans (h.2.2.2 j hj)⟩
theorem FRg.one (p : Nat) (x : mS) (v : Int32) : FRg p x (pA x aX_restGets p v) := ⟨(smX.rf x).pA _ _ _ (by decide), fun _ => rfl, fun k hk j => gA_ne hk, fun j hj => by rw [gA_eq, if_neg hj]⟩
theorem J.fr {n W p : Nat} {c x x' : mS} (h : J 0 n W c x) (g : FRg p x x') : J 0 n W c x' := h.x0 g.1 g.2.1 (fun k _ h2 _ i => g.2.2.1 k h2 i)
def encX (s : Option (Nat × Nat)) (y4 z : Int32) : Prop := match s with
  | none => y4 = -1
  | some (v, i) => y4 = nI v ∧ z = nI i
theorem gq_loop {fr : Nat → Nat → Nat} {g : Nat → Nat} {n W w M : Nat} {c : mS} {y1 : Int32} (K43 : Int32 → Int32 → mS → Option (Int32 × mS)) (K49 : Int32 → Int32 → Int32 → mS → Option (Int32 × mS)) (hn : n ≤ 8) (hW : W ≤ 8) (hw : w < W) (hM : M < 2 ^ n) (hf : ∀ w q, w < W → q < n → fr w q ≤ 36) (hg : ∀ M', g M' ≤ 1000) (hfx : ∀ x', J 0 n W c x' → ∀ w q, w < W → q < n → fX11_farOf (nI w) (nI q) x' = some (nI (fr w q))) : ∀ (r k i : Nat) (y4 : Int32) (x : mS), i + r = n → r < k → J 0 n W c x → ∃ y4' x', fX11_given_b77 K43 K49 k y1 (nI w) (nI M) y4 (nI i) x = fX11_given_b191 K43 K49 y1 (nI w) (nI M) y4' x' ∧ FRg (256 * w + M) x x' ∧ ((∀ q, q < n → M / 2 ^ q % 2 = 0 → gA x aX_restFar (256 * (w + 1) + (M ||| 2 ^ q)) = nI (g (M ||| 2 ^ q))) → encX (mf (cnd fr g w M) i) y4 (gA x aX_restGets (256 * w + M)) → encX (mf (cnd fr g w M) n) y4' (gA x' aX_restGets (256 * w + M))) := by
  have hM8 : M < 256 := Nat.lt_of_lt_of_le hM (show 2 ^ n ≤ 2 ^ 8 from Nat.pow_le_pow_right (by omega) hn)
  intro r
  induction r with
  | zero =>
    intro k i y4 x h1 h2 hJ
    obtain ⟨k, rfl⟩ : ∃ k', k = k' + 1 := ⟨k - 1, by omega⟩
    obtain rfl : i = n := by omega
    rw [fX11_given_b77, hJ.2.1.2.2.1, if_pos ((nLe (by omega) (by omega)).mpr (by omega))]
    exact ⟨y4, x, rfl, FRg.rf _ x, fun _ z => z⟩
  | succ r ih =>
    intro k i y4 x h1 h2 hJ
    obtain ⟨k, rfl⟩ : ∃ k', k = k' + 1 := ⟨k - 1, by omega⟩
    rw [fX11_given_b77, hJ.2.1.2.2.1, if_neg (fun z => absurd ((nLe (by omega) (by omega)).mp z) (by omega)), hJ.2.2.2.2.1, if_neg (fun z => absurd ((nLe (by omega) (by omega)).mp z) (by omega))]
    have mstep : mf (cnd fr g w M) (i + 1) = (match cnd fr g w M i with | none => mf (cnd fr g w M) i | some v => match mf (cnd fr g w M) i with | none => some (v, i) | some (u, j) => if u ≤ v then some (u, j) else some (v, i)) := rfl
    -- going on without taking
    have no : ∃ y4' x', fX11_given_b185 K43 K49 (fun u0 u1 u2 u3 u4 u5 => fX11_given_b77 K43 K49 k u0 u1 u2 u3 u4 u5) y1 (nI w) (nI M) y4 (nI i) x = fX11_given_b191 K43 K49 y1 (nI w) (nI M) y4' x' ∧ FRg (256 * w + M) x x' ∧ ((∀ q, q < n → M / 2 ^ q % 2 = 0 → gA x aX_restFar (256 * (w + 1) + (M ||| 2 ^ q)) = nI (g (M ||| 2 ^ q))) → encX (mf (cnd fr g w M) (i + 1)) y4 (gA x aX_restGets (256 * w + M)) → encX (mf (cnd fr g w M) n) y4' (gA x' aX_restGets (256 * w + M))) := by
      unfold fX11_given_b185
      rw [bnd_d, nA]
      exact ih k (i + 1) y4 x (by omega) (by omega) hJ
    -- taking
    have yes : ∀ v : Int32, ∃ y4' x', fX11_given_b167 K43 K49 (fun u0 u1 u2 u3 u4 u5 => fX11_given_b77 K43 K49 k u0 u1 u2 u3 u4 u5) y1 (nI w) (nI M) (nI i) v x = fX11_given_b191 K43 K49 y1 (nI w) (nI M) y4' x' ∧ FRg (256 * w + M) x x' ∧ ((∀ q, q < n → M / 2 ^ q % 2 = 0 → gA x aX_restFar (256 * (w + 1) + (M ||| 2 ^ q)) = nI (g (M ||| 2 ^ q))) → encX (mf (cnd fr g w M) (i + 1)) v (nI i) → encX (mf (cnd fr g w M) n) y4' (gA x' aX_restGets (256 * w + M))) := by
      intro v
      unfold fX11_given_b167 fX11_given_b185
      rw [bnd_d, nM, nA, stA_n (by omega) (by omega), bnd_d, nA]
      have fo := FRg.one (256 * w + M) x (nI i)
      obtain ⟨y4', x', e1, e2, e3⟩ := ih k (i + 1) v (pA x aX_restGets (256 * w + M) (nI i)) (by omega) (by omega) (hJ.fr fo)
      refine ⟨y4', x', e1, fo.tr e2, fun hq he => e3 (fun q hq' hb => by rw [gA_ne (by decide)]; exact hq q hq' hb) ?_⟩
      rw [gA_eq, if_pos rfl]
      exact he
    by_cases b : M / 2 ^ i % 2 = 0
    · have hlt : M ||| 2 ^ i < 256 := Nat.or_lt_two_pow (n := 8) hM8 (show 2 ^ i < 2 ^ 8 from Nat.pow_lt_pow_right (by omega) (by omega))
      have ec : cnd fr g w M i = some (fr w i + g (M ||| 2 ^ i)) := by unfold cnd; rw [if_pos b]
      rw [ec] at mstep
      rw [if_neg (fun z => (bit_x hM8 (by omega)).mp z b), sh1_n i (by omega), or_n, nA, nM, nA, ldA_n (by omega) (by omega)]
      unfold fX11_given_b127 fX11_given_b148
      rw [bnd_d]
      by_cases v0 : 0 ≤ gA x aX_restFar (256 * (w + 1) + (M ||| 2 ^ i))
      · rw [if_pos v0, hfx x hJ w i hw (by omega), bO_s, bnd_d]
        have hfi := hf w i hw (by omega)
        have hgi := hg (M ||| 2 ^ i)
        by_cases v1 : gA x aX_restFar (256 * (w + 1) + (M ||| 2 ^ i)) + nI (fr w i) < 0
        · rw [if_pos v1]
          obtain ⟨y4', x', e1, e2, e3⟩ := no
          refine ⟨y4', x', e1, e2, fun hq he => ?_⟩
          rw [hq i (by omega) b, nA] at v1
          exact absurd v1 (nNeg (by omega))
        · rw [if_neg v1]
          by_cases v2 : y4 < 0
          · rw [if_pos v2]
            obtain ⟨y4', x', e1, e2, e3⟩ := yes (gA x aX_restFar (256 * (w + 1) + (M ||| 2 ^ i)) + nI (fr w i))
            refine ⟨y4', x', e1, e2, fun hq he => e3 hq ?_⟩
            rw [hq i (by omega) b, nA, mstep]
            cases hm : mf (cnd fr g w M) i with
            | none => exact ⟨by rw [Nat.add_comm], rfl⟩
            | some p =>
              obtain ⟨u, j⟩ := p
              rw [hm] at he
              have hu : u ≤ 1036 := by
                obtain ⟨m1, m2⟩ := mf_some hm
                unfold cnd at m2
                by_cases bb : M / 2 ^ j % 2 = 0
                · rw [if_pos bb] at m2
                  have := Option.some.inj m2
                  have := hg (M ||| 2 ^ j)
                  have := hf w j hw (by omega)
                  omega
                · rw [if_neg bb] at m2; exact nomatch m2
              rw [he.1] at v2
              exact absurd v2 (nNeg (by omega))
          · rw [if_neg v2]
            by_cases v3 : y4 ≤ gA x aX_restFar (256 * (w + 1) + (M ||| 2 ^ i)) + nI (fr w i)
            · rw [if_pos v3]
              obtain ⟨y4', x', e1, e2, e3⟩ := no
              refine ⟨y4', x', e1, e2, fun hq he => e3 hq ?_⟩
              rw [hq i (by omega) b, nA] at v3
              rw [mstep]
              cases hm : mf (cnd fr g w M) i with
              | none => rw [hm] at he; rw [show y4 = -1 from he] at v2; exact absurd (by decide) v2
              | some p =>
                obtain ⟨u, j⟩ := p
                rw [hm] at he
                have hu : u ≤ 1036 := by
                  obtain ⟨m1, m2⟩ := mf_some hm
                  unfold cnd at m2
                  by_cases bb : M / 2 ^ j % 2 = 0
                  · rw [if_pos bb] at m2
                    have := Option.some.inj m2
                    have := hg (M ||| 2 ^ j)
                    have := hf w j hw (by omega)
                    omega
                  · rw [if_neg bb] at m2; exact nomatch m2
                rw [he.1, nLe (by omega) (by omega)] at v3
                show encX (if u ≤ fr w i + g (M ||| 2 ^ i) then some (u, j) else some (fr w i + g (M ||| 2 ^ i), i)) _ _
                rw [if_pos (by omega)]
                exact he
            · rw [if_neg v3]
              obtain ⟨y4', x', e1, e2, e3⟩ := yes (gA x aX_restFar (256 * (w + 1) + (M ||| 2 ^ i)) + nI (fr w i))
              refine ⟨y4', x', e1, e2, fun hq he => e3 hq ?_⟩
              rw [hq i (by omega) b, nA] at v3 ⊢
              rw [mstep]
              cases hm : mf (cnd fr g w M) i with
              | none => rw [hm] at he; rw [show y4 = -1 from he] at v2; exact absurd (by decide) v2
              | some p =>
                obtain ⟨u, j⟩ := p
                rw [hm] at he
                have hu : u ≤ 1036 := by
                  obtain ⟨m1, m2⟩ := mf_some hm
                  unfold cnd at m2
                  by_cases bb : M / 2 ^ j % 2 = 0
                  · rw [if_pos bb] at m2
                    have := Option.some.inj m2
                    have := hg (M ||| 2 ^ j)
                    have := hf w j hw (by omega)
                    omega
                  · rw [if_neg bb] at m2; exact nomatch m2
                rw [he.1, nLe (by omega) (by omega)] at v3
                show encX (if u ≤ fr w i + g (M ||| 2 ^ i) then some (u, j) else some (fr w i + g (M ||| 2 ^ i), i)) _ _
                rw [if_neg (by omega)]
                exact ⟨by rw [Nat.add_comm], rfl⟩
      · rw [if_neg v0, bnd_d, if_pos (show (-1 : Int32) < 0 by decide)]
        obtain ⟨y4', x', e1, e2, e3⟩ := no
        refine ⟨y4', x', e1, e2, fun hq he => ?_⟩
        rw [hq i (by omega) b] at v0
        exact absurd (nI_pos' (by have := hg (M ||| 2 ^ i); omega)) v0
    · have ec : cnd fr g w M i = none := by unfold cnd; rw [if_neg b]
      rw [ec] at mstep
      rw [if_pos ((bit_x hM8 (by omega)).mpr b)]
      unfold fX11_given_b127 fX11_given_b148
      rw [bnd_d, if_neg (show ¬ (0 : Int32) ≤ -1 by decide), bnd_d, if_pos (show (-1 : Int32) < 0 by decide)]
      obtain ⟨y4', x', e1, e2, e3⟩ := no
      exact ⟨y4', x', e1, e2, fun hq he => e3 hq (by rw [mstep]; exact he)⟩
/-- what a level writes -/
def FRl (w lo n : Nat) (x x' : mS) : Prop := smX x x' ∧ (∀ k, gI x' k = gI x k) ∧ (∀ k, k ≠ aX_restGets → k ≠ aX_restFar → ∀ j, gA x' k j = gA x k j) ∧ (∀ j, ¬ (256 * w + lo ≤ j ∧ j < 256 * w + 2 ^ n) → gA x' aX_restGets j = gA x aX_restGets j) ∧ ∀ j, ¬ (256 * w + lo ≤ j ∧ j < 256 * w + 2 ^ n) → gA x' aX_restFar j = gA x aX_restFar j
theorem gm_loop {fr : Nat → Nat → Nat} {n W w : Nat} {c : mS} {y1 : Int32} (K43 : Int32 → Int32 → mS → Option (Int32 × mS)) (hn : n ≤ 8) (hWn : W ≤ n) (hw : w ≤ W) (hf : ∀ w q, w < W → q < n → fr w q ≤ 36) (hfx : ∀ x', J 0 n W c x' → ∀ w q, w < W → q < n → fX11_farOf (nI w) (nI q) x' = some (nI (fr w q))) : ∀ (r k M : Nat) (x : mS), M + r = 2 ^ n → r < k → J 0 n W c x → (w < W → ∀ M', M' < 2 ^ n → (w + 1 = W ∨ popc M' = w + 1) → gA x aX_restFar (256 * (w + 1) + M') = nI (GG fr n W (W - (w + 1)) M')) → ∃ x', fX11_given_b49 K43 k y1 (nI w) (nI M) x = K43 y1 (nI w + (-1)) x' ∧ FRl w M n x x' ∧ J 0 n W c x' ∧ ∀ M', M ≤ M' → M' < 2 ^ n → (w = W → gA x' aX_restFar (256 * w + M') = nI 0) ∧ (w < W → popc M' = w → gA x' aX_restFar (256 * w + M') = nI (GG fr n W (W - w) M') ∧ gA x' aX_restGets (256 * w + M') = nI (GI fr n W (W - w - 1) M')) := by
  have hp2 : 2 ^ n ≤ 256 := show 2 ^ n ≤ 2 ^ 8 from Nat.pow_le_pow_right (by omega) hn
  have sh := sh1_n n (by omega)
  intro r
  induction r with
  | zero =>
    intro k M x h1 h2 hJ hp
    obtain ⟨k, rfl⟩ : ∃ k', k = k' + 1 := ⟨k - 1, by omega⟩
    rw [fX11_given_b49, hJ.2.1.2.2.1, sh, if_pos ((nLe (by omega) (by omega)).mpr (by omega)), bnd_d]
    exact ⟨x, rfl, ⟨smX.rf x, fun _ => rfl, fun _ _ _ _ => rfl, fun _ _ => rfl, fun _ _ => rfl⟩, hJ, fun M' m1 m2 => absurd m1 (by omega)⟩
  | succ r ih =>
    intro k M x h1 h2 hJ hp
    obtain ⟨k, rfl⟩ : ∃ k', k = k' + 1 := ⟨k - 1, by omega⟩
    rw [fX11_given_b49, hJ.2.1.2.2.1, sh, if_neg (fun z => absurd ((nLe (by omega) (by omega)).mp z) (by omega)), hJ.2.2.2.2.1]
    unfold fX11_given_b72
    -- after the machines' loop
    have fin : ∀ (y4 : Int32) (x1 : mS), FRg (256 * w + M) x x1 → (w = W → y4 = nI 0) → (w < W → popc M = w → y4 = nI (GG fr n W (W - w) M) ∧ gA x1 aX_restGets (256 * w + M) = nI (GI fr n W (W - w - 1) M)) → ∃ x', fX11_given_b191 K43 (fun u0 u1 u2 u3 => fX11_given_b49 K43 k u0 u1 u2 u3) y1 (nI w) (nI M) y4 x1 = K43 y1 (nI w + (-1)) x' ∧ FRl w M n x x' ∧ J 0 n W c x' ∧ ∀ M', M ≤ M' → M' < 2 ^ n → (w = W → gA x' aX_restFar (256 * w + M') = nI 0) ∧ (w < W → popc M' = w → gA x' aX_restFar (256 * w + M') = nI (GG fr n W (W - w) M') ∧ gA x' aX_restGets (256 * w + M') = nI (GI fr n W (W - w - 1) M')) := by
      intro y4 x1 f1 a1 a2
      unfold fX11_given_b191
      rw [nM, nA, stA_n (by omega) (by omega), bnd_d, nA]
      have hJ1 : J 0 n W c (pA x1 aX_restFar (256 * w + M) y4) := (hJ.fr f1).x0 ((smX.rf x1).pA _ _ _ (by decide)) (fun _ => rfl) (fun k h1 _ _ i => gA_ne h1)
      obtain ⟨x', e1, ⟨l1, l2, l3, l4, l5⟩, e3, e4⟩ := ih k (M + 1) (pA x1 aX_restFar (256 * w + M) y4) (by omega) (by omega) hJ1 (fun hw' M' m1 m2 => by
        rw [gA_eq, if_neg (by omega), f1.2.2.1 _ (by decide)]
        exact hp hw' M' m1 m2)
      refine ⟨x', e1, ⟨(f1.1.tr (((smX.rf x1).pA aX_restFar (256 * w + M) y4 (by decide)).tr l1)), fun q => (l2 q).trans (f1.2.1 q), fun q q1 q2 j => ?_, fun j hj => ?_, fun j hj => ?_⟩, e3, fun M' m1 m2 => ?_⟩
      · rw [l3 q q1 q2, gA_ne q2, f1.2.2.1 q q1]
      · rw [l4 j (by omega), gA_ne (by decide), f1.2.2.2 j (by omega)]
      · rw [l5 j (by omega), gA_eq, if_neg (by omega), f1.2.2.1 _ (by decide)]
      · by_cases e : M' = M
        · subst e
          rw [l5 _ (by omega), l4 _ (by omega), gA_eq, if_pos rfl, gA_ne (by decide)]
          exact ⟨a1, a2⟩
        · exact e4 M' (by omega) m2
    by_cases g : w = W
    · rw [if_pos (show nI w = nI W by rw [g]), bnd_d, bnd_d, mFu_s, fX11_given_b77, hJ.2.1.2.2.1, hJ.2.2.2.2.1, if_pos ((nLe (by omega) (by omega)).mpr (show W ≤ w by omega)), ite_self]
      exact fin (nI 0) x (FRg.rf _ x) (fun _ => rfl) (fun z => absurd z (by omega))
    · rw [if_neg (nlit_ne (by omega) (by omega) g), bnd_d, bnd_d]
      obtain ⟨y4', x1, e1, e2, e3⟩ := gq_loop (fr := fr) (g := GG fr n W (W - w - 1)) (y1 := y1) (M := M) K43 (fun u0 u1 u2 u3 => fX11_given_b49 K43 k u0 u1 u2 u3) hn (by omega) (show w < W by omega) (show M < 2 ^ n by omega) hf (fun M' => by have := GG_le hf (W - w - 1) (by omega) M'; omega) hfx n mFu 0 (-1) x (by omega) (show n < 6000 by omega) hJ
      rw [e1]
      refine fin y4' x1 e2 (fun z => absurd z g) (fun hw' hpM => ?_)
      have := e3 (fun q hq hb => by
        obtain ⟨p1, p2⟩ := popc_set q (by omega) M (by omega) hb
        rw [hp hw' _ (Nat.or_lt_two_pow (by omega) (Nat.pow_lt_pow_right (by omega) hq)) (Or.inr (by omega)), show W - (w + 1) = W - w - 1 by omega]) rfl
      obtain ⟨i, i1, i2, i3, i4, i5⟩ := GI_ok (fr := fr) (t := W - w - 1) hn hWn (show M < 2 ^ n by omega) (by omega)
      rw [hpM] at i3
      rw [i3] at this
      rw [i4]
      rw [show W - w = W - w - 1 + 1 by omega]
      exact this
