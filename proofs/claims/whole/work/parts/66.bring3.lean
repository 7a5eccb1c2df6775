-- bring: the reference's levels
def stt (T : Nat → Nat → Nat) (W G b v : Nat) (z : Int32) : Prop := (∃ j, j < b ∧ Lw T W G j v ∧ z = nI j) ∨ ((∀ j, j < b → ¬ Ew T W G j v) ∧ z = -1)
theorem Lw.chain {T : Nat → Nat → Nat} {W G : Nat} (hT : ∀ u w, u < 2197 → w < W → T u w < 2197) : ∀ k v, v < 2197 → Lw T W G k v → ∃ f : Nat → Nat, ∀ i, i ≤ k → f i < 2197 ∧ Lw T W G i (f i) := by
  intro k
  induction k with
  | zero =>
    intro v hv h
    refine ⟨fun _ => v, fun i hi => ?_⟩
    obtain rfl : i = 0 := by omega
    exact ⟨hv, h⟩
  | succ k ih =>
    intro v hv h
    obtain ⟨w, hw, h1⟩ := h.step
    obtain ⟨f, hf⟩ := ih (T v w) (hT v w hv hw) h1
    refine ⟨up f (k + 1) v, fun i hi => ?_⟩
    by_cases e : i = k + 1
    · subst e; rw [up_n]; exact ⟨hv, h⟩
    · rw [up_o f v e]; exact hf i (by omega)
theorem Lw.lt {T : Nat → Nat → Nat} {W G k v : Nat} (hT : ∀ u w, u < 2197 → w < W → T u w < 2197) (hv : v < 2197) (h : Lw T W G k v) : k < 2197 := by
  obtain ⟨f, hf⟩ := Lw.chain hT k v hv h
  have := pig 2197 (k + 1) f (fun i hi => (hf i (by omega)).1) (fun i j hi hj e => by
    have h1 := (hf i (by omega)).2
    have h2 := (hf j (by omega)).2
    rw [e] at h1
    exact h1.uniq h2)
  omega
theorem no_more {T : Nat → Nat → Nat} {W G k : Nat} (hT : ∀ u w, u < 2197 → w < W → T u w < 2197) (h : ∀ v, v < 2197 → ¬ Lw T W G k v) : ∀ d v, v < 2197 → ¬ Lw T W G (k + d) v := by
  intro d
  induction d with
  | zero => exact h
  | succ d ih =>
    intro v hv z
    obtain ⟨w, hw, z1⟩ := Lw.step (k := k + d) z
    exact ih _ (hT v w hv hw) z1
def KX (W : Nat) (H : Nat → Nat) (x y : mS) : Prop := smX x y ∧ HX W H y ∧ ∀ k, k ≠ aX_lettersTo → ∀ i, gA y k i = gA x k i
theorem KX.tr {W : Nat} {H : Nat → Nat} {x y z : mS} (h : KX W H x y) (g : KX W H y z) : KX W H x z := ⟨h.1.tr g.1, g.2.1, fun k hk i => (g.2.2 k hk i).trans (h.2.2 k hk i)⟩
theorem KX.rf {W : Nat} {H : Nat → Nat} {x : mS} (h : HX W H x) : KX W H x x := ⟨smX.rf x, h, fun _ _ _ => rfl⟩
theorem KX.one {W : Nat} {H : Nat → Nat} {x : mS} (h : HX W H x) (m : Nat) (v : Int32) : KX W H x (pA x aX_lettersTo m v) := ⟨(smX.rf x).pA _ _ _ (by decide), ⟨h.1, fun i hi => by rw [gA_ne (by decide)]; exact h.2 i hi⟩, fun k hk i => gA_ne hk⟩
theorem nneg1 {v : Nat} (hv : v < 2147483648) : ¬ (-1 : Int32) = nI v := fun z => by
  have := nI_pos hv
  rw [← z] at this
  exact this (by decide)
theorem lw_loop {H : Nat → Nat} {W G j v : Nat} {y1 y3 : Int32} {K65 : Int32 → Int32 → Int32 → Int32 → mS → Option (Int32 × mS)} {K76 : Int32 → Int32 → Int32 → Int32 → Int32 → mS → Option (Int32 × mS)} (hH : ∀ i, i < 24 → H i ≤ 12) (hW : W ≤ 8) (hj : j < 3000) (hv : v < 2197) : ∀ (r k w : Nat) (y4 : Int32) (x : mS), w + r = W → r < k → HX W H x → (∀ u, u < 2197 → stt (Tt H) W G (if u < v then j + 2 else j + 1) u (gA x aX_lettersTo u)) → gA x aX_lettersTo v = -1 → (∀ i, i < j + 1 → ¬ Ew (Tt H) W G i v) → (∀ w', w' < w → ¬ Lw (Tt H) W G j (Tt H v w')) → ∃ y4' x', fX11_bring_b87 K65 K76 k y1 y3 y4 (nI (j + 1)) (nI v) (nI w) x = fX11_bring_b144 K65 K76 y1 y3 y4' (nI (j + 1)) (nI v) x' ∧ ((x' = x ∧ y4' = y4 ∧ ¬ Ew (Tt H) W G (j + 1) v) ∨ (x' = pA x aX_lettersTo v (nI (j + 1)) ∧ y4' = nI 1 ∧ Lw (Tt H) W G (j + 1) v)) := by
  intro r
  induction r with
  | zero =>
    intro k w y4 x h1 h2 hx hM hz hE hw
    obtain ⟨k, rfl⟩ : ∃ k', k = k' + 1 := ⟨k - 1, by omega⟩
    rw [fX11_bring_b87, hx.1, if_pos ((nLe (by omega) (by omega)).mpr (by omega))]
    refine ⟨y4, x, rfl, Or.inl ⟨rfl, rfl, fun z => ?_⟩⟩
    obtain ⟨w', hw', z1⟩ := Lw.step (k := j) ⟨z, fun i hi => hE i hi⟩
    exact hw w' (by omega) z1
  | succ r ih =>
    intro k w y4 x h1 h2 hx hM hz hE hw
    obtain ⟨k, rfl⟩ : ∃ k', k = k' + 1 := ⟨k - 1, by omega⟩
    have ht := Tt_lt hH hv (show w < 8 by omega)
    rw [fX11_bring_b87, hx.1, if_neg (fun z => absurd ((nLe (by omega) (by omega)).mp z) (by omega)), ldA_n hv (by omega), hz, if_neg (show ¬ (0 : Int32) ≤ -1 by decide), behind_x hH hx hv (by omega), bO_s, ldA_n ht (by omega), nSb (by omega), show j + 1 - 1 = j by omega]
    have hs := hM _ ht
    by_cases g : gA x aX_lettersTo (Tt H v w) = nI j
    · have hL : Lw (Tt H) W G j (Tt H v w) := by
        rcases hs with ⟨i, i1, i2, i3⟩ | ⟨i1, i2⟩
        · have i4 : i < 4000 := by split at i1 <;> omega
          rw [i3] at g
          rw [(nEq (by omega) (by omega)).mp g] at i2
          exact i2
        · rw [i2] at g; exact absurd g (nneg1 (by omega))
      have hL2 : Lw (Tt H) W G (j + 1) v := ⟨⟨w, by omega, hL.1⟩, hE⟩
      rw [if_pos g, stA_n hv (by omega), bnd_d]
      unfold fX11_bring_b138
      rw [bnd_d, nA]
      obtain ⟨k, rfl⟩ : ∃ k', k = k' + 1 := ⟨k - 1, by omega⟩
      refine ⟨nI 1, pA x aX_lettersTo v (nI (j + 1)), ?_, Or.inr ⟨rfl, rfl, hL2⟩⟩
      show fX11_bring_b87 K65 K76 (k + 1) y1 y3 (nI 1) (nI (j + 1)) (nI v) (nI (w + 1)) _ = _
      rw [fX11_bring_b87, (KX.one hx v (nI (j + 1))).2.1.1, ldA_n hv (by omega), gA_eq, if_pos rfl, if_pos (nI_pos' (by omega)), ite_self]
    · rw [if_neg g]
      unfold fX11_bring_b138
      rw [bnd_d, nA]
      refine ih k (w + 1) y4 x (by omega) (by omega) hx hM hz hE (fun w' hw' => ?_)
      by_cases e : w' = w
      · subst e
        intro hL
        rcases hs with ⟨i, i1, i2, i3⟩ | ⟨i1, i2⟩
        · rw [i2.uniq hL] at i3; exact g i3
        · exact i1 j (by split <;> omega) hL.1
      · exact hw w' (by omega)
theorem lv_loop {H : Nat → Nat} {W G j : Nat} {y1 y3 : Int32} {K65 : Int32 → Int32 → Int32 → Int32 → mS → Option (Int32 × mS)} (hH : ∀ i, i < 24 → H i ≤ 12) (hW : W ≤ 8) (hj : j < 3000) : ∀ (m k v : Nat) (y4 : Int32) (x : mS), v + m = 2197 → m < k → HX W H x → (∀ u, u < 2197 → stt (Tt H) W G (if u < v then j + 2 else j + 1) u (gA x aX_lettersTo u)) → ((y4 = nI 0 ∧ ∀ u, u < v → ¬ Lw (Tt H) W G (j + 1) u) ∨ (y4 = nI 1 ∧ ∃ u, u < 2197 ∧ Lw (Tt H) W G (j + 1) u)) → ∃ y4' x', fX11_bring_b76 K65 k y1 y3 y4 (nI (j + 1)) (nI v) x = K65 y1 y3 y4' (nI (j + 2)) x' ∧ KX W H x x' ∧ (∀ u, u < 2197 → stt (Tt H) W G (j + 2) u (gA x' aX_lettersTo u)) ∧ ((y4' = nI 0 ∧ ∀ u, u < 2197 → ¬ Lw (Tt H) W G (j + 1) u) ∨ (y4' = nI 1 ∧ ∃ u, u < 2197 ∧ Lw (Tt H) W G (j + 1) u)) := by
  intro m
  induction m with
  | zero =>
    intro k v y4 x h1 h2 hx hM hf
    obtain ⟨k, rfl⟩ : ∃ k', k = k' + 1 := ⟨k - 1, by omega⟩
    obtain rfl : v = 2197 := by omega
    rw [fX11_bring_b76, if_pos ((nLe (by omega) (by omega)).mpr (by omega)), bnd_d, nA]
    refine ⟨y4, x, rfl, KX.rf hx, fun u hu => ?_, hf⟩
    have := hM u hu
    rw [if_pos hu] at this
    exact this
  | succ m ih =>
    intro k v y4 x h1 h2 hx hM hf
    obtain ⟨k, rfl⟩ : ∃ k', k = k' + 1 := ⟨k - 1, by omega⟩
    have hv : v < 2197 := by omega
    rw [fX11_bring_b76, if_neg (fun z => absurd ((nLe (by omega) (by omega)).mp z) (by omega)), bnd_d]
    have hs := hM v hv
    rw [if_neg (by omega)] at hs
    -- going on
    have go : ∀ (y4' : Int32) (x1 : mS), KX W H x x1 → (∀ u, u < 2197 → u ≠ v → gA x1 aX_lettersTo u = gA x aX_lettersTo u) → stt (Tt H) W G (j + 2) v (gA x1 aX_lettersTo v) → ((y4' = nI 0 ∧ ∀ u, u < v + 1 → ¬ Lw (Tt H) W G (j + 1) u) ∨ (y4' = nI 1 ∧ ∃ u, u < 2197 ∧ Lw (Tt H) W G (j + 1) u)) → ∃ y4'' x', fX11_bring_b144 K65 (fun u0 u1 u2 u3 u4 u5 => fX11_bring_b76 K65 k u0 u1 u2 u3 u4 u5) y1 y3 y4' (nI (j + 1)) (nI v) x1 = K65 y1 y3 y4'' (nI (j + 2)) x' ∧ KX W H x x' ∧ (∀ u, u < 2197 → stt (Tt H) W G (j + 2) u (gA x' aX_lettersTo u)) ∧ ((y4'' = nI 0 ∧ ∀ u, u < 2197 → ¬ Lw (Tt H) W G (j + 1) u) ∨ (y4'' = nI 1 ∧ ∃ u, u < 2197 ∧ Lw (Tt H) W G (j + 1) u)) := by
      intro y4' x1 k1 k2 k3 k4
      unfold fX11_bring_b144
      rw [bnd_d, nA]
      obtain ⟨a, b, e1, e2, e3, e4⟩ := ih k (v + 1) y4' x1 (by omega) (by omega) k1.2.1 (fun u hu => by
        by_cases e : u = v
        · rw [e, if_pos (by omega)]; exact k3
        · rw [k2 u hu e]
          have := hM u hu
          by_cases e2 : u < v
          · rw [if_pos e2] at this; rw [if_pos (by omega)]; exact this
          · rw [if_neg e2] at this; rw [if_neg (by omega)]; exact this) k4
      exact ⟨a, b, e1, k1.tr e2, e3, e4⟩
    have flag : ∀ y, ((y = nI 0 ∧ ∀ u, u < v → ¬ Lw (Tt H) W G (j + 1) u) ∨ (y = nI 1 ∧ ∃ u, u < 2197 ∧ Lw (Tt H) W G (j + 1) u)) → ¬ Lw (Tt H) W G (j + 1) v → ((y = nI 0 ∧ ∀ u, u < v + 1 → ¬ Lw (Tt H) W G (j + 1) u) ∨ (y = nI 1 ∧ ∃ u, u < 2197 ∧ Lw (Tt H) W G (j + 1) u)) := by
      intro y hy hn
      rcases hy with ⟨a, b⟩ | b
      · refine Or.inl ⟨a, fun u hu => ?_⟩
        by_cases e : u = v
        · rw [e]; exact hn
        · exact b u (by omega)
      · exact Or.inr b
    rcases hs with ⟨i, i1, i2, i3⟩ | ⟨i1, i2⟩
    · obtain ⟨y4', x', e1, e2, e3, e4⟩ := go y4 x (KX.rf hx) (fun _ _ _ => rfl) (Or.inl ⟨i, by omega, i2, i3⟩) (flag y4 hf (fun z => by have := i2.uniq z; omega))
      refine ⟨y4', x', ?_, e2, e3, e4⟩
      rw [← e1, mFu_s, fX11_bring_b87, ldA_n hv (by omega), i3, if_pos (nI_pos' (by omega)), ite_self]
    · obtain ⟨y4', x1, e1, e2⟩ := lw_loop (G := G) (j := j) (y1 := y1) (y3 := y3) (K65 := K65) (K76 := fun u0 u1 u2 u3 u4 u5 => fX11_bring_b76 K65 k u0 u1 u2 u3 u4 u5) hH hW hj hv W mFu 0 y4 x (by omega) (show W < 6000 by omega) hx hM i2 i1 (fun w' hw' => absurd hw' (by omega))
      rw [e1]
      rcases e2 with ⟨rfl, rfl, e3⟩ | ⟨rfl, rfl, e3⟩
      · refine go y4' x1 (KX.rf hx) (fun _ _ _ => rfl) (Or.inr ⟨fun q hq => ?_, i2⟩) (flag y4' hf (fun z => e3 z.1))
        by_cases e : q = j + 1
        · rw [e]; exact e3
        · exact i1 q (by omega)
      · refine go (nI 1) _ (KX.one hx v _) (fun u hu e => by rw [gA_eq, if_neg e]) (Or.inl ⟨j + 1, by omega, e3, by rw [gA_eq, if_pos rfl]⟩) (Or.inr ⟨rfl, v, hv, e3⟩)
def Lfin (T : Nat → Nat → Nat) (W G : Nat) (x : mS) : Prop := ∀ u, u < 2197 → (∃ i, i < 2197 ∧ Lw T W G i u ∧ gA x aX_lettersTo u = nI i) ∨ ((∀ i, ¬ Ew T W G i u) ∧ gA x aX_lettersTo u = -1)
theorem ll_loop {H : Nat → Nat} {W G : Nat} {y1 y3 : Int32} (hH : ∀ i, i < 24 → H i ≤ 12) (hW : W ≤ 8) : ∀ (m k j : Nat) (y4 : Int32) (x : mS), j + m = 2198 → m < k → HX W H x → (∀ u, u < 2197 → stt (Tt H) W G (j + 1) u (gA x aX_lettersTo u)) → ((y4 = nI 0 ∧ ∀ u, u < 2197 → ¬ Lw (Tt H) W G j u) ∨ (y4 = nI 1 ∧ ∃ u, u < 2197 ∧ Lw (Tt H) W G j u)) → ∃ j' k' x', fX11_bring_b65 k y1 y3 y4 (nI (j + 1)) x = fX11_bring_b65 (k' + 1) y1 y3 (nI 0) (nI (j' + 1)) x' ∧ KX W H x x' ∧ Lfin (Tt H) W G x' := by
  have hT : ∀ u w, u < 2197 → w < W → Tt H u w < 2197 := fun u w hu hw => Tt_lt hH hu (by omega)
  intro m
  induction m with
  | zero =>
    intro k j y4 x h1 h2 hx hM hf
    obtain ⟨k, rfl⟩ : ∃ k', k = k' + 1 := ⟨k - 1, by omega⟩
    rcases hf with ⟨rfl, hf⟩ | ⟨rfl, u, hu, hf⟩
    · refine ⟨j, k, x, rfl, KX.rf hx, fun u hu => ?_⟩
      rcases hM u hu with ⟨i, i1, i2, i3⟩ | ⟨i1, i2⟩
      · exact Or.inl ⟨i, i2.lt hT hu, i2, i3⟩
      · refine Or.inr ⟨fun i z => ?_, i2⟩
        obtain ⟨q, q1, q2⟩ := z.least
        by_cases e : q < j + 1
        · exact i1 q e q2.1
        · refine no_more hT hf (q - j) u hu ?_
          rw [show j + (q - j) = q by omega]; exact q2
    · have := hf.lt hT hu; omega
  | succ m ih =>
    intro k j y4 x h1 h2 hx hM hf
    obtain ⟨k, rfl⟩ : ∃ k', k = k' + 1 := ⟨k - 1, by omega⟩
    rcases hf with ⟨rfl, hf⟩ | ⟨rfl, u, hu, hf⟩
    · refine ⟨j, k, x, rfl, KX.rf hx, fun u hu => ?_⟩
      rcases hM u hu with ⟨i, i1, i2, i3⟩ | ⟨i1, i2⟩
      · exact Or.inl ⟨i, i2.lt hT hu, i2, i3⟩
      · refine Or.inr ⟨fun i z => ?_, i2⟩
        obtain ⟨q, q1, q2⟩ := z.least
        by_cases e : q < j + 1
        · exact i1 q e q2.1
        · refine no_more hT hf (q - j) u hu ?_
          rw [show j + (q - j) = q by omega]; exact q2
    · rw [fX11_bring_b65, if_neg (show ¬ nI 1 = 0 by decide), bnd_d, bnd_d]
      obtain ⟨y4', x', e1, e2, e3, e4⟩ := lv_loop (G := G) (j := j) (y1 := y1) (y3 := y3) (K65 := fun u0 u1 u2 u3 u4 => fX11_bring_b65 k u0 u1 u2 u3 u4) hH hW (by omega) 2197 mFu 0 (nI 0) x (by omega) (show 2197 < 6000 by omega) hx (fun u hu => by rw [if_neg (by omega)]; exact hM u hu) (Or.inl ⟨rfl, fun u hu => absurd hu (by omega)⟩)
      rw [e1]
      obtain ⟨j', k', x'', d1, d2, d3⟩ := ih k (j + 1) y4' x' (by omega) (by omega) e2.2.1 e3 e4
      exact ⟨j', k', x'', d1, e2.tr d2, d3⟩
theorem lz_loop {H : Nat → Nat} {W G : Nat} {y1 y3 : Int32} (hG : G < 2197) : ∀ (m k i : Nat) (x : mS), i + m = 2197 → m < k → HX W H x → ∃ x', fX11_bring_b27 k y1 (nI G) y3 (nI i) x = fX11_bring_b65 mFu y1 y3 (nI 1) (nI 1) x' ∧ KX W H x x' ∧ (∀ j, j < i → gA x' aX_lettersTo j = gA x aX_lettersTo j) ∧ ∀ j, i ≤ j → j < 2197 → gA x' aX_lettersTo j = if j = G then nI 0 else -1 := by
  intro m
  induction m with
  | zero =>
    intro k i x h1 h2 hx
    obtain ⟨k, rfl⟩ : ∃ k', k = k' + 1 := ⟨k - 1, by omega⟩
    rw [fX11_bring_b27, if_pos ((nLe (by omega) (by omega)).mpr (by omega)), bnd_d, bnd_d]
    exact ⟨x, rfl, KX.rf hx, fun _ _ => rfl, fun j j1 j2 => absurd j1 (by omega)⟩
  | succ m ih =>
    intro k i x h1 h2 hx
    obtain ⟨k, rfl⟩ : ∃ k', k = k' + 1 := ⟨k - 1, by omega⟩
    have e : (if nI i = nI G then fX11_bring_b52 (fun u0 u1 u2 u3 u4 => fX11_bring_b27 k u0 u1 u2 u3 u4) y1 (nI G) y3 (nI i) (nI 0) (nI i) x else fX11_bring_b52 (fun u0 u1 u2 u3 u4 => fX11_bring_b27 k u0 u1 u2 u3 u4) y1 (nI G) y3 (nI i) (-1) (nI i) x) = fX11_bring_b27 k y1 (nI G) y3 (nI (i + 1)) (pA x aX_lettersTo i (if i = G then nI 0 else -1)) := by
      unfold fX11_bring_b52
      by_cases g : i = G
      · rw [if_pos (by rw [g]), if_pos g, stA_n (by omega) (by omega), bnd_d, nA]
      · rw [if_neg (nlit_ne (by omega) (by omega) g), if_neg g, stA_n (by omega) (by omega), bnd_d, nA]
    rw [fX11_bring_b27, if_neg (fun z => absurd ((nLe (by omega) (by omega)).mp z) (by omega)), e]
    obtain ⟨x', e1, e2, e3, e4⟩ := ih k (i + 1) _ (by omega) (by omega) (KX.one hx i (if i = G then nI 0 else -1)).2.1
    refine ⟨x', e1, (KX.one hx i _).tr e2, fun j hj => ?_, fun j j1 j2 => ?_⟩
    · rw [e3 j (by omega), gA_eq, if_neg (by omega)]
    · by_cases g : j = i
      · rw [e3 j (by omega), gA_eq, if_pos g, g]
      · exact e4 j (by omega) j2
theorem wi_loop {H : Nat → Nat} {W L i v s : Nat} {y3 : Int32} {x : mS} {K235 : Int32 → Int32 → Int32 → Int32 → Int32 → mS → Option (Int32 × mS)} (hH : ∀ i, i < 24 → H i ≤ 12) (hx : HX W H x) (hv : v < 2197) (hs : s < 8) (hL : L < 2197) (hi : i < L) (h1 : ∀ w, w < s → ¬ gA x aX_lettersTo (Tt H v w) = nI (L - 1 - i)) (h2 : gA x aX_lettersTo (Tt H v s) = nI (L - 1 - i)) : ∀ (r k w : Nat), w + r = s → r < k → fX11_bring_b244 K235 k y3 (nI v) (nI L) (nI w) (nI i) x = K235 y3 (nI (Tt H v s)) (nI L) (nI s) (nI (i + 1)) x := by
  intro r
  induction r with
  | zero =>
    intro k w a1 a2
    obtain ⟨k, rfl⟩ : ∃ k', k = k' + 1 := ⟨k - 1, by omega⟩
    obtain rfl : w = s := by omega
    rw [fX11_bring_b244, behind_x hH hx hv hs, bO_s, ldA_n (Tt_lt hH hv hs) (by omega), nSb (by omega), nSb (by omega), if_pos h2, bO_s, bnd_d, bnd_d, nA]
  | succ r ih =>
    intro k w a1 a2
    obtain ⟨k, rfl⟩ : ∃ k', k = k' + 1 := ⟨k - 1, by omega⟩
    rw [fX11_bring_b244, behind_x hH hx hv (by omega), bO_s, ldA_n (Tt_lt hH hv (by omega)) (by omega), nSb (by omega), nSb (by omega), if_neg (h1 w (by omega)), bnd_d, nA]
    exact ih k (w + 1) (by omega) (by omega)
theorem wo_loop {H : Nat → Nat} {W S F tail G g B : Nat} {Q ed : Nat → Nat} {x : mS} (hH : ∀ i, i < 24 → H i ≤ 12) (hW : W ≤ 8) (h : BQ (Tt H) W S F tail Q ed) (hF : F % 8 = 0) (hg : g < tail) (hG : Q g = G) (hB : B < ln ed 2197 g) (hx : HX W H x) (hL : Lfin (Tt H) W G x) : ∀ (m k i : Nat) (y7 : Int32), i + m = B → m + 1 < k → fX11_bring_b235 k (nI B) (nI (Q (pa ed g (ln ed 2197 g - i)))) (nI (ln ed 2197 g)) y7 (nI i) x = some (nI (ed (pa ed g (ln ed 2197 g - 1 - B)) % 8), x) := by
  have ht := bq_t h
  have hl := ln_le h ht g hg
  have step : ∀ (k i : Nat) (y7 : Int32), i ≤ B → fX11_bring_b235 (k + 1) (nI B) (nI (Q (pa ed g (ln ed 2197 g - i)))) (nI (ln ed 2197 g)) y7 (nI i) x = fX11_bring_b235 k (nI B) (nI (Q (pa ed g (ln ed 2197 g - (i + 1))))) (nI (ln ed 2197 g)) (nI (ed (pa ed g (ln ed 2197 g - 1 - i)) % 8)) (nI (i + 1)) x := by
    intro k i y7 hi
    obtain ⟨q, hq⟩ : ∃ q, ln ed 2197 g - 1 - i = q := ⟨_, rfl⟩
    have e1 : ln ed 2197 g - i = q + 1 := by omega
    have e2 : ln ed 2197 g - (i + 1) = q := by omega
    obtain ⟨a1, a2, a3⟩ := pa_ok h ht hg hG (q + 1) (by omega)
    obtain ⟨b1, b2, b3⟩ := pa_ok h ht hg hG q (by omega)
    have p0 := pa_pos h ht hg hG (show q < ln ed 2197 g by omega)
    have eT : Tt H (Q (pa ed g (q + 1))) (ed (pa ed g q) % 8) = Q (pa ed g q) := h.e3 _ p0 b1
    have w8 := h.e2 _ p0 b1
    have hv := h.qb _ a1
    rw [fX11_bring_b235, if_neg (fun z => absurd ((nLt (by omega) (by omega)).mp z) (by omega)), bnd_d, e1, e2, hq]
    have g1 : ∀ w, w < ed (pa ed g q) % 8 → ¬ gA x aX_lettersTo (Tt H (Q (pa ed g (q + 1))) w) = nI (ln ed 2197 g - 1 - i) := by
      intro w hw z
      rw [hq] at z
      have ht' := Tt_lt hH hv (show w < 8 by omega)
      rcases hL _ ht' with ⟨i', i1, i2, i3⟩ | ⟨i1, i2⟩
      · rw [i3] at z
        rw [(nEq (by omega) (by omega)).mp z] at i2
        exact bq_greedy hW h ht hg hG (show q < ln ed 2197 g by omega) hw i2.1
      · rw [i2] at z; exact nneg1 (by omega) z
    have g2 : gA x aX_lettersTo (Tt H (Q (pa ed g (q + 1))) (ed (pa ed g q) % 8)) = nI (ln ed 2197 g - 1 - i) := by
      rw [hq, eT]
      have hl2 := pa_L hW h ht hg hG hF (show q ≤ ln ed 2197 g by omega)
      rcases hL _ (h.qb _ b1) with ⟨i', i1, i2, i3⟩ | ⟨i1, i2⟩
      · rw [i3, i2.uniq hl2]
      · exact absurd hl2.1 (i1 q)
    rw [wi_loop (s := ed (pa ed g q) % 8) hH hx hv (by omega) (by omega) (show i < ln ed 2197 g by omega) g1 g2 (ed (pa ed g q) % 8) mFu 0 (by omega) (show ed (pa ed g q) % 8 < 6000 by omega), eT]
  intro m
  induction m with
  | zero =>
    intro k i y7 h1 h2
    obtain ⟨k, rfl⟩ : ∃ k', k = k' + 2 := ⟨k - 2, by omega⟩
    obtain rfl : i = B := by omega
    rw [step (k + 1) i y7 (by omega), fX11_bring_b235, if_pos ((nLt (by omega) (by omega)).mpr (by omega))]
  | succ m ih =>
    intro k i y7 h1 h2
    obtain ⟨k, rfl⟩ : ∃ k', k = k' + 1 := ⟨k - 1, by omega⟩
    rw [step k i y7 (by omega)]
    exact ih k (i + 1) _ (by omega) (by omega)
theorem z_bring {c x : mS} (h : Rel c x) (a b e : Int32) : same (fX10_bring a b e c) (fX11_bring a b e x) := by
  obtain ⟨n, hn, n1, n2⟩ := h.1.1
  obtain ⟨W, hW, w1, w2⟩ := h.1.2.1
  unfold fX10_bring fX11_bring
  rw [f_has6, n1, f_isMachine hn n2, f_isCode, f_isCodeX, bO_s, bO_s, bO_s, bO_s, b01_z, b01_z, b01_z, b01_z]
  by_cases ha : a < 0 ∨ nI n ≤ a
  · rw [if_pos ha, if_pos ha]; exact same_bad h
  rw [if_neg ha, if_neg ha]
  by_cases hb : b < 0 ∨ nI 2197 ≤ b
  · rw [if_pos hb, if_pos hb]; exact same_bad h
  rw [if_neg hb, if_neg hb]
  by_cases he : (-1) ≤ e
  · rw [if_pos he, if_pos he]
    obtain ⟨A, hA, rfl⟩ := nOfLt (fun z => ha (Or.inl z)) (fun z => ha (Or.inr z)) (by omega)
    obtain ⟨G, hG, rfl⟩ := nOfLt (fun z => hb (Or.inl z)) (fun z => hb (Or.inr z)) (by omega)
    obtain ⟨H, hH⟩ : ∃ H : Nat → Nat, ∀ i, i < 24 → H i ≤ 12 ∧ gA c (aW_hands 0) i = nI (H i) := by
      refine ⟨fun i => (gA c (aW_hands 0) i).toNatClampNeg, fun i hi => ?_⟩
      obtain ⟨-, v, v1, v2⟩ := h.1.2.2.2.2.1 i hi
      dsimp only
      rw [v2, nI_clamp (by omega)]
      exact ⟨v1, rfl⟩
    have hH1 : ∀ i, i < 24 → H i ≤ 12 := fun i hi => (hH i hi).1
    have hx : HX W H x := ⟨w2, fun i hi => (h.1.2.2.2.2.1 i hi).1.trans (hH i hi).2⟩
    obtain ⟨m0, p0⟩ := h.1.2.2.1 (3 * A) (by omega)
    obtain ⟨m1, p1⟩ := h.1.2.2.1 (3 * A + 1) (by omega)
    obtain ⟨m2, p2⟩ := h.1.2.2.1 (3 * A + 2) (by omega)
    obtain ⟨u0, b0, q0⟩ := p0
    obtain ⟨u1, b1, q1⟩ := p1
    obtain ⟨u2, b2, q2⟩ := p2
    obtain ⟨S, hS⟩ : ∃ S, S = 169 * u0 + 13 * u1 + u2 := ⟨_, rfl⟩
    have hS7 : S < 2197 := by omega
    have pc : fX6_pullCode 0 (nI A) c = some (nI S) := by
      unfold fX6_pullCode fX6_pull fX2_code
      rw [nM, nA, nA, nA, Nat.add_zero, ldA_n (by omega) (by omega), q0, bO_s, ldA_n (by omega) (by omega), q1, bO_s, ldA_n (by omega) (by omega), q2, bO_s, bO_s, nM, nM, nA, nA, hS]
    rw [pc, bO_s, bnd_d]
    -- the reference
    obtain ⟨x1, r1, r2, r3, r4⟩ := lz_loop (y1 := nI A) (y3 := e) hG 2197 mFu 0 x (by omega) (show 2197 < 6000 by omega) hx
    obtain ⟨j', k', x2, s1, s2, s3⟩ := ll_loop (G := G) (y1 := nI A) (y3 := e) hH1 hW 2198 mFu 0 (nI 1) x1 (by omega) (show 2198 < 6000 by omega) r2.2.1 (fun u hu => by
      rw [r4 u (by omega) hu]
      by_cases g : u = G
      · rw [if_pos g]; exact Or.inl ⟨0, by omega, ⟨g, fun j hj => absurd hj (by omega)⟩, rfl⟩
      · rw [if_neg g]
        refine Or.inr ⟨fun j hj => ?_, rfl⟩
        obtain rfl : j = 0 := by omega
        exact g) (Or.inr ⟨rfl, G, hG, rfl, fun j hj => absurd hj (by omega)⟩)
    have kx := r2.tr s2
    rw [r1, s1, fX11_bring_b65, if_pos nI_0, nM, nA, nA, ldA_n (by omega) (by omega), kx.2.2 _ (by decide), m0, q0, ldA_n (by omega) (by omega), kx.2.2 _ (by decide), m1, q1, ldA_n (by omega) (by omega), kx.2.2 _ (by decide), m2, q2, nM, nM, nA, nA, ← hS, bnd_d, ldA_n hS7 (by omega), bnd_d]
    -- the class
    obtain ⟨c1, t1, t2, t3, t4, t5, t6⟩ := wfill_loop (d := aB_ways) (v := -1) rfl (Nat.le_refl 2197) 2197 mFu 0 c (by omega) (show 2197 < 6000 by omega)
    have cq : CQ (Tt H) W S (8 * 0) 1 (fun _ => S) (fun _ => 0) (pA (pA (pI c1 iB_goal (nI G)) aB_queue 0 (nI S)) aB_ways S (nI (8 * S))) := by
      refine ⟨⟨by omega, rfl, fun _ _ => hS7, fun i j hi hj _ => by omega, fun i h0 hi => by omega, fun i h0 hi => by omega, fun i h0 hi => by omega, fun i h0 hi => by omega, fun i j h0 h1 hj => by omega, fun e' he' => by omega⟩, fun i hi => ?_, ?_, fun i h0 hi => by omega, fun v hv hne => ?_⟩
      · rw [gA_ne (by decide), gA_eq, if_pos (by omega)]
      · rw [gA_eq, if_pos rfl]
      · rw [gA_eq, if_neg (fun z => hne 0 (by omega) z.symm), gA_ne (by decide), gA_pI]
        exact t6 v (by omega) hv
    have hc : HC W H (pA (pA (pI c1 iB_goal (nI G)) aB_queue 0 (nI S)) aB_ways S (nI (8 * S))) := by
      refine ⟨?_, fun i hi => ?_⟩
      · rw [gI_pA, gI_pA, gI_ne (by decide), t3]; exact w1
      · rw [gA_ne (by decide), gA_ne (by decide), gA_pI, t4 _ (by decide)]; exact (hH i hi).2
    have sc : smC c (pA (pA (pI c1 iB_goal (nI G)) aB_queue 0 (nI S)) aB_ways S (nI (8 * S))) := t2.tr ((((smC.rf c1).pI iB_goal _ (by decide)).pA aB_queue _ _ (by decide)).pA aB_ways _ _ (by decide))
    obtain ⟨F, tail, Q, ed, c2, d1, d2, d3, d4, d5⟩ := bo_loop (y1 := nI S) hH1 hW hG 2197 mFu 0 1 _ _ _ (by omega) (show 2197 < 6000 by omega) (by omega) cq hc
    have gl : gI c2 iB_goal = nI G := by rw [d4.2.2, gI_pA, gI_pA, gI_eq]
    have fw : fX0_fewest 0 (nI S) (nI G) c = fX0_fewest_b151 (nI S) (nI G) c2 := by
      unfold fX0_fewest fJ7_fill_53178
      rw [bnd_d, bnd_d, t1, bO_s, bnd_d, stA_n (by omega) (by omega), nM, stA_n hS7 (by omega), bnd_d, bnd_d]
      exact d1
    have hR : Rel c2 x2 := h.sm (sc.tr d4.1) kx.1
    have ht := bq_t d2.1
    rw [fw]
    unfold fX0_fewest_b151
    rw [ldA_n hG (by omega)]
    rcases d5 with ⟨g, g1, g2⟩ | ⟨g1, g2⟩
    · have hl := ln_le d2.1 ht g g1
      have hin := cq_in d2 hW g1
      rw [g2] at hin
      have wl : fX0_wayLength (nI S) c2 = some (nI (ln ed 2197 g)) := by
        unfold fX0_wayLength
        rw [bnd_d, bnd_d, gl]
        have := wl_loop hW d2 g1 g2 (ln ed 2197 g) mFu 0 (by omega) (show ln ed 2197 g < 6000 by omega)
        rw [show pa ed g 0 = g from rfl, g2] at this
        exact this
      have hLS : Lw (Tt H) W G (ln ed 2197 g) S := by
        have := pa_L hW d2.1 ht g1 g2 d3 (Nat.le_refl _)
        rw [pa_end d2.1 ht g1 g2, d2.1.q0] at this
        exact this
      have eS : gA x2 aX_lettersTo S = nI (ln ed 2197 g) := by
        rcases s3 S hS7 with ⟨i, i1, i2, i3⟩ | ⟨i1, i2⟩
        · rw [i3, i2.uniq hLS]
        · exact absurd hLS.1 (i1 _)
      rw [if_neg hin, wl, bO_s, bP_s, bnd_d, eS, if_pos (nI_pos' (by omega))]
      by_cases e1 : e = -1
      · rw [if_pos e1, if_pos e1]
        unfold fX10_bring_b57
        rw [if_pos (nI_pos' (by omega)), if_pos (nI_pos' (by omega))]
        exact same_bad hR
      · rw [if_neg e1, if_neg e1, if_pos (nI_pos' (by omega))]
        have ep : ¬ e < 0 := by
          intro z
          apply e1
          apply Int32.toInt_inj.mp
          rw [Int32.lt_iff_toInt_lt] at z
          rw [Int32.le_iff_toInt_le] at he
          have : (0 : Int32).toInt = 0 := by decide
          have : (-1 : Int32).toInt = -1 := by decide
          omega
        by_cases e2 : nI (ln ed 2197 g) ≤ e
        · rw [if_pos e2, if_neg (Int32.not_lt.mpr e2)]; exact same_bad hR
        · rw [if_neg e2, if_pos (Int32.not_le.mp e2)]
          obtain ⟨B, hB, rfl⟩ := nOfLt ep e2 (by omega)
          unfold fX0_writerOfStep
          rw [bnd_d, bnd_d, gl, nSb (by omega), bnd_d, bnd_d]
          have v1 := ws_loop hW d2 g1 g2 hB (ln ed 2197 g - 1 - B) mFu 0 (by omega) (show ln ed 2197 g - 1 - B < 6000 by omega)
          rw [show pa ed g 0 = g from rfl, g2, Nat.sub_zero] at v1
          have v2 := wo_loop hH1 hW d2.1 d3 g1 g2 hB kx.2.1 s3 B mFu 0 (nI 0) (by omega) (show B + 1 < 6000 by omega)
          rw [Nat.sub_zero, pa_end d2.1 ht g1 g2, d2.1.q0] at v2
          rw [v1, bO_s, v2]
          exact same_bad hR
    · have eS : gA x2 aX_lettersTo S = -1 := by
        rcases s3 S hS7 with ⟨i, i1, i2, i3⟩ | ⟨i1, i2⟩
        · have := bq_none hW d2.1 g1 g2 i 0 d2.1.t1
          rw [d2.1.q0] at this
          exact absurd i2.1 this
        · exact i2
      rw [if_pos (d2.2.2.2.2 G hG g2), bP_s, bnd_d, eS, if_neg (show ¬ (0 : Int32) ≤ -1 by decide)]
      unfold fX10_bring_b57
      rw [if_neg (show ¬ (0 : Int32) ≤ -1 by decide), ite_self]
      exact same_bad hR
  · rw [if_neg he, if_neg he]; exact same_bad h
