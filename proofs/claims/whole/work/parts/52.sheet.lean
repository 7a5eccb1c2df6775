-- a sheet that fits
theorem sheet_loop {k n W j m w q : Nat} {f : Nat → Int32} (hk : k ≤ 1) (hw : w < W) (hq : q < n) : ∀ (r kf i : Nat) (c x : mS), i + r = 3 → r < kf → J k n W c x → rR j m f c x → ∃ (b : Nat) (c' x' : mS), b ≤ 1 ∧ fX10_fits_b3 kf j k (nI w) (nI q) (nI i) c = some (nI b, c') ∧ fX11_isSheet_b3 kf (nI j) (nI w) (nI q) (nI i) x = some (nI b, x') ∧ smL c c' ∧ smK x x' := by
  intro r
  induction r with
  | zero =>
    intro kf i c x h1 h2 h hr
    obtain ⟨kf, rfl⟩ : ∃ k', kf = k' + 1 := ⟨kf - 1, by omega⟩
    have z : nI 3 ≤ nI i := (nLe (by omega) (by omega)).mpr (by omega)
    rw [fX10_fits_b3, fX11_isSheet_b3, if_pos z, if_pos z]
    exact ⟨1, c, x, by omega, rfl, rfl, smL.rf c, smK.rf x⟩
  | succ r ih =>
    intro kf i c x h1 h2 h hr
    obtain ⟨kf, rfl⟩ : ∃ k', kf = k' + 1 := ⟨kf - 1, by omega⟩
    have z : ¬ nI 3 ≤ nI i := fun z => absurd ((nLe (by omega) (by omega)).mp z) (by omega)
    obtain ⟨hj, hm, r1, r2, r3⟩ := hr
    rw [fX10_fits_b3, fX11_isSheet_b3, if_neg z, if_neg z, ldA_n hj (by omega), r1, r2]
    by_cases g : m ≤ i
    · have z2 : nI m ≤ nI i := (nLe (by omega) (by omega)).mpr g
      rw [if_pos z2, if_pos z2]
      exact ⟨1, c, x, by omega, rfl, rfl, smL.rf c, smK.rf x⟩
    · have z2 : ¬ nI m ≤ nI i := fun z => g ((nLe (by omega) (by omega)).mp z)
      obtain ⟨G, c1, x1, -, g1, g2, g3, g4⟩ := shown_both hk h hw hq (h := i) (by omega)
      rw [if_neg z2, if_neg z2, nM, nA, nA, ldL_n (by omega) (by omega), ldL_n (by omega) (by omega), (r3 i (by omega)).1, (r3 i (by omega)).2, g1, g2, bP_s, bP_s]
      by_cases e : lg_cmp (Int32.toInt64 (f i)) (Int32.toInt64 (nI G)) = 0
      · rw [if_pos e, if_pos e, bnd_d, bnd_d]
        obtain ⟨b, c', x', b1, b2, b3, b4, b5⟩ := ih kf (i + 1) c1 x1 (by omega) (by omega) (h.keep hk g3 g4) (rR.keep ⟨hj, hm, r1, r2, r3⟩ g3.C g4.X)
        exact ⟨b, c', x', b1, b2, b3, g3.tr b4, g4.tr b5⟩
      · rw [if_neg e, if_neg e]
        exact ⟨0, c1, x1, by omega, rfl, rfl, g3, g4⟩
theorem sheet_both {k n W j m w q : Nat} {f : Nat → Int32} {c x : mS} (hk : k ≤ 1) (hw : w < W) (hq : q < n) (h : J k n W c x) (hr : rR j m f c x) : ∃ (b : Nat) (c' x' : mS), b ≤ 1 ∧ fX10_fits j k (nI w) (nI q) c = some (nI b, c') ∧ fX11_isSheet (nI j) (nI w) (nI q) x = some (nI b, x') ∧ smL c c' ∧ smK x x' := by
  unfold fX10_fits fX11_isSheet
  rw [bnd_d, bnd_d]
  exact sheet_loop hk hw hq 3 mFu 0 c x (by omega) (by decide) h hr
/-- who fits where, whatever was worked out before -/
theorem sheet_S {k n W j m : Nat} {f : Nat → Int32} {c0 x0 : mS} (hk : k ≤ 1) (h : J k n W c0 x0) (hr : rR j m f c0 x0) : ∃ S : Nat → Nat → Bool, ∀ c x, smL c0 c → smK x0 x → ∀ w q, w < W → q < n → ∃ c' x', fX10_fits j k (nI w) (nI q) c = some (nI (if S w q then 1 else 0), c') ∧ fX11_isSheet (nI j) (nI w) (nI q) x = some (nI (if S w q then 1 else 0), x') ∧ smL c0 c' ∧ smK x0 x' := by
  classical
  refine ⟨fun w q => decide (∃ s, fX10_fits j k (nI w) (nI q) c0 = some (nI 1, s)), fun c x hc hx w q hw hq => ?_⟩
  have hJ := h.keep hk hc hx
  have hJ1 := h.keep hk hc (smK.rf x0)
  have hr1 := hr.keep hc.C (smX.rf x0)
  have hr2 := hr.keep hc.C hx.X
  obtain ⟨b, c', x', b1, b2, b3, b4, b5⟩ := sheet_both hk hw hq hJ hr2
  obtain ⟨b', c1, x1, d1, d2, d3, d4, d5⟩ := sheet_both hk hw hq hJ1 hr1
  obtain ⟨b'', c2, x2, e1, e2, e3, e4, e5⟩ := sheet_both hk hw hq h hr
  have t1 : b = b' := (nEq (by omega) (by omega)).mp (congrArg Prod.fst (Option.some.inj (b2.symm.trans d2)))
  have t2 : b' = b'' := (nEq (by omega) (by omega)).mp (congrArg Prod.fst (Option.some.inj (d3.symm.trans e3)))
  have t3 : (if decide (∃ s, fX10_fits j k (nI w) (nI q) c0 = some (nI 1, s)) = true then 1 else 0) = b := by
    by_cases g : b = 1
    · rw [if_pos (decide_eq_true ⟨c2, by rw [e2, ← t2, ← t1, g]⟩), g]
    · rw [if_neg, show b = 0 by omega]
      intro z
      obtain ⟨s, hs⟩ := of_decide_eq_true z
      apply g
      rw [t1, t2]
      exact (nEq (by omega) (by omega)).mp (congrArg Prod.fst (Option.some.inj (e2.symm.trans hs)))
  refine ⟨c', x', ?_, ?_, hc.tr b4, hx.tr b5⟩
  · rw [b2, t3]
  · rw [b3, t3]
theorem if1 {β : Type} {S : Bool} {a b : β} : (if nI (if S then 1 else 0) = 0 then a else b) = if S then b else a := by
  cases S
  · rw [if_pos (show nI (if false = true then 1 else 0) = 0 by decide), if_neg (show ¬ false = true by decide)]
  · rw [if_neg (show ¬ nI (if true = true then 1 else 0) = 0 by decide), if_pos (show true = true by decide)]
/-- the class's loop over the writers -/
theorem wf_loop {k n W j m q : Nat} {f : Nat → Int32} {c0 x0 : mS} {S : Nat → Nat → Bool} (hk : k = 0) (hq : q < n) (h : J k n W c0 x0) (hS : ∀ c x, smL c0 c → smK x0 x → ∀ w q, w < W → q < n → ∃ c' x', fX10_fits j k (nI w) (nI q) c = some (nI (if S w q then 1 else 0), c') ∧ fX11_isSheet (nI j) (nI w) (nI q) x = some (nI (if S w q then 1 else 0), x') ∧ smL c0 c' ∧ smK x0 x') : ∀ (r kf i : Nat) (c : mS), i + r = W → r < kf → smL c0 c → ∃ c', fX10_writersFor_b5 kf j (nI q) (nI (msk (fun w => S w q) i)) (nI i) c = some (nI (msk (fun w => S w q) W), c') ∧ smL c0 c' := by
  subst hk
  obtain ⟨hR, hM, hW, w1, w2, -⟩ := h
  intro r
  induction r with
  | zero =>
    intro kf i c h1 h2 hc
    obtain ⟨kf, rfl⟩ : ∃ k', kf = k' + 1 := ⟨kf - 1, by omega⟩
    rw [fX10_writersFor_b5, hc.1 _ (by decide), w1, if_pos ((nLe (by omega) (by omega)).mpr (by omega)), show i = W by omega]
    exact ⟨c, rfl, hc⟩
  | succ r ih =>
    intro kf i c h1 h2 hc
    obtain ⟨kf, rfl⟩ : ∃ k', kf = k' + 1 := ⟨kf - 1, by omega⟩
    obtain ⟨c', x', e1, e2, e3, e4⟩ := hS c x0 hc (smK.rf x0) i q (by omega) hq
    rw [fX10_writersFor_b5, hc.1 _ (by decide), w1, if_neg (fun z => absurd ((nLe (by omega) (by omega)).mp z) (by omega)), e1, bP_s, if1]
    have a := msk_add (S := fun w => S w q) (w := i) (by omega)
    unfold fX10_writersFor_b39
    by_cases g : S i q = true
    · rw [if_pos g] at a
      rw [if_pos g, bnd_d, bnd_d, nA, a]
      exact ih kf (i + 1) c' (by omega) (by omega) e3
    · rw [if_neg g] at a
      rw [if_neg g, bnd_d, nA, a]
      exact ih kf (i + 1) c' (by omega) (by omega) e3
theorem xw_loop {k n W j m q : Nat} {f : Nat → Int32} {c0 x0 : mS} {S : Nat → Nat → Bool} (hq : q < n) (h : J k n W c0 x0) (hS : ∀ c x, smL c0 c → smK x0 x → ∀ w q, w < W → q < n → ∃ c' x', fX10_fits j k (nI w) (nI q) c = some (nI (if S w q then 1 else 0), c') ∧ fX11_isSheet (nI j) (nI w) (nI q) x = some (nI (if S w q then 1 else 0), x') ∧ smL c0 c' ∧ smK x0 x') : ∀ (r kf i : Nat) (x : mS), i + r = W → r < kf → smK x0 x → ∃ x', fX11_whose_b46 kf (nI j) (nI q) (nI (msk (fun w => S w q) i)) (nI i) x = some (nI (msk (fun w => S w q) W), x') ∧ smK x0 x' := by
  obtain ⟨hR, hM, hW, w1, w2, -⟩ := h
  intro r
  induction r with
  | zero =>
    intro kf i x h1 h2 hx
    obtain ⟨kf, rfl⟩ : ∃ k', kf = k' + 1 := ⟨kf - 1, by omega⟩
    rw [fX11_whose_b46, hx.1 _ (by decide), w2, if_pos ((nLe (by omega) (by omega)).mpr (by omega)), show i = W by omega]
    exact ⟨x, rfl, hx⟩
  | succ r ih =>
    intro kf i x h1 h2 hx
    obtain ⟨kf, rfl⟩ : ∃ k', kf = k' + 1 := ⟨kf - 1, by omega⟩
    obtain ⟨c', x', e1, e2, e3, e4⟩ := hS c0 x (smL.rf c0) hx i q (by omega) hq
    rw [fX11_whose_b46, hx.1 _ (by decide), w2, if_neg (fun z => absurd ((nLe (by omega) (by omega)).mp z) (by omega)), e2, bP_s, if1]
    have a := msk_add (S := fun w => S w q) (w := i) (by omega)
    unfold fX11_whose_b75
    by_cases g : S i q = true
    · rw [if_pos g] at a
      rw [if_pos g, bnd_d, bnd_d, nA, a]
      exact ih kf (i + 1) x' (by omega) (by omega) e4
    · rw [if_neg g] at a
      rw [if_neg g, bnd_d, bnd_d, nA, nI_0, Int32.or_zero, a]
      exact ih kf (i + 1) x' (by omega) (by omega) e4
theorem z_whose {c x : mS} (h : Rel c x) (a b : Int32) : same (fX10_whose a b c) (fX11_whose a b x) := by
  unfold fX10_whose fX11_whose
  obtain ⟨⟨n, hn, n1, n2⟩, -⟩ := h.1
  rw [f_has6, n1, bO_s, b01_z, f_isMachine hn n2, bO_s, b01_z]
  rcases row_both h a 0 (by omega) with ⟨v, v1, v2, v3⟩ | ⟨j, m, f, ha, hr, v2, v3⟩
  · rw [v2, v3, bO_s, bO_s, bO_s, bO_s, bnd_d, if_neg (vbad v1).1, if_neg (vbad v1).2]
    by_cases e1 : v = -1
    · subst e1
      rw [if_pos rfl]
      split <;> exact same_bad h
    rw [if_neg e1]
    split <;> exact same_bad h
  rw [v2, v3, bO_s, bO_s, bO_s, bO_s, bnd_d, i00, if_neg (show ¬ nI 1 = -1 by decide), if_pos (show (0 : Int32) ≤ nI 1 by decide)]
  by_cases hb : b < 0 ∨ nI n ≤ b
  · rw [if_pos hb, if_pos hb]; exact same_bad h
  rw [if_neg hb, if_neg hb]
  obtain ⟨q, hq, rfl⟩ := nOfLt (fun z => hb (Or.inl z)) (fun z => hb (Or.inr z)) (by omega)
  subst ha
  obtain ⟨N, W, x0, b1, b2, hJ⟩ := begin0 h
  have eN : N = n := (nEq (by have := hJ.2.1.1; omega) (by omega)).mp (hJ.2.1.2.1.symm.trans n1)
  subst eN
  have hr0 := hr.keep (smC.rf c) b2
  obtain ⟨S, hS⟩ := sheet_S (by omega) hJ hr0
  have hW := hJ.2.2.1
  obtain ⟨c', e1, e2⟩ := wf_loop (m := m) (f := f) rfl hq hJ hS W mFu 0 c (by omega) (show W < 6000 by omega) (smL.rf c)
  obtain ⟨x', d1, d2⟩ := xw_loop (m := m) (f := f) hq hJ hS W mFu 0 x0 (by omega) (show W < 6000 by omega) (smK.rf x0)
  have e1' : fX10_writersFor_b5 mFu j (nI q) (nI 0) (nI 0) c = some (nI (msk (fun w => S w q) W), c') := e1
  have d1' : fX11_whose_b46 mFu (nI j) (nI q) (nI 0) (nI 0) x0 = some (nI (msk (fun w => S w q) W), x') := d1
  unfold fX10_writersFor
  rw [ldS_n hr.1 (by omega), b1, bO_s, bnd_d, bnd_d, bnd_d, bnd_d, e1', d1', bP_s]
  exact same_bad (hJ.keep (by omega) e2 d2).1
theorem wh_loop {n W j m w : Nat} {f : Nat → Int32} (hw : w < W) : ∀ (r kf i : Nat) (v : Int32) (c x : mS), i + r = n → r < kf → J 0 n W c x → rR j m f c x → same (fX10_where_b32 kf (nI j) (nI w) v (nI i) c) (fX11_where_b46 kf (nI j) (nI w) v (nI i) x) := by
  intro r
  induction r with
  | zero =>
    intro kf i v c x h1 h2 h hr
    obtain ⟨kf, rfl⟩ : ∃ k', kf = k' + 1 := ⟨kf - 1, by omega⟩
    have hn := h.2.1.1
    have z : nI n ≤ nI i := (nLe (by omega) (by omega)).mpr (by omega)
    rw [fX10_where_b32, fX11_where_b46, h.2.1.2.1, h.2.1.2.2.1, if_pos z, if_pos z]
    exact same_bad h.1
  | succ r ih =>
    intro kf i v c x h1 h2 h hr
    obtain ⟨kf, rfl⟩ : ∃ k', kf = k' + 1 := ⟨kf - 1, by omega⟩
    have hn := h.2.1.1
    have z : ¬ nI n ≤ nI i := fun z => absurd ((nLe (by omega) (by omega)).mp z) (by omega)
    obtain ⟨b, c', x', b1, b2, b3, b4, b5⟩ := sheet_both (by omega) hw (show i < n by omega) h hr
    rw [fX10_where_b32, fX11_where_b46, h.2.1.2.1, h.2.1.2.2.1, if_neg z, if_neg z, ldS_n hr.1 (by omega), b2, b3, bP_s, bP_s]
    have hJ' := h.keep (by omega) b4 b5
    have hr' := hr.keep b4.C b5.X
    unfold fX10_where_b73 fX11_where_b75
    by_cases g : nI b = 0
    · rw [if_pos g, if_pos g, bnd_d, bnd_d, bnd_d, nA, nI_0, Int32.or_zero]
      exact ih kf (i + 1) v c' x' (by omega) (by omega) hJ' hr'
    · rw [if_neg g, if_neg g, bnd_d, bnd_d, bnd_d, bnd_d, nA]
      exact ih kf (i + 1) _ c' x' (by omega) (by omega) hJ' hr'
theorem z_where {c x : mS} (h : Rel c x) (a b : Int32) : same (fX10_where a b c) (fX11_where a b x) := by
  unfold fX10_where fX11_where
  obtain ⟨-, ⟨W, hW, w1, w2⟩, -⟩ := h.1
  rw [f_has9, w1, bO_s, b01_z, f_isWriter hW w2, bO_s, b01_z]
  rcases row_both h a 0 (by omega) with ⟨v, v1, v2, v3⟩ | ⟨j, m, f, ha, hr, v2, v3⟩
  · rw [v2, v3, bO_s, bO_s, bO_s, bO_s, bnd_d, if_neg (vbad v1).1, if_neg (vbad v1).2]
    by_cases e1 : v = -1
    · subst e1
      rw [if_pos rfl]
      split <;> exact same_bad h
    rw [if_neg e1]
    split <;> exact same_bad h
  rw [v2, v3, bO_s, bO_s, bO_s, bO_s, bnd_d, i00, if_neg (show ¬ nI 1 = -1 by decide), if_pos (show (0 : Int32) ≤ nI 1 by decide)]
  by_cases hb : b < 0 ∨ nI W ≤ b
  · rw [if_pos hb, if_pos hb]; exact same_bad h
  rw [if_neg hb, if_neg hb]
  obtain ⟨q, hq, rfl⟩ := nOfLt (fun z => hb (Or.inl z)) (fun z => hb (Or.inr z)) (by omega)
  subst ha
  obtain ⟨N, W', x0, b1, b2, hJ⟩ := begin0 h
  have eW : W' = W := (nEq (by have := hJ.2.2.1; omega) (by omega)).mp (hJ.2.2.2.1.symm.trans w1)
  subst eW
  have hn := hJ.2.1.1
  rw [b1, bO_s, bnd_d, bnd_d, bnd_d, bnd_d]
  exact wh_loop hq N mFu 0 _ c x0 (by omega) (show N < 6000 by omega) hJ (hr.keep (smC.rf c) b2)
theorem bt_loop {n W j m w q w2 : Nat} {f : Nat → Int32} {b : Int32} (hw : w < W) (hq : q < n) (hw2 : w2 < W) (e1 : b / nI 10 = nI w2) (e2 : b - b / nI 10 * nI 10 = nI q) : ∀ (r kf i : Nat) (c x : mS), i + r = 61 → r < kf → J 1 n W c x → rR j m f c x → same (fX10_between_b51 kf (nI j) b (nI w) (nI i) c) (fX11_between_b52 kf (nI j) b (nI w) (nI i) x) := by
  intro r
  induction r with
  | zero =>
    intro kf i c x h1 h2 h hr
    obtain ⟨kf, rfl⟩ : ∃ k', kf = k' + 1 := ⟨kf - 1, by omega⟩
    have z : nI 60 < nI i := (nLt (by omega) (by omega)).mpr (by omega)
    rw [fX10_between_b51, fX11_between_b52, if_pos z, if_pos z]
    exact same_bad h.1
  | succ r ih =>
    intro kf i c x h1 h2 h hr
    obtain ⟨kf, rfl⟩ : ∃ k', kf = k' + 1 := ⟨kf - 1, by omega⟩
    have z : ¬ nI 60 < nI i := fun z => absurd ((nLt (by omega) (by omega)).mp z) (by omega)
    obtain ⟨b', c', x', b1, b2, b3, b4, b5⟩ := sheet_both (by omega) hw hq h hr
    rw [fX10_between_b51, fX11_between_b52, if_neg z, if_neg z, ldS_n hr.1 (by omega), e2, e1, b2, b3, bP_s, bP_s]
    have hJ' := h.keep (by omega) b4 b5
    have hr' := hr.keep b4.C b5.X
    by_cases g : nI b' = 0
    · obtain ⟨c2, x2, p1, p2, p3, p4, p5, -⟩ := pass1 hJ' hw2 hq
      rw [if_pos g, if_pos g, p1, p2, bO_s, bO_s, bnd_d, bnd_d, nA]
      exact ih kf (i + 1) c2 x2 (by omega) (by omega) p5 (hr'.keep p3 p4)
    · rw [if_neg g, if_neg g]
      exact same_bad hJ'.1
theorem z_between {c x : mS} (h : Rel c x) (a b e : Int32) : same (fX10_between a b e c) (fX11_between a b e x) := by
  unfold fX10_between fX11_between
  obtain ⟨-, ⟨W, hW, w1, w2⟩, -⟩ := h.1
  rw [f_has9, w1, bO_s, b01_z, f_isWriter hW w2, bO_s, b01_z]
  rcases pair_both h b with ⟨h1, h2⟩ | ⟨n, W', q, w, hn, hW', hq, hw, n1, n2, w1', w2', e1, e2, h1, h2⟩
  · rw [h1, h2, bO_s, bO_s, i00, i00]
    rcases row_both h a 0 (by omega) with ⟨v, v1, v2, v3⟩ | ⟨j, m, f, ha, hr, v2, v3⟩
    · rw [v3, bO_s, ite_self]; exact same_bad h
    · rw [v3, bO_s, ite_self]; exact same_bad h
  have eW : W' = W := (nEq (by omega) (by omega)).mp (w1'.symm.trans w1)
  subst eW
  rw [h1, h2, bO_s, bO_s, i10, i10]
  rcases row_both h a 0 (by omega) with ⟨v, v1, v2, v3⟩ | ⟨j, m, f, ha, hr, v2, v3⟩
  · rw [v2, v3, bO_s, bO_s, bO_s, bO_s, bnd_d, if_neg (vbad v1).1, if_neg (vbad v1).2]
    by_cases e1 : v = -1
    · subst e1
      rw [if_pos rfl]
      split <;> exact same_bad h
    rw [if_neg e1]
    split <;> exact same_bad h
  rw [v2, v3, bO_s, bO_s, bO_s, bnd_d, i00, if_neg (show ¬ nI 1 = -1 by decide), if_pos (show (0 : Int32) ≤ nI 1 by decide)]
  by_cases hb : e < 0 ∨ nI W' ≤ e
  · rw [if_pos hb, if_pos hb]; exact same_bad h
  rw [if_neg hb, if_neg hb]
  obtain ⟨we, hwe, rfl⟩ := nOfLt (fun z => hb (Or.inl z)) (fun z => hb (Or.inr z)) (by omega)
  subst ha
  obtain ⟨N, W, c0, x0, b1, b2, b3, b4, hJ⟩ := begin1 h
  have eN : N = n := (nEq (by have := hJ.2.1.1; omega) (by omega)).mp (hJ.2.1.2.2.1.symm.trans ((b4.1 _ (by decide)).trans n2))
  have eW : W = W' := (nEq (by have := hJ.2.2.1; omega) (by omega)).mp (hJ.2.2.2.2.1.symm.trans ((b4.1 _ (by decide)).trans w2))
  subst eN
  subst eW
  rw [b1, b2, bO_s, bO_s, bnd_d, bnd_d]
  exact bt_loop hwe hq hw e1 e2 61 mFu 0 c0 x0 (by omega) (by decide) hJ (hr.keep b3 b4)
