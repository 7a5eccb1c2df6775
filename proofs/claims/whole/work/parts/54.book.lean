-- books of letters read back
/-- both answer the same, in thought -/
def samJ (n W : Nat) (c x : mS) (o p : Option (Int32 × mS)) : Prop := ∃ v c' x', o = some (v, c') ∧ p = some (v, x') ∧ smC c c' ∧ smX x x' ∧ J 1 n W c' x'
theorem samJ.tr {n W : Nat} {c x d y : mS} {o p : Option (Int32 × mS)} (hc : smC c d) (hx : smX x y) (h : samJ n W d y o p) : samJ n W c x o p := by
  obtain ⟨v, c', x', e1, e2, e3, e4, e5⟩ := h
  exact ⟨v, c', x', e1, e2, hc.tr e3, hx.tr e4, e5⟩
theorem fw_loop {n W j m : Nat} {f : Nat → Int32} {r wc wx : Int32} (hw : ∀ i, i ≤ 20 → nI i = r → wc = wx) : ∀ (q kf i : Nat) (c x : mS), i + q = 20 → q < kf → J 1 n W c x → rR j m f c x → samJ n W c x (fX10_firstWrong_b22 kf j r wc (nI i) c) (fX11_firstFalse_b3 kf (nI j) r wx (nI i) x) := by
  intro q
  induction q with
  | zero =>
    intro kf i c x h1 h2 h hr
    obtain ⟨kf, rfl⟩ : ∃ k', kf = k' + 1 := ⟨kf - 1, by omega⟩
    obtain ⟨hj, hm, r1, r2, r3⟩ := hr
    have z : nI m ≤ nI (3 * i) := (nLe (by omega) (by omega)).mpr (by omega)
    rw [fX10_firstWrong_b22, fX11_firstFalse_b3, nM, r1, ldA_n hj (by omega), r2, if_pos z, if_pos z]
    exact ⟨_, _, _, rfl, rfl, smC.rf c, smX.rf x, h⟩
  | succ q ih =>
    intro kf i c x h1 h2 h hr
    obtain ⟨kf, rfl⟩ : ∃ k', kf = k' + 1 := ⟨kf - 1, by omega⟩
    obtain ⟨hj, hm, r1, r2, r3⟩ := id hr
    have hn := h.2.1.1
    have hW := h.2.2.1
    rw [fX10_firstWrong_b22, fX11_firstFalse_b3, nM, r1, ldA_n hj (by omega), r2]
    by_cases z0 : m ≤ 3 * i
    · have z : nI m ≤ nI (3 * i) := (nLe (by omega) (by omega)).mpr z0
      rw [if_pos z, if_pos z]
      exact ⟨_, _, _, rfl, rfl, smC.rf c, smX.rf x, h⟩
    have z : ¬ nI m ≤ nI (3 * i) := fun z => z0 ((nLe (by omega) (by omega)).mp z)
    rw [if_neg z, if_neg z, bnd_d, ldA_n hj (by omega), r2, f_hasSpan, bO_s, b01_z, r1, nA]
    by_cases g : 3 * i + 3 ≤ m
    · rw [if_neg (nor (nNeg (by omega)) (nor (nNeg (by omega)) (nor (fun z => absurd ((nLt (by omega) (by omega)).mp z) (by omega)) (fun z => by rw [nSb (by omega), nLt (by omega) (by omega)] at z; omega)))), if_pos ((nLt (by omega) (by omega)).mpr (by omega))]
      have key : ∀ a : Int32, samJ n W c x (fX10_firstWrong_b69 (fun u0 u1 u2 u3 u4 => fX10_firstWrong_b22 kf u0 u1 u2 u3 u4) j r wc (nI i) a c) (fX11_firstFalse_b63 (fun u0 u1 u2 u3 u4 => fX11_firstFalse_b3 kf u0 u1 u2 u3 u4) (nI j) r wx (nI i) (nI (60 * j) + nI (3 * i)) a.toInt64 x) := by
        intro a
        unfold fX10_firstWrong_b69 fX11_firstFalse_b63
        rw [bnd_d, bnd_d, nM, nA, nA, nA, nA, nA, nA, ldL_n (by omega) (by omega), ldL_n (by omega) (by omega), (r3 _ (by omega)).1, show 60 * j + 3 * i + 1 = 60 * j + (3 * i + 1) by omega, (r3 _ (by omega)).2, bnd_d, Int32.toInt32_toInt64, Int32.toInt32_toInt64, f_has9, h.2.2.2.1, bO_s, b01_z, f_isWriter hW h.2.2.2.2.1, bO_s, b01_z, f_has6, h.n0, bO_s, b01_z, f_isMachine hn h.2.1.2.2.1, bO_s, b01_z]
        by_cases g1 : a < 0 ∨ nI W ≤ a
        · rw [if_pos g1, if_pos g1]
          exact ⟨_, _, _, rfl, rfl, smC.rf c, smX.rf x, h⟩
        rw [if_neg g1, if_neg g1]
        by_cases g2 : f (3 * i + 1) < 0 ∨ nI n ≤ f (3 * i + 1)
        · rw [if_pos g2, if_pos g2]
          exact ⟨_, _, _, rfl, rfl, smC.rf c, smX.rf x, h⟩
        rw [if_neg g2, if_neg g2, ldL_n (by omega) (by omega), (r3 _ (by omega)).2, Int32.toInt32_toInt64]
        obtain ⟨w, hw', ew⟩ := nOfLt (fun z => g1 (Or.inl z)) (fun z => g1 (Or.inr z)) (by omega)
        obtain ⟨p, hp, ep⟩ := nOfLt (fun z => g2 (Or.inl z)) (fun z => g2 (Or.inr z)) (by omega)
        rw [ew, ep]
        obtain ⟨G, c1, x1, -, e1, e2, e3, e4⟩ := code_both (by omega) h hw' hp
        have h1J := h.keep (by omega) e3 e4
        have hr1 := hr.keep e3.C e4.X
        obtain ⟨-, -, -, -, r3'⟩ := id hr1
        rw [e1, e2, bP_s, bP_s, ldL_n (by omega) (by omega), ldL_n (by omega) (by omega), (r3' _ (by omega)).1, show 60 * j + 3 * i + 2 = 60 * j + (3 * i + 2) by omega, (r3' _ (by omega)).2]
        by_cases g3 : lg_cmp (Int32.toInt64 (nI G)) (Int32.toInt64 (f (3 * i + 2))) = 0
        · obtain ⟨c2, x2, p1, p2, p3, p4, p5, -⟩ := pass1 h1J hw' hp
          rw [if_pos g3, if_pos g3, ldL_n (by omega) (by omega), (r3' _ (by omega)).2, Int32.toInt32_toInt64, ep, p1, p2, bO_s, bO_s, bnd_d, bnd_d]
          exact samJ.tr (e3.C.tr p3) (e4.X.tr p4) (ih kf (i + 1) c2 x2 (by omega) (by omega) p5 (hr1.keep p3 p4))
        · rw [if_neg g3, if_neg g3]
          exact ⟨_, _, _, rfl, rfl, e3.C, e4.X, h1J⟩
      by_cases e : nI i = r
      · rw [if_pos e, if_pos e, ← hw i (by omega) e]
        have := key wc
        rw [nM]
        rw [hw i (by omega) e] at this ⊢
        exact this
      · rw [if_neg e, if_neg e, nM, nA, ldL_n (by omega) (by omega), ldL_n (by omega) (by omega), (r3 _ (by omega)).1, (r3 _ (by omega)).2, Int32.toInt32_toInt64]
        have := key (f (3 * i))
        rw [nA] at this
        exact this
    · rw [if_pos, if_neg (fun z => absurd ((nLt (by omega) (by omega)).mp z) (by omega))]
      · exact ⟨_, _, _, rfl, rfl, smC.rf c, smX.rf x, h⟩
      · by_cases g1 : m < 3
        · exact Or.inr (Or.inr (Or.inl ((nLt (by omega) (by omega)).mpr g1)))
        · refine Or.inr (Or.inr (Or.inr ?_))
          rw [nSb (by omega), nLt (by omega) (by omega)]
          omega
theorem begin1r {c x : mS} (h : Rel c x) : ∃ n W c' x', fX11_begins x = some x' ∧ fX6_copy 1 0 c = some c' ∧ smC c c' ∧ smX x x' ∧ J 1 n W c' x' ∧ gI x' iX_ribbon = gI c (iM_ribbon 0) := by
  obtain ⟨n, x', b1, b2, b3, b4⟩ := begins_both h
  obtain ⟨c', e1, e2, e3⟩ := copy_both b4
  obtain ⟨W, r⟩ := b3.rW
  exact ⟨n, W, c', x', b1, e1, e2, b2, ⟨h.sm e2 b2, e3, r.keep e2 (smX.rf x')⟩, b4.2.2.2.2.2.1⟩
theorem J.rib {n W : Nat} {c x y : mS} {t : Nat} (h : J 1 n W c x) (ht : t ≤ 9) (hy : smX x y) (hA : ∀ k i, gA y k i = gA x k i) (hr : gI y iX_ribbon = nI t) : J 1 n W (pI c (iM_ribbon 1) (nI t)) y := by
  have s1 : smC c (pI c (iM_ribbon 1) (nI t)) := (smC.rf c).pI _ _ (by decide)
  refine ⟨h.1.sm s1 hy, ?_, h.2.2.keep s1 hy⟩
  obtain ⟨hn, n1, n2, hp, hg, -⟩ := h.2.1
  refine ⟨hn, n1, by rw [hy.1 _ (by decide)]; exact n2, fun i hi => ?_, fun i hi => ?_, ?_, t, ht, rfl⟩
  · rw [hA]; exact hp i hi
  · rw [hA]; exact hg i hi
  · rw [hr]; rfl
/-- the first that is not so, from the beginning, with the ribbon that stands -/
theorem fw_both {j m : Nat} {f : Nat → Int32} {r wc wx : Int32} {c x : mS} (hw : ∀ i, i ≤ 20 → nI i = r → wc = wx) (h : Rel c x) (hr : rR j m f c x) : ∃ v c' x0 x', fX10_firstWrong j (gI c (iM_ribbon 0)) r wc c = some (v, c') ∧ fX11_begins x = some x0 ∧ fX11_firstFalse (nI j) r wx x0 = some (v, x') ∧ smC c c' ∧ smX x x0 ∧ smX x x' := by
  obtain ⟨n, W, c0, x0, b1, b2, b3, b4, hJ, b5⟩ := begin1r h
  obtain ⟨t, ht, et⟩ : ∃ t, t ≤ 9 ∧ gI c (iM_ribbon 0) = nI t := h.1.2.2.2.2.2.2.2
  have hJ1 := hJ.rib (y := x0) ht (smX.rf x0) (fun _ _ => rfl) (b5.trans et)
  have s1 : smC c0 (pI c0 (iM_ribbon 1) (nI t)) := (smC.rf c0).pI _ _ (by decide)
  obtain ⟨v, c', x', e1, e2, e3, e4, -⟩ := fw_loop hw 20 mFu 0 _ x0 (by omega) (by decide) hJ1 ((hr.keep b3 b4).keep s1 (smX.rf x0))
  refine ⟨v, c', x0, x', ?_, b1, ?_, (b3.tr s1).tr e3, b4, b4.tr e4⟩
  · unfold fX10_firstWrong
    rw [b2, bO_s, bnd_d, bnd_d, et]
    exact e1
  · unfold fX11_firstFalse
    rw [bnd_d]
    exact e2
theorem nI_ne_neg1 (i : Nat) (hi : i ≤ 20) : nI i = -1 → (-1 : Int32) = nI 0 := fun z => absurd z (neg1 (by omega))
theorem z_judge {c x : mS} (h : Rel c x) (a : Int32) : same (fX10_judge a c) (fX11_judge a x) := by
  unfold fX10_judge fX11_judge
  rcases row_both h a 1 (by omega) with ⟨v, v1, v2, v3⟩ | ⟨j, m, f, ha, hr, v2, v3⟩
  · rw [v2, v3, bO_s, bO_s, bO_s, bnd_d, if_neg (vbad v1).1, if_neg (vbad v1).2]
    exact same_bad h
  rw [v2, v3, bO_s, bO_s, bnd_d, i00, if_pos (show (0 : Int32) ≤ nI 1 by decide)]
  subst ha
  obtain ⟨v, c', x0, x', e1, e2, e3, e4, e5, e6⟩ := fw_both (r := -1) nI_ne_neg1 h hr
  rw [ldS_n hr.1 (by omega), e1, e2, bO_s, e3, bP_s, bP_s]
  exact same_bad (h.sm e4 e6)
theorem fo_loop {W j m k : Nat} {f : Nat → Int32} (hW : W ≤ 8) (hk : 3 * k + 3 ≤ m) : ∀ (q kf i : Nat) (v : Int32) (c x : mS), i + q = W → q < kf → Rel c x → gI c (iW_size 0) = nI W → rR j m f c x → same (fX10_falseOne_b47 kf j (nI k) v (nI i) c) (fX11_falseOne_b52 kf (nI j) (nI k) v (nI i) x) := by
  intro q
  induction q with
  | zero =>
    intro kf i v c x h1 h2 h w1 hr
    obtain ⟨kf, rfl⟩ : ∃ k', kf = k' + 1 := ⟨kf - 1, by omega⟩
    obtain ⟨-, ⟨W', hW', w1', w2'⟩, -⟩ := h.1
    have z : nI W ≤ nI i := (nLe (by omega) (by omega)).mpr (by omega)
    rw [fX10_falseOne_b47, fX11_falseOne_b52, w2', ← w1', w1, if_pos z, if_pos z]
    exact same_bad h
  | succ q ih =>
    intro kf i v c x h1 h2 h w1 hr
    obtain ⟨kf, rfl⟩ : ∃ k', kf = k' + 1 := ⟨kf - 1, by omega⟩
    obtain ⟨-, ⟨W', hW', w1', w2'⟩, -⟩ := h.1
    have z : ¬ nI W ≤ nI i := fun z => absurd ((nLe (by omega) (by omega)).mp z) (by omega)
    obtain ⟨hj, hm, r1, r2, r3⟩ := id hr
    obtain ⟨V, c', x0, x', e1, e2, e3, e4, e5, e6⟩ := fw_both (r := nI k) (wc := nI i) (wx := nI i) (fun _ _ _ => rfl) h hr
    rw [fX10_falseOne_b47, fX11_falseOne_b52, w2', ← w1', w1, if_neg z, if_neg z, nM, nM, nA, ldL_n (by omega) (by omega), (r3 _ (by omega)).1, e2, bO_s, ldL_n (by omega) (by omega), ((hr.keep (smC.rf c) e5).2.2.2.2 _ (by omega)).2]
    unfold fX10_falseOne_b105 fX11_falseOne_b106 fX11_falseOne_b107
    by_cases g : lg_cmp (Int32.toInt64 (nI i)) (Int32.toInt64 (f (3 * k))) = 0
    · rw [if_pos g, if_pos g, bnd_d, bnd_d, bnd_d, nI_0, Int32.or_zero, nA]
      exact ih kf (i + 1) v c x0 (by omega) (by omega) (h.sm (smC.rf c) e5) w1 (hr.keep (smC.rf c) e5)
    · rw [if_neg g, if_neg g, e1, e3, bP_s, bP_s]
      have w1n : gI c' (iW_size 0) = nI W := (e4.1 _ (by decide)).trans w1
      by_cases g2 : V = -2
      · rw [if_pos g2, if_pos g2, bnd_d, bnd_d, bnd_d, bnd_d, nA]
        exact ih kf (i + 1) _ c' x' (by omega) (by omega) (h.sm e4 e6) w1n (hr.keep e4 e6)
      · rw [if_neg g2, if_neg g2, bnd_d, bnd_d, bnd_d, nI_0, Int32.or_zero, nA]
        exact ih kf (i + 1) v c' x' (by omega) (by omega) (h.sm e4 e6) w1n (hr.keep e4 e6)
theorem z_falseOne {c x : mS} (h : Rel c x) (a b : Int32) : same (fX10_falseOne a b c) (fX11_falseOne a b x) := by
  unfold fX10_falseOne fX11_falseOne
  rcases row_both h a 1 (by omega) with ⟨v, v1, v2, v3⟩ | ⟨j, m, f, ha, hr, v2, v3⟩
  · rw [v2, v3, bO_s, bO_s, bO_s, bO_s, bnd_d, if_neg (vbad v1).1, if_neg (vbad v1).2]
    by_cases e1 : v = -1
    · subst e1
      rw [if_pos rfl]
      split <;> exact same_bad h
    rw [if_neg e1]
    split <;> exact same_bad h
  rw [v2, v3, bO_s, bO_s, bO_s, bO_s, bnd_d, i00, if_neg (show ¬ nI 1 = -1 by decide), if_pos (show (0 : Int32) ≤ nI 1 by decide)]
  by_cases hb : 0 ≤ b
  · rw [if_pos hb, if_pos hb]
    subst ha
    obtain ⟨hj, hm, r1, r2, r3⟩ := id hr
    obtain ⟨B1, B2⟩ := nOf (Int32.not_lt.mpr hb)
    generalize b.toNatClampNeg = B at B1 B2
    subst B1
    rw [ldS_n hj (by omega), ldA_n hj (by omega), r1, r2, nDiv (by omega) (by omega)]
    by_cases g : B < m / 3
    · have z := (nLt B2 (show m / 3 < 2147483648 by omega)).mpr g
      rw [if_pos z, if_pos z, bnd_d, bnd_d, bnd_d, bnd_d]
      obtain ⟨-, ⟨W, hW, w1, w2⟩, -⟩ := h.1
      exact fo_loop hW (by omega) W mFu 0 _ c x (by omega) (show W < 6000 by omega) h w1 hr
    · have z : ¬ nI B < nI (m / 3) := fun z => g ((nLt B2 (by omega)).mp z)
      rw [if_neg z, if_neg z]
      exact same_bad h
  · rw [if_neg hb, if_neg hb]; exact same_bad h
/-- with a ribbon told -/
theorem rb_both {j m t : Nat} {f : Nat → Int32} {c x : mS} (ht : t ≤ 9) (h : Rel c x) (hr : rR j m f c x) : ∃ v c' x0 x', fX10_firstWrong j (nI t) (-1) (-1) c = some (v, c') ∧ fX11_begins x = some x0 ∧ fX11_firstFalse (nI j) (-1) (nI 0) (pI x0 iX_ribbon (nI t)) = some (v, x') ∧ smC c c' ∧ smX x x' := by
  obtain ⟨n, W, c0, x0, b1, b2, b3, b4, hJ, b5⟩ := begin1r h
  have s2 : smX x0 (pI x0 iX_ribbon (nI t)) := (smX.rf x0).pI _ _ (by decide)
  have hJ1 := hJ.rib (y := pI x0 iX_ribbon (nI t)) ht s2 (fun _ _ => rfl) rfl
  have s1 : smC c0 (pI c0 (iM_ribbon 1) (nI t)) := (smC.rf c0).pI _ _ (by decide)
  obtain ⟨v, c', x', e1, e2, e3, e4, -⟩ := fw_loop nI_ne_neg1 20 mFu 0 _ _ (by omega) (by decide) hJ1 ((hr.keep b3 b4).keep s1 s2)
  refine ⟨v, c', x0, x', ?_, b1, ?_, (b3.tr s1).tr e3, (b4.tr s2).tr e4⟩
  · unfold fX10_firstWrong
    rw [b2, bO_s, bnd_d, bnd_d]
    exact e1
  · unfold fX11_firstFalse
    rw [bnd_d]
    exact e2
theorem rb_S {j m : Nat} {f : Nat → Int32} {c x : mS} (h : Rel c x) (hr : rR j m f c x) : ∃ V : Nat → Int32, ∀ t, t ≤ 9 → ∀ c1 x1, smC c c1 → smX x x1 → ∃ c' x0 x', fX10_firstWrong j (nI t) (-1) (-1) c1 = some (V t, c') ∧ fX11_begins x1 = some x0 ∧ fX11_firstFalse (nI j) (-1) (nI 0) (pI x0 iX_ribbon (nI t)) = some (V t, x') ∧ smC c c' ∧ smX x x' := by
  refine ⟨fun t => match fX10_firstWrong j (nI t) (-1) (-1) c with | some (v, _) => v | none => 0, fun t ht c1 x1 hc hx => ?_⟩
  obtain ⟨v, c', x0, x', e1, e2, e3, e4, e5⟩ := rb_both ht (h.sm hc hx) (hr.keep hc hx)
  obtain ⟨v1, d1, y0, y1, f1, f2, f3, f4, f5⟩ := rb_both ht (h.sm hc (smX.rf x)) (hr.keep hc (smX.rf x))
  obtain ⟨v2, d2, z0, z1, g1, g2, g3, g4, g5⟩ := rb_both ht h hr
  have q1 : v = v1 := congrArg Prod.fst (Option.some.inj (e1.symm.trans f1))
  have q0 : y0 = z0 := Option.some.inj (f2.symm.trans g2)
  subst q0
  have q2 : v1 = v2 := congrArg Prod.fst (Option.some.inj (f3.symm.trans g3))
  have q3 : (match fX10_firstWrong j (nI t) (-1) (-1) c with | some (v, _) => v | none => 0) = v := by
    rw [g1, q1, q2]
  refine ⟨c', x0, x', ?_, e2, ?_, hc.tr e4, hx.tr e5⟩
  · rw [e1]; exact congrArg (fun u => some (u, c')) q3.symm
  · rw [e3]; exact congrArg (fun u => some (u, x')) q3.symm
def fst0 (S : Nat → Bool) : Nat → Int32
  | 0 => -2
  | i + 1 => if S i then (if cnt S i = 0 then nI i else fst0 S i) else fst0 S i
def low (S : Nat → Bool) : Nat → Int32 → Int32
  | 0, l => l
  | i + 1, l => low S i (if S i then nI i else l)
theorem low_fst (S : Nat → Bool) : ∀ i l, low S i l = if cnt S i = 0 then l else fst0 S i := by
  intro i
  induction i with
  | zero => intro l; exact (if_pos (show cnt S 0 = 0 from rfl)).symm
  | succ i ih =>
    intro l
    have c1 : cnt S (i + 1) = cnt S i + if S i then 1 else 0 := rfl
    have f1 : fst0 S (i + 1) = if S i then (if cnt S i = 0 then nI i else fst0 S i) else fst0 S i := rfl
    have l1 : low S (i + 1) l = low S i (if S i then nI i else l) := rfl
    rw [l1, ih, c1, f1]
    by_cases g : S i = true
    · rw [if_pos g, if_pos g, if_pos g, if_neg (show ¬ cnt S i + 1 = 0 by omega)]
    · rw [if_neg g, if_neg g, if_neg g, Nat.add_zero]
theorem dec_n {i : Nat} (hi : i < 2147483647) : nI (i + 1) + (-1) = nI i := by
  rw [← nA, Int32.add_assoc, show nI 1 + (-1) = 0 by decide, Int32.add_zero]
theorem rc_loop {j m : Nat} {f : Nat → Int32} {c x : mS} {V : Nat → Int32} {y2 : Int32} (hj : j < 6) (hV : ∀ t, t ≤ 9 → ∀ c1 x1, smC c c1 → smX x x1 → ∃ c' x0 x', fX10_firstWrong j (nI t) (-1) (-1) c1 = some (V t, c') ∧ fX11_begins x1 = some x0 ∧ fX11_firstFalse (nI j) (-1) (nI 0) (pI x0 iX_ribbon (nI t)) = some (V t, x') ∧ smC c c' ∧ smX x x') : ∀ (i kf a : Nat) (l : Int32) (c1 : mS), i ≤ 10 → i < kf → smC c c1 → ∃ c', fX10_ribbons_b35 kf (nI j) y2 (nI a) l (nI i + (-1)) c1 = (if y2 = 0 then some (nI (a + cnt (fun t => decide (V t = -2)) i), c') else some (low (fun t => decide (V t = -2)) i l, c')) ∧ smC c c' := by
  intro i
  induction i with
  | zero =>
    intro kf a l c1 h0 h1 hc
    obtain ⟨kf, rfl⟩ : ∃ k', kf = k' + 1 := ⟨kf - 1, by omega⟩
    rw [fX10_ribbons_b35, if_pos (show nI 0 + (-1) < 0 by decide)]
    exact ⟨c1, rfl, hc⟩
  | succ i ih =>
    intro kf a l c1 h0 h1 hc
    obtain ⟨kf, rfl⟩ : ∃ k', kf = k' + 1 := ⟨kf - 1, by omega⟩
    obtain ⟨c', x0, x', e1, e2, e3, e4, e5⟩ := hV i (by omega) c1 x hc (smX.rf x)
    rw [dec_n (by omega), fX10_ribbons_b35, if_neg (nNeg (by omega)), ldS_n hj (by omega), e1, bP_s]
    unfold fX10_ribbons_b66
    have c1' : cnt (fun t => decide (V t = -2)) (i + 1) = cnt (fun t => decide (V t = -2)) i + if decide (V i = -2) then 1 else 0 := rfl
    have l1 : low (fun t => decide (V t = -2)) (i + 1) l = low (fun t => decide (V t = -2)) i (if decide (V i = -2) then nI i else l) := rfl
    rw [c1', l1]
    by_cases g : V i = -2
    · rw [if_pos g, if_pos (decide_eq_true g), if_pos (decide_eq_true g), bnd_d, bnd_d, bnd_d, nA, show a + (cnt (fun t => decide (V t = -2)) i + 1) = a + 1 + cnt (fun t => decide (V t = -2)) i by omega]
      exact ih kf (a + 1) (nI i) c' (by omega) (by omega) e4
    · rw [if_neg g, if_neg (fun z => g (of_decide_eq_true z)), if_neg (fun z => g (of_decide_eq_true z)), bnd_d, Nat.add_zero]
      exact ih kf a l c' (by omega) (by omega) e4
theorem rx_loop {j m : Nat} {f : Nat → Int32} {c x : mS} {V : Nat → Int32} {y2 : Int32} (hV : ∀ t, t ≤ 9 → ∀ c1 x1, smC c c1 → smX x x1 → ∃ c' x0 x', fX10_firstWrong j (nI t) (-1) (-1) c1 = some (V t, c') ∧ fX11_begins x1 = some x0 ∧ fX11_firstFalse (nI j) (-1) (nI 0) (pI x0 iX_ribbon (nI t)) = some (V t, x') ∧ smC c c' ∧ smX x x') : ∀ (q kf i : Nat) (x1 : mS), i + q = 10 → q < kf → smX x x1 → ∃ x', fX11_ribbons_b47 kf (nI j) y2 (nI (cnt (fun t => decide (V t = -2)) i)) (fst0 (fun t => decide (V t = -2)) i) (nI i) x1 = (if y2 = 0 then some (nI (cnt (fun t => decide (V t = -2)) 10), x') else some (fst0 (fun t => decide (V t = -2)) 10, x')) ∧ smX x x' := by
  intro q
  induction q with
  | zero =>
    intro kf i x1 h0 h1 hx
    obtain ⟨kf, rfl⟩ : ∃ k', kf = k' + 1 := ⟨kf - 1, by omega⟩
    obtain rfl : i = 10 := by omega
    rw [fX11_ribbons_b47, if_pos (show nI 9 < nI 10 by decide)]
    exact ⟨x1, rfl, hx⟩
  | succ q ih =>
    intro kf i x1 h0 h1 hx
    obtain ⟨kf, rfl⟩ : ∃ k', kf = k' + 1 := ⟨kf - 1, by omega⟩
    obtain ⟨c', x0, x', e1, e2, e3, e4, e5⟩ := hV i (by omega) c x1 (smC.rf c) hx
    rw [fX11_ribbons_b47, if_neg (fun z => absurd ((nLt (by omega) (by omega)).mp z) (by omega)), e2, bO_s, bnd_d, e3, bP_s]
    unfold fX11_ribbons_b87 fX11_ribbons_b92
    have q := ih kf (i + 1) x' (by omega) (by omega) e5
    have c1' : cnt (fun t => decide (V t = -2)) (i + 1) = cnt (fun t => decide (V t = -2)) i + if decide (V i = -2) then 1 else 0 := rfl
    have f1 : fst0 (fun t => decide (V t = -2)) (i + 1) = if decide (V i = -2) then (if cnt (fun t => decide (V t = -2)) i = 0 then nI i else fst0 (fun t => decide (V t = -2)) i) else fst0 (fun t => decide (V t = -2)) i := rfl
    rw [c1', f1] at q
    have hc := cnt_le (fun t => decide (V t = -2)) i
    by_cases g : V i = -2
    · rw [if_pos (decide_eq_true g), if_pos (decide_eq_true g)] at q
      rw [if_pos g]
      by_cases g2 : cnt (fun t => decide (V t = -2)) i = 0
      · rw [if_pos g2] at q
        rw [g2] at q ⊢
        rw [i00, bnd_d, bnd_d, bnd_d, nA, nA]
        exact q
      · rw [if_neg g2] at q
        rw [if_neg (show ¬ nI (cnt (fun t => decide (V t = -2)) i) = 0 from fun z => g2 ((nEq (by omega) (by omega)).mp (z.trans nI_0.symm))), bnd_d, bnd_d, bnd_d, nA, nA]
        exact q
    · rw [if_neg (fun z => g (of_decide_eq_true z)), if_neg (fun z => g (of_decide_eq_true z)), Nat.add_zero] at q
      rw [if_neg g, bnd_d, nA]
      exact q
theorem z_ribbons {c x : mS} (h : Rel c x) (a b : Int32) : same (fX10_ribbons a b c) (fX11_ribbons a b x) := by
  unfold fX10_ribbons fX11_ribbons
  rw [f_win b 1 1 (by decide), bO_s, b01_z, ite_in]
  rcases row_both h a 1 (by omega) with ⟨v, v1, v2, v3⟩ | ⟨j, m, f, ha, hr, v2, v3⟩
  · rw [v2, v3, bO_s, bO_s, bO_s, bO_s, bnd_d, if_neg (vbad v1).1, if_neg (vbad v1).2]
    by_cases e1 : v = -1
    · subst e1
      rw [if_pos rfl]
      split <;> exact same_bad h
    rw [if_neg e1]
    split <;> exact same_bad h
  rw [v2, v3, bO_s, bO_s, bO_s, bO_s, bnd_d, i00, if_neg (show ¬ nI 1 = -1 by decide), if_pos (show (0 : Int32) ≤ nI 1 by decide)]
  by_cases hb : b < 0 ∨ nI 1 < b
  · rw [if_pos hb, if_pos hb]; exact same_bad h
  rw [if_neg hb, if_neg hb]
  subst ha
  obtain ⟨V, hV⟩ := rb_S h hr
  obtain ⟨c', e1, e2⟩ := rc_loop (m := m) (f := f) (y2 := b) hr.1 hV 10 mFu 0 (-2) c (by omega) (by decide) (smC.rf c)
  obtain ⟨x', d1, d2⟩ := rx_loop (m := m) (f := f) (y2 := b) hV 10 mFu 0 x (by omega) (by decide) (smX.rf x)
  have e1' : fX10_ribbons_b35 mFu (nI j) b (nI 0) (-2) (nI 9) c = _ := e1
  have d1' : fX11_ribbons_b47 mFu (nI j) b (nI 0) (-2) (nI 0) x = _ := d1
  rw [bnd_d, bnd_d, bnd_d, bnd_d, bnd_d, bnd_d, e1', d1']
  have hR := h.sm e2 d2
  by_cases g : b = 0
  · rw [if_pos g, if_pos g, Nat.zero_add]
    exact same_bad hR
  · rw [if_neg g, if_neg g, low_fst]
    by_cases g2 : cnt (fun t => decide (V t = -2)) 10 = 0
    · have : ∀ i, cnt (fun t => decide (V t = -2)) i = 0 → fst0 (fun t => decide (V t = -2)) i = -2 := by
        intro i
        induction i with
        | zero => intro _; rfl
        | succ i ih =>
          intro hz
          have c1' : cnt (fun t => decide (V t = -2)) (i + 1) = cnt (fun t => decide (V t = -2)) i + if decide (V i = -2) then 1 else 0 := rfl
          have f1 : fst0 (fun t => decide (V t = -2)) (i + 1) = if decide (V i = -2) then (if cnt (fun t => decide (V t = -2)) i = 0 then nI i else fst0 (fun t => decide (V t = -2)) i) else fst0 (fun t => decide (V t = -2)) i := rfl
          rw [c1'] at hz
          rw [f1]
          by_cases g : decide (V i = -2) = true
          · rw [if_pos g] at hz; omega
          · rw [if_neg g]; exact ih (by omega)
      rw [if_pos g2, this 10 g2]
      exact same_bad hR
    · rw [if_neg g2]
      exact same_bad hR
