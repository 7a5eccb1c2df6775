-- the grip, on both sides
theorem smL.C {c d : mS} (h : smL c d) : smC c d := by
  refine ⟨fun k hk => h.1 k ?_, fun k hk i => h.2.1 k ?_ i, h.2.2⟩
  · simp only [List.mem_cons, List.not_mem_nil, or_false] at hk ⊢; omega
  · simp only [List.mem_cons, List.not_mem_nil, or_false] at hk; omega
theorem smK.X {c d : mS} (h : smK c d) : smX c d := by
  refine ⟨fun k hk => h.1 k ?_, fun k hk i => h.2.1 k ?_ i, fun k _ i => h.2.2 k i⟩
  · replace hk : k ∉ [6, 7, 8, 9, 10, 11, 19, 20] := hk
    simp only [List.mem_cons, List.not_mem_nil, or_false] at hk ⊢; omega
  · replace hk : k ∉ [6, 7, 8, 9, 10, 11, 12] := hk
    simp only [List.mem_cons, List.not_mem_nil, or_false] at hk; omega
theorem rM.keep {k n : Nat} {c x d y : mS} (hk : k ≤ 1) (h : rM k n c x) (hc : smL c d) (hx : smK x y) : rM k n d y := by
  unfold rM at h ⊢
  have e1 : ∀ j, j ≠ 16 → gA d j = gA c j := fun j hj => funext (hc.2.1 j hj)
  have e2 : ∀ j, j ≠ 6 → gA y j = gA x j := fun j hj => funext (hx.2.1 j hj)
  rcases (show k = 0 ∨ k = 1 by omega) with rfl | rfl
  · rw [hc.1 (iM_size 0) (by decide), hc.1 (iM_ribbon 0) (by decide), hx.1 iX_machines (by decide), hx.1 iX_ribbon (by decide), e1 (aM_pulls 0) (by decide), e1 (aM_ages 0) (by decide), e2 aX_pull (by decide), e2 aX_age (by decide)]
    exact h
  · rw [hc.1 (iM_size 1) (by decide), hc.1 (iM_ribbon 1) (by decide), hx.1 iX_machines (by decide), hx.1 iX_ribbon (by decide), e1 (aM_pulls 1) (by decide), e1 (aM_ages 1) (by decide), e2 aX_pull (by decide), e2 aX_age (by decide)]
    exact h
theorem rW.keep {W : Nat} {c x d y : mS} (h : rW W c x) (hc : smC c d) (hx : smX x y) : rW W d y := by
  unfold rW at h ⊢
  have e1 : ∀ j, j ∉ [1, 3, 4, 5, 7, 12, 14, 16, 23, 24, 25, 26] → gA d j = gA c j := fun j hj => funext (hc.2.1 j hj)
  have e2 : gA y aX_may = gA x aX_may := funext (hx.2.1 _ (by decide))
  rw [hc.1 (iW_size 0) (by decide), hx.1 iX_writers (by decide), e1 (aW_hands 0) (by decide), e1 (aW_touches 0) (by decide), e2]
  exact h
/-- all that a working out stands on -/
def J (k n W : Nat) (c x : mS) : Prop := Rel c x ∧ rM k n c x ∧ rW W c x
theorem J.keep {k n W : Nat} {c x d y : mS} (hk : k ≤ 1) (h : J k n W c x) (hc : smL c d) (hx : smK x y) : J k n W d y := ⟨h.1.sm hc.C hx.X, h.2.1.keep hk hc hx, h.2.2.keep hc.C hx.X⟩
theorem clamp_both (v : Int32) (c x : mS) : ∃ g, g ≤ 12 ∧ fX10_gripOf_b128 v c = some (nI g, c) ∧ fX11_gripOf_b120 v x = some (nI g, x) := by
  unfold fX10_gripOf_b128 fX11_gripOf_b120
  rw [bnd_d]
  by_cases h : v < 0
  · have h1 : v < nI 12 := by
      rw [Int32.lt_iff_toInt_lt] at h ⊢
      have : (0 : Int32).toInt = 0 := by decide
      have : (nI 12).toInt = 12 := by decide
      omega
    have h2 : ¬ (nI 0) < v := by
      rw [Int32.lt_iff_toInt_lt] at h ⊢
      have : (0 : Int32).toInt = 0 := by decide
      have : (nI 0).toInt = 0 := by decide
      omega
    rw [if_pos h1, if_neg h2, if_neg (Int32.not_le.mpr h)]
    exact ⟨0, by omega, rfl, rfl⟩
  · obtain ⟨e1, e2⟩ := nOf h
    generalize v.toNatClampNeg = V at e1 e2
    subst e1
    rw [if_pos (Int32.not_lt.mp h)]
    by_cases g : V ≤ 12
    · rw [if_pos ((nLe e2 (by omega)).mpr g)]
      by_cases g2 : V < 12
      · rw [if_pos ((nLt e2 (by omega)).mpr g2)]
        by_cases g3 : 0 < V
        · rw [if_pos ((nLt (by omega) e2).mpr g3)]; exact ⟨V, g, rfl, rfl⟩
        · rw [if_neg (fun z => g3 ((nLt (by omega) e2).mp z))]
          obtain rfl : V = 0 := by omega
          exact ⟨0, g, rfl, rfl⟩
      · rw [if_neg (fun z => g2 ((nLt e2 (by omega)).mp z)), if_pos (show nI 0 < nI 12 by decide)]
        obtain rfl : V = 12 := by omega
        exact ⟨12, g, rfl, rfl⟩
    · rw [if_neg (fun z => g ((nLe e2 (by omega)).mp z)), if_neg (fun z => absurd ((nLt e2 (by omega)).mp z) (by omega)), if_pos (show nI 0 < nI 12 by decide)]
      exact ⟨12, by omega, rfl, rfl⟩
theorem grip_both {k n W w m h : Nat} {c x : mS} (hk : k ≤ 1) (hJ : J k n W c x) (hw : w < W) (hm : m < n) (hh : h < 3) : ∃ g c' x', g ≤ 12 ∧ fX10_gripOf k (nI w) (nI m) (nI h) c = some (nI g, c') ∧ fX11_gripOf (nI w) (nI m) (nI h) x = some (nI g, x') ∧ smL c c' ∧ smK x x' := by
  obtain ⟨hR, ⟨hn, n1, n2, hp, hg, hr, r, hr9, hr1⟩, hW8, w1, w2, hH, hT⟩ := hJ
  unfold fX10_gripOf fX11_gripOf
  obtain ⟨a1, a, ha, a2⟩ := hg m hm
  obtain ⟨t1, t, ht, t2⟩ := hT w (by omega)
  obtain ⟨p1, u, hu, p2⟩ := hp (3 * m + h) (by omega)
  obtain ⟨q1, v, hv, q2⟩ := hH (3 * w + h) (by omega)
  unfold fX9_hand fX6_pull
  rw [ldA_n (by omega) (by omega), a2, bnd_d, ldA_n (by omega) (by omega), gA_pI, t2, bnd_d, bnd_d, nM, nA, ldA_n (by omega) (by omega), gA_pI, gA_pI, gA_pI, q2, bO_s, nM, nA, ldA_n (by omega) (by omega), gA_pI, gA_pI, gA_pI, p2, bO_s, dst_c hv hu, bnd_d, bnd_d, bnd_d]
  have e9 : gI (pI (pI (pI (pI c iL_age (nI a)) iL_touch (nI t)) iL_habit (nI h)) iL_unlike (nI (dst v u))) (iM_ribbon k) = gI c (iM_ribbon k) := by
    rcases (show k = 0 ∨ k = 1 by omega) with rfl | rfl <;> rfl
  rw [e9, hr1]
  rw [ldA_n (by omega) (by omega), a1, a2, nA, ldA_n (by omega) (by omega), t1, t2, bnd_d]
  have hL := hR.2.2.2.1
  have sC : smL c (pI (pI (pI (pI (pI (pI c iL_age (nI a)) iL_touch (nI t)) iL_habit (nI h)) iL_unlike (nI (dst v u))) iL_ribbon (nI r)) iL_machine (nI m)) := ((((((smL.rf c).pI 41 _ (by decide)).pI 42 _ (by decide)).pI 43 _ (by decide)).pI 44 _ (by decide)).pI 45 _ (by decide)).pI 46 _ (by decide)
  generalize hd : (pI (pI (pI (pI (pI (pI c iL_age (nI a)) iL_touch (nI t)) iL_habit (nI h)) iL_unlike (nI (dst v u))) iL_ribbon (nI r)) iL_machine (nI m)) = d at sC
  have d1 : gI d iL_age = nI a := by rw [← hd]; rfl
  have d2 : gI d iL_touch = nI t := by rw [← hd]; rfl
  have d3 : gI d iL_habit = nI h := by rw [← hd]; rfl
  have d4 : gI d iL_unlike = nI (dst v u) := by rw [← hd]; rfl
  have d5 : gI d iL_ribbon = nI r := by rw [← hd]; rfl
  have d6 : gI d iL_machine = nI m := by rw [← hd]; rfl
  rw [sC.1 iL_told (by decide), d1, d2]
  rcases hL with ⟨l1, l2⟩ | ⟨l1, N, K, hN, hK, l2, l3, l4⟩
  · rw [l1, l2, if_pos rfl, if_pos (show (-1 : Int32) < 0 by decide)]
    obtain ⟨g, g1, g2, g3⟩ := clamp_both (nI 6 + nI a / nI 10 - nI t / nI 3) d x
    exact ⟨g, d, x, g1, g2, g3, sC, smK.rf x⟩
  · rw [l1, l2, if_neg (show ¬ (1 : Int32) = 0 by decide), if_neg (nNeg (by omega)), ldA_n (by omega) (by omega), a1, a2, stA_n (by omega) (by omega), ldA_n (by omega) (by omega), gA_ne (by decide), t1, t2, stA_n (by omega) (by omega), stA_n (by omega) (by omega)]
    unfold fX11_handOf
    rw [nM, nA, nA, show 32 + 3 * w + h = 32 + (3 * w + h) by omega, ldA_n (by omega) (by omega), gA_ne (by decide), gA_ne (by decide), gA_ne (by decide), q1, q2, bO_s, ldA_n (by omega) (by omega), gA_ne (by decide), gA_ne (by decide), gA_ne (by decide), p1, p2, dst_x hv hu, bO_s, stA_n (by omega) (by omega), stA_n (by omega) (by omega), stA_n (by omega) (by omega)]
    rw [show gI (pA (pA (pA (pA x aX_names 0 (nI a)) aX_names 1 (nI t)) aX_names 2 (nI h)) aX_names 3 (nI (dst v u))) iX_ribbon = nI r from hr.trans hr1]
    have sX : smK x (pA (pA (pA (pA (pA (pA x aX_names 0 (nI a)) aX_names 1 (nI t)) aX_names 2 (nI h)) aX_names 3 (nI (dst v u))) aX_names 4 (nI r)) aX_names 5 (nI m)) := ((((((smK.rf x).pA _ _).pA _ _).pA _ _).pA _ _).pA _ _).pA _ _
    generalize hy : (pA (pA (pA (pA (pA (pA x aX_names 0 (nI a)) aX_names 1 (nI t)) aX_names 2 (nI h)) aX_names 3 (nI (dst v u))) aX_names 4 (nI r)) aX_names 5 (nI m)) = y at sX
    have y1 : gA y aX_names 0 = nI a := by rw [← hy]; rfl
    have y2 : gA y aX_names 1 = nI t := by rw [← hy]; rfl
    have y3 : gA y aX_names 2 = nI h := by rw [← hy]; rfl
    have y4 : gA y aX_names 3 = nI (dst v u) := by rw [← hy]; rfl
    have y5 : gA y aX_names 4 = nI r := by rw [← hy]; rfl
    have y6 : gA y aX_names 5 = nI m := by rw [← hy]; rfl
    have tm : gI y iX_textMany = nI N := (sX.1 iX_textMany (by decide)).trans l2
    rw [tm]
    obtain ⟨V, d', y', v1, v2, v3, v4⟩ := l4 d y (funext (sC.2.1 _ (by decide))) ((sC.1 _ (by decide)).trans l3) (funext (sX.2.1 _ (by decide))) tm ⟨a, t, h, dst v u, r, m, ha, ht, by omega, dst_le hv hu, hr9, by omega, d1, d2, d3, d4, d5, d6, y1, y2, y3, y4, y5, y6⟩
    rw [v1, v2, bP_s, bP_s, bnd_d]
    obtain ⟨g, g1, g2, g3⟩ := clamp_both V d' y'
    exact ⟨g, d', y', g1, g2, g3, sC.tr v3, sX.tr v4⟩
/-- what is shown, on both sides -/
theorem shown_both {k n W w m h : Nat} {c x : mS} (hk : k ≤ 1) (hJ : J k n W c x) (hw : w < W) (hm : m < n) (hh : h < 3) : ∃ g c' x', g ≤ 12 ∧ fX10_shown k (nI w) (nI m) (nI h) c = some (nI g, c') ∧ fX11_showsOf (nI w) (nI m) (nI h) x = some (nI g, x') ∧ smL c c' ∧ smK x x' := by
  obtain ⟨g, c', x', hg, g1, g2, g3, g4⟩ := grip_both hk hJ hw hm hh
  have hJ' := hJ.keep hk g3 g4
  obtain ⟨hR, ⟨hn, n1, n2, hp, -, -⟩, hW8, w1, w2, hH, hT⟩ := hJ'
  obtain ⟨p1, u, hu, p2⟩ := hp (3 * m + h) (by omega)
  obtain ⟨q1, v, hv, q2⟩ := hH (3 * w + h) (by omega)
  unfold fX10_shown fX11_showsOf
  rw [g1, g2, bP_s, bP_s, bnd_d, bnd_d]
  unfold fX9_hand fX6_pull fX11_handOf
  have b1 : v * (12 - g) ≤ 12 * (12 - g) := Nat.mul_le_mul_right _ hv
  have b2 : u * g ≤ 12 * g := Nat.mul_le_mul_right _ hu
  rw [nM, nA, ldA_n (by omega) (by omega), q2, bO_s, nM, nA, ldA_n (by omega) (by omega), p2, bO_s, nA, nA, show 32 + 3 * w + h = 32 + (3 * w + h) by omega, ldA_n (by omega) (by omega), q1, q2, bO_s, ldA_n (by omega) (by omega), p1, p2, nSb hg, nM, nM, nA, nDiv (by omega) (by omega)]
  exact ⟨(v * (12 - g) + u * g) / 12, c', x', by omega, rfl, rfl, g3, g4⟩
/-- the whole letter, on both sides -/
theorem code_both {k n W w m : Nat} {c x : mS} (hk : k ≤ 1) (hJ : J k n W c x) (hw : w < W) (hm : m < n) : ∃ g c' x', g < 2197 ∧ fX10_shownCode k (nI w) (nI m) c = some (nI g, c') ∧ fX11_codeOf (nI w) (nI m) x = some (nI g, x') ∧ smL c c' ∧ smK x x' := by
  unfold fX10_shownCode fX11_codeOf
  obtain ⟨g0, c0, x0, h0, a0, b0, s0, t0⟩ := shown_both hk hJ hw hm (h := 0) (by omega)
  have J0 := hJ.keep hk s0 t0
  obtain ⟨g1, c1, x1, h1, a1, b1, s1, t1⟩ := shown_both hk J0 hw hm (h := 1) (by omega)
  have J1 := J0.keep hk s1 t1
  obtain ⟨g2, c2, x2, h2, a2, b2, s2, t2⟩ := shown_both hk J1 hw hm (h := 2) (by omega)
  rw [a0, b0, bP_s, bP_s, a1, b1, bP_s, bP_s, a2, b2, bP_s, bP_s]
  unfold fX2_code
  rw [bO_s, nM, nM, nA, nA]
  exact ⟨_, c2, x2, by omega, rfl, rfl, (s0.tr s1).tr s2, (t0.tr t1).tr t2⟩
