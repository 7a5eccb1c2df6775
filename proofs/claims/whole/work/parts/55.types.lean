-- typing in deed
theorem ty_st {x : mS} {m i v p S G : Nat} (hm : m < 8) (hi : i < 3) (hG : fX11_inCode (nI G) (nI i) (pA x aX_may (3 * m + i) (nI v)) = some (nI p)) (hv : gA x aX_pull (3 * m + i) = nI v) (f : Nat) : fX11_types_b41 (f + 1) (nI m) (nI G) (nI i) x = fX11_types_b41 f (nI m) (nI G) (nI (i + 1)) (pA (pA x aX_may (3 * m + i) (nI v)) aX_ledNow 3 (gA x aX_ledNow 3 + nI p)) := by
  rw [fX11_types_b41, if_neg (fun z => absurd ((nLe (by omega) (by omega)).mp z) (by omega)), nM, nA, ldA_n (by omega) (by omega), hv, stA_n (by omega) (by omega), ldA_n (by omega) (by omega), hG, bO_s, stA_n (by omega) (by omega), bnd_d, nA, gA_ne (show aX_ledNow ≠ aX_may by decide)]
set_option maxHeartbeats 1000000 in
theorem z_types {c x : mS} (h : Rel c x) (a : Int32) : same (fX10_types a c) (fX11_types a x) := by
  unfold fX10_types fX11_types
  rcases pair_both h a with ⟨h1, h2⟩ | ⟨n, W, m, w, hn, hW, hm, hw, n1, n2, w1, w2, e1, e2, h1, h2⟩
  · rw [h1, h2, bO_s, bO_s, i00, i00]; exact same_bad h
  rw [h1, h2, bO_s, bO_s, i10, i10, e2, e1, bnd_d]
  obtain ⟨N, W', x0, b1, b2, hJ⟩ := begin0 h
  have eN : N = n := (nEq (by have := hJ.2.1.1; omega) (by omega)).mp (hJ.2.1.2.1.symm.trans n1)
  have eW : W' = W := (nEq (by have := hJ.2.2.1; omega) (by omega)).mp (hJ.2.2.2.1.symm.trans w1)
  subst eN
  subst eW
  obtain ⟨G, c1, x1, hG, g1, g2, g3, g4⟩ := code_both (by omega) hJ hw hm
  have hJ1 := hJ.keep (by omega) g3 g4
  obtain ⟨v0, v1, v2, ag, c2, x2, hv0, hv1, hv2, hag, p1, p2, p3, p4, M, W2⟩ := pass_both (by omega) hJ1.2.1 hJ1.2.2 hw hm
  rw [g1, b1, bO_s, g2, bP_s, bP_s, bnd_d, bnd_d, p1, p2, bO_s, bO_s, bnd_d, bnd_d]
  have s2 : smX x1 x2 := by
    rw [p4]
    exact ((((smX.rf x1).pA aX_pull _ _ (by decide)).pA aX_pull _ _ (by decide)).pA aX_pull _ _ (by decide)).pA aX_age _ _ (by decide)
  have R0 : Rel c1 x2 := hJ1.1.sm (smC.rf c1) s2
  have u0 : gA x2 aX_pull (3 * m) = nI v0 := by rw [p4, gA_ne (by decide), gA_eq, if_neg (by omega), gA_eq, if_neg (by omega), gA_eq, if_pos rfl]
  have u1 : gA x2 aX_pull (3 * m + 1) = nI v1 := by rw [p4, gA_ne (by decide), gA_eq, if_neg (by omega), gA_eq, if_pos rfl]
  have u2 : gA x2 aX_pull (3 * m + 2) = nI v2 := by rw [p4, gA_ne (by decide), gA_eq, if_pos rfl]
  have u3 : gA x2 aX_age m = nI ag := by rw [p4, gA_eq, if_pos rfl]
  obtain ⟨q0, hq0, pc0, px0⟩ := part_both G 0 hG (by omega) c x
  obtain ⟨q1, hq1, pc1, px1⟩ := part_both G 1 hG (by omega) c x
  obtain ⟨q2, hq2, pc2, px2⟩ := part_both G 2 hG (by omega) c x
  -- the reference
  obtain ⟨f, hf⟩ : ∃ f, mFu = f + 4 := ⟨5996, rfl⟩
  have k0 : fX11_types_b41 (f + 4) (nI m) (nI G) (nI 0) x2 = fX11_types_b41 (f + 2 + 1) (nI m) (nI G) (nI 1) (pA (pA x2 aX_may (3 * m) (nI v0)) aX_ledNow 3 (gA x2 aX_ledNow 3 + nI q0)) := ty_st (S := 0) (by omega) (by omega) px0 u0 (f + 3)
  generalize hy0 : pA (pA x2 aX_may (3 * m) (nI v0)) aX_ledNow 3 (gA x2 aX_ledNow 3 + nI q0) = y0 at k0
  have l0 : gA y0 aX_ledNow 3 = gA x2 aX_ledNow 3 + nI q0 := by rw [← hy0, gA_eq, if_pos rfl]
  have k1 := ty_st (S := 0) (x := y0) (m := m) (i := 1) (v := v1) (p := q1) (G := G) (by omega) (by omega) px1 (by rw [← hy0, gA_ne (by decide), gA_ne (by decide)]; exact u1) (f + 2)
  generalize hy1 : pA (pA y0 aX_may (3 * m + 1) (nI v1)) aX_ledNow 3 (gA y0 aX_ledNow 3 + nI q1) = y1 at k1
  have l1 : gA y1 aX_ledNow 3 = gA x2 aX_ledNow 3 + nI q0 + nI q1 := by rw [← hy1, gA_eq, if_pos rfl, l0]
  have k2 := ty_st (S := 0) (x := y1) (m := m) (i := 2) (v := v2) (p := q2) (G := G) (by omega) (by omega) px2 (by rw [← hy1, gA_ne (by decide), gA_ne (by decide), ← hy0, gA_ne (by decide), gA_ne (by decide)]; exact u2) (f + 1)
  generalize hy2 : pA (pA y1 aX_may (3 * m + 2) (nI v2)) aX_ledNow 3 (gA y1 aX_ledNow 3 + nI q2) = y2 at k2
  have l2 : gA y2 aX_ledNow 3 = gA x2 aX_ledNow 3 + nI q0 + nI q1 + nI q2 := by rw [← hy2, gA_eq, if_pos rfl, l1]
  have l3 : gA y2 aX_age m = nI ag := by rw [← hy2, gA_ne (by decide), gA_ne (by decide), ← hy1, gA_ne (by decide), gA_ne (by decide), ← hy0, gA_ne (by decide), gA_ne (by decide)]; exact u3
  have l4 : gA y2 aX_ledNow 0 = gA x2 aX_ledNow 0 := by rw [← hy2, gA_eq, if_neg (by omega), gA_ne (by decide), ← hy1, gA_eq, if_neg (by omega), gA_ne (by decide), ← hy0, gA_eq, if_neg (by omega), gA_ne (by decide)]
  rw [hf, k0, k1, k2, fX11_types_b41, if_pos (show nI 3 ≤ nI (2 + 1) by decide), ldA_n (by omega) (by omega), l3, nA, stA_n (by omega) (by omega), ldA_n (by omega) (by omega), stA_n (by omega) (by omega), bnd_d, gA_ne (show aX_ledNow ≠ aX_may by decide), l4]
  -- the class
  unfold fX2_sum
  have pcc : ∀ (i p : Nat) (s t : mS), fX2_part (nI G) (nI i) s = some (nI p) → fX2_part (nI G) (nI i) t = some (nI p) := fun _ _ _ _ z => z
  rw [pcc 0 q0 c _ pc0, bO_s, pcc 1 q1 c _ pc1, bO_s, pcc 2 q2 c _ pc2, bO_s, bO_s, bnd_d, bnd_d]
  -- step by step
  obtain ⟨-, -, -, -, -, -, -, ⟨L0, L1, L2, L3, -⟩⟩ := id R0
  have R1 := (R0.pull (p := 3 * m) (by omega) hv0).shw (gA x2 aX_ledNow 3 + nI q0)
  rw [hy0] at R1
  have R2 := (R1.pull (p := 3 * m + 1) (by omega) hv1).shw (gA y0 aX_ledNow 3 + nI q1)
  rw [hy1] at R2
  have R3 := (R2.pull (p := 3 * m + 2) (by omega) hv2).shw (gA y1 aX_ledNow 3 + nI q2)
  rw [hy2] at R3
  have R4 := ((R3.age (p := m) (by omega) hag).let (gA x2 aX_ledNow 0 + nI 1)).lat (show m < 8 by omega)
  refine ⟨_, _, _, rfl, rfl, R4.sm ⟨fun k _ => ?_, fun k _ i => ?_, fun _ _ => ?_⟩ (smX.rf _)⟩
  · rw [p3, L0, L3]
    simp only [gI_pI, gI_pA]
    by_cases k1 : k = 12
    · rw [if_pos k1, if_pos k1]
    · rw [if_neg k1, if_neg k1]
      by_cases k2 : k = 11
      · subst k2
        rw [if_pos rfl, if_neg (show ¬ 11 = iG_letters 0 by decide), if_neg (show ¬ iG_showed 0 = iG_letters 0 by decide), if_pos rfl, l1, L3, Int32.add_assoc, Int32.add_assoc, Int32.add_assoc]
      · rw [if_neg k2]
        by_cases k3 : k = 8
        · subst k3
          rw [if_pos rfl, if_pos rfl]
        · rw [if_neg k3, if_neg k3, if_neg k2, if_neg k2, if_neg k2]
  · rw [p3]; rfl
  · rw [p3]; rfl
