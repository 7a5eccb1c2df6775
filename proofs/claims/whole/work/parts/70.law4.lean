-- law: operands
theorem kinds : ∀ b, b < 257 → (48 ≤ b ∧ b ≤ 57 → ¬ nix b < 6 ∧ b ≠ 33 ∧ b ≠ 45 ∧ b ≠ 40) ∧ (nix b < 6 → ¬ (48 ≤ b ∧ b ≤ 57) ∧ b ≠ 33 ∧ b ≠ 45 ∧ b ≠ 40 ∧ b < 256) := by decide +kernel
theorem Xa.f0 {B : Nat → Nat} {n a o : Nat} {x : mS} (h : Xa B n a o x) : gI x iX_fault < 0 := by rw [h.2.2.2.1]; decide
theorem xne {b k : Nat} (h0 : 0 < k) (hk : k < 256) (h : b ≠ k) : ¬ xb b = nI k := fun z => h ((xb_eq h0 hk).mp z)
theorem cne {b k : Nat} (hk : k < 256) (h : b ≠ k) : ¬ cb b = nI k := fun z => h ((cb_eq hk).mp z)
theorem op_num {B : Nat → Nat} {n o a : Nat} (hB : Bk B n) (ha : a ≤ n) (hd : 48 ≤ B a ∧ B a ≤ 57) : ∃ v d, v < 10000 ∧ a < d ∧ d ≤ n ∧ Rf B n 5 o a (some (enum v)) d ∧ Cl B n 6 o a (some (enum v)) d := by
  obtain ⟨v, d, i1, i2, i3, i4, i5, i6⟩ := dig hB 4 0 0 a (by omega) (by decide) ha
  have had := i4 (by omega) hd
  have hn := hB.1
  obtain ⟨k1, k2, k3, k4⟩ := (kinds (B a) (hB.le a)).1 hd
  refine ⟨v, d, i1, had, i3, fun f x hf hx => ?_, fun f c q hf hc hq => ?_⟩
  · obtain ⟨f, rfl⟩ : ∃ f', f = f' + 1 := ⟨f - 1, by omega⟩
    obtain ⟨y, j1, j2, j3⟩ := i6 (rl f 0) (rl f 1) (rl f 2) (rl f 3) (rl f 4) (rl f 5) mFu x o (by decide) hx
    rw [one_s]
    unfold gX11_one
    rw [if_pos hx.f0, hx.by hB, bO_s, bnd_d, if_neg (xne (by decide) (by decide) k2), if_neg (xne (by decide) (by decide) k3), if_neg (xne (by decide) (by decide) k4), nam_x (hB.le a), bO_s, bnd_d, if_neg k1, if_pos (show (-1 : Int32) < 0 by decide), bnd_d, bnd_d, j1]
    unfold gX11_one_b229
    rw [if_neg (fun z => absurd ((nEq (a := 0 + (d - a)) (b := 0) (by omega) (by omega)).mp (z.trans nI_0.symm)) (by omega))]
    exact ⟨_, y, rfl, j3, rfl, j2⟩
  · obtain ⟨f, rfl⟩ : ∃ f', f = f' + 1 := ⟨f - 1, by omega⟩
    obtain ⟨c1, j1, j2, j3⟩ := i5 mFu c q (by decide) hc
    obtain ⟨c2, l1, l2, l3, l4⟩ := ad_c j2 (by omega) (nI v)
    rw [cl_6]
    unfold gX8_readOperand fX8_readNumber
    rw [nx_c hB hc, bO_s, bnd_d, isD_c (hB.le a), bO_s, if_pos hd, if_neg (show ¬ nI 1 = 0 by decide), bnd_d, bnd_d, j1]
    unfold fX8_readNumber_b48
    rw [l1, bO_s, bO_s]
    exact ⟨_, c2, rfl, (j3 q).tr l3 (Nat.le_refl q), rfl, l2, l4, trivial⟩
theorem op_nam {B : Nat → Nat} {n o a : Nat} (hB : Bk B n) (ha : a ≤ n) (hd : nix (B a) < 6) : a < n ∧ Rf B n 5 o a (some (enam (B a))) (a + 1) ∧ Cl B n 6 o a (some (enam (B a))) (a + 1) := by
  have hn := hB.1
  obtain ⟨k1, k2, k3, k4, k5⟩ := (kinds (B a) (hB.le a)).2 hd
  have han := hB.lt k5
  refine ⟨han, fun f x hf hx => ?_, fun f c q hf hc hq => ?_⟩
  · obtain ⟨f, rfl⟩ : ∃ f', f = f' + 1 := ⟨f - 1, by omega⟩
    rw [one_s]
    unfold gX11_one
    rw [if_pos hx.f0, hx.by hB, bO_s, bnd_d, if_neg (xne (by decide) (by decide) k2), if_neg (xne (by decide) (by decide) k3), if_neg (xne (by decide) (by decide) k4), nam_x (hB.le a), bO_s, bnd_d, if_pos hd, if_neg (nNeg (by omega)), bnd_d, hx.2.2.1, nA, ldA_n hd (by omega)]
    refine ⟨_, _, rfl, (FX.rf x).I _ (Or.inl rfl), ?_, hx.go han⟩
    show gA x aX_names (nix (B a)) = gA x aX_names (if nix (B a) < 6 then nix (B a) else 1)
    rw [if_pos hd]
  · obtain ⟨f, rfl⟩ : ∃ f', f = f' + 1 := ⟨f - 1, by omega⟩
    obtain ⟨c2, l1, l2, l3, l4⟩ := ad_c (hc.go han) (by omega) (-nI (B a))
    rw [cl_6]
    unfold gX8_readOperand
    rw [nx_c hB hc, bO_s, bnd_d, isD_c (hB.le a), bO_s, if_neg k1, if_pos nI_0, isN_c (hB.le a), bO_s, if_pos hd, if_neg (show ¬ nI 1 = 0 by decide), bnd_d, hc.2.2.2.1, nA, cb_lt k5, l1, bO_s]
    exact ⟨_, c2, rfl, (FC.at q c _).tr l3 (Nat.le_refl q), rfl, l2, l4, trivial⟩
theorem op_bad {B : Nat → Nat} {n o a : Nat} (hB : Bk B n) (ha : a ≤ n) (ho : o ≤ 6) (hd : ¬ (48 ≤ B a ∧ B a ≤ 57)) (hN : ¬ nix (B a) < 6) (hs : o = 6 ∨ (B a ≠ 33 ∧ B a ≠ 45 ∧ B a ≠ 40)) : Rf B n 5 o a none a ∧ Cl B n 6 o a none a := by
  have hn := hB.1
  refine ⟨fun f x hf hx => ?_, fun f c q hf hc hq => ?_⟩
  · obtain ⟨f, rfl⟩ : ∃ f', f = f' + 1 := ⟨f - 1, by omega⟩
    obtain ⟨w1, w2⟩ := wr_a hx
    have fr : FX x (pI x iX_fault (nI a)) := (FX.rf x).I _ (Or.inr (Or.inl rfl))
    by_cases g : B a ≠ 33 ∧ B a ≠ 45 ∧ B a ≠ 40
    · obtain ⟨k2, k3, k4⟩ := g
      have j : ∃ y, gX11_one_b176 (rl f 0) (rl f 1) (rl f 2) (rl f 3) (rl f 4) (rl f 5) mFu (nI 0) (nI 0) x = some (nI 0, y) ∧ RX B n o none a x (nI 0) y := by
        refine ⟨_, ?_, fr, w2⟩
        rw [mFu_s, gX11_one_b176, if_neg (show ¬ nI 4 ≤ nI 0 by decide), hx.by hB, bO_s, bO_s]
        unfold gX11_one_b229
        rw [if_pos nI_0, w1, bP_s]
        by_cases lo : xb (B a) < nI 48
        · rw [if_pos lo]
        · have h5 : nI 57 < xb (B a) := by
            by_cases g : B a < 256
            · rw [xb_lt g, nLt (by omega) (by omega)] at lo
              rw [xb_lt g, nLt (by omega) (by omega)]
              omega
            · exfalso
              apply lo
              unfold xb
              rw [if_neg g]
              decide
          rw [if_neg lo, if_pos h5]
      obtain ⟨y, j1, j2⟩ := j
      rw [one_s]
      unfold gX11_one
      rw [if_pos hx.f0, hx.by hB, bO_s, bnd_d, if_neg (xne (by decide) (by decide) k2), if_neg (xne (by decide) (by decide) k3), if_neg (xne (by decide) (by decide) k4), nam_x (hB.le a), bO_s, bnd_d, if_neg hN, if_pos (show (-1 : Int32) < 0 by decide), bnd_d, bnd_d, j1]
      exact ⟨_, y, rfl, j2⟩
    · have h6 : o = 6 := hs.elim id (fun z => absurd z g)
      have e : ∀ v, gX11_one_b32 (rl f 0) (rl f 1) (rl f 2) (rl f 3) (rl f 4) (rl f 5) v x = some (nI 0, pI x iX_fault (nI a)) := by
        intro v
        unfold gX11_one_b32
        rw [hx.2.2.2.2, h6, if_pos rfl, w1, bP_s]
      rw [one_s]
      unfold gX11_one
      rw [if_pos hx.f0, hx.by hB, bO_s, bnd_d, e]
      by_cases g1 : B a = 33
      · rw [if_pos ((xb_eq (by decide) (by decide)).mpr g1)]; exact ⟨_, _, rfl, fr, w2⟩
      · by_cases g2 : B a = 45
        · rw [if_pos ((xb_eq (by decide) (by decide)).mpr g2), ite_self]; exact ⟨_, _, rfl, fr, w2⟩
        · by_cases g3 : B a = 40
          · rw [if_pos ((xb_eq (b := B a) (k := 40) (by decide) (by decide)).mpr g3), ite_self, ite_self]; exact ⟨_, _, rfl, fr, w2⟩
          · exact absurd ⟨g1, g2, g3⟩ g
  · obtain ⟨f, rfl⟩ : ∃ f', f = f' + 1 := ⟨f - 1, by omega⟩
    rw [cl_6]
    unfold gX8_readOperand
    rw [nx_c hB hc, bO_s, bnd_d, isD_c (hB.le a), bO_s, if_neg hd, if_pos nI_0, isN_c (hB.le a), bO_s, if_neg hN, if_pos nI_0]
    refine ⟨_, c, ?_, FC.rf q c, rfl, hc.2.2.2.1⟩
    rcases hs with rfl | ⟨k2, k3, k4⟩
    · rw [if_pos (show nI 6 ≤ nI 6 by decide)]
    · rw [if_neg (cne (by decide) k4), if_neg (cne (by decide) k2), if_neg (cne (by decide) k3), ite_self]
theorem one_sign {B : Nat → Nat} {n o a f : Nat} {x : mS} (hB : Bk B n) (hx : Xa B n a o x) (ho : o < 6) (hs : B a = 33 ∨ B a = 45 ∨ B a = 40) : ∃ s, (rl (f + 1) 5 x = if B a = 40 then bP (rl f 0 s) fun r t => gX11_one_b83 (rl f 0) (rl f 1) (rl f 2) (rl f 3) (rl f 4) (rl f 5) (nI (B a)) r t else bP (rl f 5 s) fun r t => gX11_one_b83 (rl f 0) (rl f 1) (rl f 2) (rl f 3) (rl f 4) (rl f 5) (nI (B a)) r t) ∧ Xa B n (a + 1) (o + 1) s ∧ FX x s := by
  have han : a < n := hB.lt (by omega)
  refine ⟨pI (pI x iX_opened (nI (o + 1))) iX_at (nI (a + 1)), ?_, ⟨?_, han, gI_eq, ?_, ?_⟩, ?_⟩
  · rw [one_s]
    unfold gX11_one gX11_one_b32
    rw [if_pos hx.f0, hx.by hB, bO_s, bnd_d, xb_lt (by omega), hx.2.2.2.2, if_neg (nlit_ne (by omega) (by omega) (show o ≠ 6 by omega)), bnd_d, nA, gI_ne (show iX_at ≠ iX_opened by decide), hx.2.2.1, nA, bnd_d]
    rcases hs with e | e | e
    · rw [e, if_pos rfl, if_neg (show ¬ nI 33 = nI 40 by decide), if_neg (show ¬ 33 = 40 by decide)]
    · rw [e, if_neg (show ¬ nI 45 = nI 33 by decide), if_pos rfl, if_neg (show ¬ nI 45 = nI 40 by decide), if_neg (show ¬ 45 = 40 by decide)]
    · rw [e, if_neg (show ¬ nI 40 = nI 33 by decide), if_neg (show ¬ nI 40 = nI 45 by decide), if_pos rfl, if_pos rfl, if_pos rfl]
  · exact hx.1.fr (((FX.rf x).I _ (Or.inr (Or.inr rfl))).I _ (Or.inl rfl))
  · rw [gI_ne (by decide), gI_ne (by decide)]; exact hx.2.2.2.1
  · rw [gI_ne (by decide), gI_eq]
  · exact ((FX.rf x).I _ (Or.inr (Or.inr rfl))).I _ (Or.inl rfl)
theorem cl_sign {B : Nat → Nat} {n o a q f : Nat} {c : mS} (hB : Bk B n) (hc : CS B n a q c) (ho : o < 6) (hs : B a = 33 ∨ B a = 45 ∨ B a = 40) : cl (f + 1) 6 (nI o) c = if B a = 40 then (bP (cl f 0 (nI (o + 1)) (pI c iP_at (nI (a + 1)))) fun r9 s10 => if r9 = 0 then some (nI 0, s10) else bP (fX8_takes (nI 41) s10) fun r11 s12 => if r11 = 0 then some (nI 0, s12) else some (nI 1, s12)) else bP (cl f 6 (nI (o + 1)) (pI c iP_at (nI (a + 1)))) fun r6 s7 => if r6 = 0 then some (nI 0, s7) else bO (fX8_addStep (if B a = 45 then -1 else -33) s7) fun s8 => some (nI 1, s8) := by
  have nd : ¬ (48 ≤ B a ∧ B a ≤ 57) := by omega
  have nn : ¬ nix (B a) < 6 := by
    rcases hs with e | e | e <;> rw [e] <;> decide
  rw [cl_6]
  unfold gX8_readOperand gX8_readOperand_b69 gX8_readOperand_b136
  rw [nx_c hB hc, bO_s, bnd_d, isD_c (hB.le a), bO_s, if_neg nd, if_pos nI_0, isN_c (hB.le a), bO_s, if_neg nn, if_pos nI_0, if_neg (fun z => absurd ((nLe (by omega) (by omega)).mp z) (by omega)), cb_lt (by omega), hc.2.2.2.1, nA, nA, bnd_d]
  rcases hs with e | e | e
  · rw [e, if_neg (show ¬ nI 33 = nI 40 by decide), if_pos rfl, if_neg (show ¬ 33 = 40 by decide), if_neg (show ¬ nI 33 = nI 40 by decide)]
    rfl
  · rw [e, if_neg (show ¬ nI 45 = nI 40 by decide), if_neg (show ¬ nI 45 = nI 33 by decide), if_pos rfl, if_neg (show ¬ nI 45 = nI 40 by decide), if_neg (show ¬ 45 = 40 by decide)]
    refine congrArg (bP _) (funext fun r => funext fun s => ?_)
    rw [if_pos rfl, if_pos rfl]
  · rw [e, if_pos rfl, if_pos rfl, if_pos rfl]
    rfl
theorem op_par_f {B : Nat → Nat} {n o a d : Nat} (hB : Bk B n) (ho : o < 6) (hs : B a = 40) (h : Rf B n 0 (o + 1) (a + 1) none d) (g : Cl B n 0 (o + 1) (a + 1) none d) : Rf B n 5 o a none d ∧ Cl B n 6 o a none d := by
  refine ⟨fun f x hf hx => ?_, fun f c q hf hc hq => ?_⟩
  · obtain ⟨f, rfl⟩ : ∃ f', f = f' + 1 := ⟨f - 1, by omega⟩
    obtain ⟨s, e1, e2, e3⟩ := one_sign (f := f) hB hx ho (Or.inr (Or.inr hs))
    obtain ⟨v, y, d1, d2, d3⟩ := h f s (by omega) e2
    obtain ⟨w1, w2⟩ := wr_f hB d3
    rw [e1, if_pos hs, d1, bP_s, hs]
    unfold gX11_one_b83
    rw [bnd_d, if_pos rfl, tk_f hB d3, bP_s, if_pos nI_0, w1, bP_s]
    exact ⟨_, _, rfl, (e3.tr d2).I _ (Or.inr (Or.inl rfl)), w2⟩
  · obtain ⟨f, rfl⟩ : ∃ f', f = f' + 1 := ⟨f - 1, by omega⟩
    have han : a < n := hB.lt (by omega)
    obtain ⟨w, c', e1, e2, e3, e4⟩ := g f _ q (by omega) (hc.go han) (by omega)
    rw [cl_sign hB hc ho (Or.inr (Or.inr hs)), if_pos hs, e1, bP_s, e3, if_pos nI_0]
    exact ⟨_, c', rfl, (FC.at q c _).tr e2 (Nat.le_refl q), rfl, e4⟩
theorem op_par_n {B : Nat → Nat} {n o a d : Nat} {e : Ev} (hB : Bk B n) (ho : o < 6) (hs : B a = 40) (hd : B d ≠ 41) (h : Rf B n 0 (o + 1) (a + 1) (some e) d) (g : Cl B n 0 (o + 1) (a + 1) (some e) d) : Rf B n 5 o a none d ∧ Cl B n 6 o a none d := by
  refine ⟨fun f x hf hx => ?_, fun f c q hf hc hq => ?_⟩
  · obtain ⟨f, rfl⟩ : ∃ f', f = f' + 1 := ⟨f - 1, by omega⟩
    obtain ⟨s, e1, e2, e3⟩ := one_sign (f := f) hB hx ho (Or.inr (Or.inr hs))
    obtain ⟨v, y, d1, d2, d3, d4⟩ := h f s (by omega) e2
    obtain ⟨w1, w2⟩ := wr_a d4
    rw [e1, if_pos hs, d1, bP_s, hs]
    unfold gX11_one_b83
    rw [bnd_d, if_pos rfl, tk_n hB d4 (by decide) (by decide) hd, bP_s, if_pos nI_0, w1, bP_s]
    exact ⟨_, _, rfl, (e3.tr d2).I _ (Or.inr (Or.inl rfl)), w2⟩
  · obtain ⟨f, rfl⟩ : ∃ f', f = f' + 1 := ⟨f - 1, by omega⟩
    have han : a < n := hB.lt (by omega)
    obtain ⟨w, c', e1, e2, e3, e4, e5⟩ := g f _ q (by omega) (hc.go han) (by omega)
    rw [cl_sign hB hc ho (Or.inr (Or.inr hs)), if_pos hs, e1, bP_s, e3, if_neg (show ¬ nI 1 = 0 by decide), ct_n hB e4 (by decide) hd, bP_s, if_pos nI_0]
    exact ⟨_, c', rfl, (FC.at q c _).tr e2 (Nat.le_refl q), rfl, e4.2.2.2.1⟩
theorem op_par_y {B : Nat → Nat} {n o a d : Nat} {e : Ev} (hB : Bk B n) (ho : o < 6) (hs : B a = 40) (hd : B d = 41) (h : Rf B n 0 (o + 1) (a + 1) (some e) d) (g : Cl B n 0 (o + 1) (a + 1) (some e) d) : Rf B n 5 o a (some e) (d + 1) ∧ Cl B n 6 o a (some e) (d + 1) := by
  have hdn : d < n := hB.lt (by omega)
  refine ⟨fun f x hf hx => ?_, fun f c q hf hc hq => ?_⟩
  · obtain ⟨f, rfl⟩ : ∃ f', f = f' + 1 := ⟨f - 1, by omega⟩
    obtain ⟨s, e1, e2, e3⟩ := one_sign (f := f) hB hx ho (Or.inr (Or.inr hs))
    obtain ⟨v, y, d1, d2, d3, d4⟩ := h f s (by omega) e2
    have d5 := d4.go hdn
    rw [e1, if_pos hs, d1, bP_s, hs]
    unfold gX11_one_b83 gX11_one_b104
    rw [bnd_d, if_pos rfl, tk_y hB d4 (by decide) (by decide) hd, bP_s, if_neg (show ¬ nI 1 = 0 by decide), bnd_d, if_pos rfl, d5.2.2.2.2, nSb (by omega), Nat.add_sub_cancel]
    refine ⟨_, _, rfl, ((e3.tr d2).I _ (Or.inl rfl)).I _ (Or.inr (Or.inr rfl)), ?_, ?_⟩
    · rw [d3, e3.rho]
    · exact ⟨d5.1.fr ((FX.rf _).I _ (Or.inr (Or.inr rfl))), d5.2.1, by rw [gI_ne (by decide)]; exact d5.2.2.1, by rw [gI_ne (by decide)]; exact d5.2.2.2.1, gI_eq⟩
  · obtain ⟨f, rfl⟩ : ∃ f', f = f' + 1 := ⟨f - 1, by omega⟩
    have han : a < n := hB.lt (by omega)
    obtain ⟨w, c', e1, e2, e3, e4, e5⟩ := g f _ q (by omega) (hc.go han) (by omega)
    rw [cl_sign hB hc ho (Or.inr (Or.inr hs)), if_pos hs, e1, bP_s, e3, if_neg (show ¬ nI 1 = 0 by decide), ct_y hB e4 (by decide) hd, bP_s, if_neg (show ¬ nI 1 = 0 by decide)]
    exact ⟨_, _, rfl, ((FC.at q c _).tr e2 (Nat.le_refl q)).tr (FC.at q c' _) (Nat.le_refl q), rfl, e4.go hdn, e5⟩
theorem op_un_f {B : Nat → Nat} {n o a d : Nat} (hB : Bk B n) (ho : o < 6) (hs : B a = 33 ∨ B a = 45) (h : Rf B n 5 (o + 1) (a + 1) none d) (g : Cl B n 6 (o + 1) (a + 1) none d) : Rf B n 5 o a none d ∧ Cl B n 6 o a none d := by
  have hs' : B a = 33 ∨ B a = 45 ∨ B a = 40 := by omega
  have n40 : ¬ B a = 40 := by omega
  refine ⟨fun f x hf hx => ?_, fun f c q hf hc hq => ?_⟩
  · obtain ⟨f, rfl⟩ : ∃ f', f = f' + 1 := ⟨f - 1, by omega⟩
    obtain ⟨s, e1, e2, e3⟩ := one_sign (f := f) hB hx ho hs'
    obtain ⟨v, y, d1, d2, d3⟩ := h f s (by omega) e2
    rw [e1, if_neg n40, d1, bP_s]
    unfold gX11_one_b83 gX11_one_b104
    rw [bnd_d, if_neg (nlit_ne (by omega) (by omega) n40), bnd_d, if_neg (nlit_ne (by omega) (by omega) n40)]
    have fr : FX x (pI y iX_opened (gI y iX_opened - nI 1)) := (e3.tr d2).I _ (Or.inr (Or.inr rfl))
    have xf : Xf B n d (pI y iX_opened (gI y iX_opened - nI 1)) := ⟨d3.1.fr ((FX.rf _).I _ (Or.inr (Or.inr rfl))), d3.2.1, by rw [gI_ne (by decide)]; exact d3.2.2.1, by rw [gI_ne (by decide)]; exact d3.2.2.2⟩
    by_cases g1 : nI (B a) = nI 45
    · rw [if_pos g1]; exact ⟨_, _, rfl, fr, xf⟩
    · rw [if_neg g1]
      by_cases g2 : v = 0
      · rw [if_pos g2]; exact ⟨_, _, rfl, fr, xf⟩
      · rw [if_neg g2]; exact ⟨_, _, rfl, fr, xf⟩
  · obtain ⟨f, rfl⟩ : ∃ f', f = f' + 1 := ⟨f - 1, by omega⟩
    have han : a < n := hB.lt (by omega)
    obtain ⟨w, c', e1, e2, e3, e4⟩ := g f _ q (by omega) (hc.go han) (by omega)
    rw [cl_sign hB hc ho hs', if_neg n40, e1, bP_s, e3, if_pos nI_0]
    exact ⟨_, c', rfl, (FC.at q c _).tr e2 (Nat.le_refl q), rfl, e4⟩
theorem op_un_y {B : Nat → Nat} {n o a d : Nat} {e : Ev} (hB : Bk B n) (ho : o < 6) (hs : B a = 33 ∨ B a = 45) (hl : e.1.length ≤ d - (a + 1)) (h : Rf B n 5 (o + 1) (a + 1) (some e) d) (g : Cl B n 6 (o + 1) (a + 1) (some e) d) : Rf B n 5 o a (some (eun (B a) e)) d ∧ Cl B n 6 o a (some (eun (B a) e)) d := by
  have hs' : B a = 33 ∨ B a = 45 ∨ B a = 40 := by omega
  have n40 : ¬ B a = 40 := by omega
  refine ⟨fun f x hf hx => ?_, fun f c q hf hc hq => ?_⟩
  · obtain ⟨f, rfl⟩ : ∃ f', f = f' + 1 := ⟨f - 1, by omega⟩
    obtain ⟨s, e1, e2, e3⟩ := one_sign (f := f) hB hx ho hs'
    obtain ⟨v, y, d1, d2, d3, d4⟩ := h f s (by omega) e2
    rw [e1, if_neg n40, d1, bP_s]
    unfold gX11_one_b83 gX11_one_b104
    rw [bnd_d, if_neg (nlit_ne (by omega) (by omega) n40), bnd_d, if_neg (nlit_ne (by omega) (by omega) n40), d4.2.2.2.2, nSb (by omega), Nat.add_sub_cancel]
    have fr : FX x (pI y iX_opened (nI o)) := (e3.tr d2).I _ (Or.inr (Or.inr rfl))
    have xa : Xa B n d o (pI y iX_opened (nI o)) := ⟨d4.1.fr ((FX.rf _).I _ (Or.inr (Or.inr rfl))), d4.2.1, by rw [gI_ne (by decide)]; exact d4.2.2.1, by rw [gI_ne (by decide)]; exact d4.2.2.2.1, gI_eq⟩
    rw [e3.rho] at d3
    by_cases g1 : B a = 45
    · rw [if_pos (by rw [g1])]
      refine ⟨_, _, rfl, fr, ?_, xa⟩
      show -v = if B a = 45 then -(e.2 (rho x)) else if e.2 (rho x) = 0 then nI 1 else nI 0
      rw [if_pos g1, d3]
    · rw [if_neg (nlit_ne (by omega) (by omega) g1)]
      by_cases g2 : v = 0
      · rw [if_pos g2]
        refine ⟨_, _, rfl, fr, ?_, xa⟩
        show nI 1 = if B a = 45 then -(e.2 (rho x)) else if e.2 (rho x) = 0 then nI 1 else nI 0
        rw [if_neg g1, ← d3, if_pos g2]
      · rw [if_neg g2]
        refine ⟨_, _, rfl, fr, ?_, xa⟩
        show nI 0 = if B a = 45 then -(e.2 (rho x)) else if e.2 (rho x) = 0 then nI 1 else nI 0
        rw [if_neg g1, ← d3, if_neg g2]
  · obtain ⟨f, rfl⟩ : ∃ f', f = f' + 1 := ⟨f - 1, by omega⟩
    have hn := hB.1
    have han : a < n := hB.lt (by omega)
    obtain ⟨w, c', e1, e2, e3, e4, e5⟩ := g f _ q (by omega) (hc.go han) (by omega)
    have hdn := e4.2.2.1
    obtain ⟨c2, l1, l2, l3, l4⟩ := ad_c e4 (by omega) (if B a = 45 then -1 else -33)
    rw [cl_sign hB hc ho hs', if_neg n40, e1, bP_s, e3, if_neg (show ¬ nI 1 = 0 by decide), l1, bO_s]
    have ln : q + (eun (B a) e).1.length = q + e.1.length + 1 := by
      show q + (e.1 ++ [if B a = 45 then -1 else -33]).length = _
      simp only [List.length_append, List.length_cons, List.length_nil]
      omega
    refine ⟨_, c2, rfl, ((FC.at q c _).tr e2 (Nat.le_refl q)).tr l3 (by omega), rfl, ?_, ?_⟩
    · rw [ln]; exact l2
    · show At _ q (e.1 ++ [if B a = 45 then -1 else -33])
      rw [At.app]
      exact ⟨e5.cg fun i i1 i2 => l3.2.2.1 i (by omega), l4, trivial⟩
