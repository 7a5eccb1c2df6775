-- law: the call
theorem up3_0 (o : Option Int32) : (up3 (nI 0) (nI 0) o).2 = o.getD (nI 0) := by
  cases o with
  | none => rfl
  | some v =>
    show (if nI 0 = 0 then (nI 1, v) else (nI 0, nI 0)).2 = v
    rw [if_pos nI_0]
theorem gA_pI' (s : mS) (k j : Nat) (v : Int32) : gA (pI s k v) j = gA s j := rfl
theorem z_law {c x : mS} (h : Rel c x) : same (fX10_law c) (fX11_law x) := by
  obtain ⟨n, hn, t1, t2, t3⟩ := h.2.2.1
  obtain ⟨B, hB1, hb⟩ : ∃ B : Nat → Nat, Bk B n ∧ ∀ i, i < n → gA c aP_bytes i = nI (B i) := by
    refine ⟨fun i => if i < n then (gA c aP_bytes i).toNatClampNeg else 256, ⟨hn, fun i hi => ?_, fun i hi => ?_⟩, fun i hi => ?_⟩
    · obtain ⟨-, v, v1, v2⟩ := t3 i hi
      dsimp only
      rw [if_pos hi, v2, nI_clamp (by omega)]; omega
    · dsimp only
      rw [if_neg (by omega)]
    · obtain ⟨-, v, v1, v2⟩ := t3 i hi
      dsimp only
      rw [if_pos hi, v2, nI_clamp (by omega)]
  have hbx : ∀ i, i < n → gA x aX_tape i = nI (B i) := fun i hi => (t3 i hi).1.trans (hb i hi)
  obtain ⟨r, d, d1, d2, d3, d4⟩ := ex_lines hB1 n 0 (by omega) (by omega)
  have cs : CS B n 0 0 (pI (pI c iP_at (nI 0)) iP_stepsSize (nI 0)) := ⟨by rw [gI_ne (by decide), gI_ne (by decide)]; exact t1, fun i hi => hb i hi, by omega, by rw [gI_ne (by decide), gI_eq], gI_eq⟩
  obtain ⟨w, c', e1, e2, e3⟩ := d3 mFu _ 0 0 (show n - 0 < 6000 by omega) cs (Nat.le_refl 0) (Nat.le_refl 0)
  have er : fX8_read c = some (w, c') := by
    unfold fX8_read
    rw [bnd_d, bnd_d, bnd_d]
    exact e1
  obtain ⟨y, f1, f2, f3, f4⟩ := wk_st (B := B) (n := n) (x := x) (v := -1) (Or.inl ⟨rfl, hbx⟩)
  obtain ⟨v, x', g1, g2, g3⟩ := d4 mFu y (nI 0) (nI 0) (show n - 0 + 1 < 6000 by omega) f2 (Or.inl rfl)
  have ex : fX11_workOut (-1) (gI x iX_tapeMany) x = some (v, x') := by rw [t2, f1, g1]
  have cI : ∀ k, k ≠ 37 → k ≠ 38 → gI c' k = gI c k := fun k k1 k2 => by rw [e2.1 k k2 k1, gI_ne k1, gI_ne k2]
  have cA : ∀ k, k ≠ 14 → gA c' k = gA c k := fun k hk => funext fun i => e2.2.1 k hk i
  have cL : ∀ k, gL c' k = gL c k := fun k => funext fun i => e2.2.2.2 k i
  have xI : ∀ k, k ∉ [6, 7, 8, 9, 10] → gI x' k = gI x k := fun k hk => by
    have hk' := hk
    simp only [List.mem_cons, List.not_mem_nil, or_false, not_or] at hk'
    rw [g2.1 k hk'.2.1 hk'.2.2.2.1 hk'.2.2.2.2, f3 k hk]
  have x2 : x'.2 = x.2 := g2.2.trans f4
  have xA : ∀ k, gA x' k = gA x k := fun k => by
    show x'.2.1 k = x.2.1 k
    rw [x2]
  have xL : ∀ k, gL x' k = gL x k := fun k => by
    show x'.2.2 k = x.2.2 k
    rw [x2]
  unfold fX10_law fX11_law
  rw [er, ex, bP_s, bP_s, bnd_d, bnd_d, bnd_d, bnd_d, bnd_d]
  cases r with
  | none =>
    have ew : w = nI 0 := e3.1
    have ea : gI c' iP_at = nI d := e3.2
    have ef : gI x' iX_fault = nI d := g3
    rw [ew, if_pos nI_0, gI_ne (by decide), ea, gI_ne (by decide), ef, if_neg (nNeg (by omega))]
    refine ⟨_, _, _, rfl, rfl, h.law (fun k hk => ?_) (fun k hk => ?_) cL (fun k hk => ?_) (fun k hk => xA k) xL ⟨0, by omega, gI_eq, gI_eq, fun i hi => absurd hi (by omega)⟩ ?_⟩
    · simp only [List.mem_cons, List.not_mem_nil, or_false, not_or] at hk
      rw [gI_ne hk.1]; exact cI k hk.2.1 hk.2.2.1
    · simp only [List.mem_cons, List.not_mem_nil, or_false, not_or] at hk
      exact cA k hk.1
    · have hk' := hk
      simp only [List.mem_cons, List.not_mem_nil, or_false, not_or] at hk'
      rw [gI_ne hk'.1]
      refine xI k ?_
      simp only [List.mem_cons, List.not_mem_nil, or_false, not_or]
      exact hk'.2.2
    · have h4 := h.2.2.2.1
      unfold rL at h4 ⊢
      rw [gI_ne (by decide), gI_ne (by decide), gI_ne (by decide), gA_pI', gA_pI', cI _ (by decide) (by decide), cI _ (by decide) (by decide), xI _ (by decide), cA _ (by decide), xA]
      exact h4
  | some ls =>
    obtain ⟨l1, l2⟩ := d2 ls rfl
    have ew : w = nI 1 := e3.1
    have es : gI c' iP_stepsSize = nI ls.1.length := by
      have := e3.2.1
      rw [Nat.zero_add] at this
      exact this
    have ea : At (gA c' aP_steps) 0 ls.1 := e3.2.2
    have ef : gI x' iX_fault = -1 := g3.1
    obtain ⟨y2, q1, q2, q3, q4, q5, q6⟩ := tx_loop hn n mFu 0 (pI x' iX_tapeMany (nI 0)) (by omega) (show n < 6000 by omega)
    rw [ew, if_neg (show ¬ nI 1 = 0 by decide), gI_ne (show iX_fault ≠ iX_tapeMany by decide), ef, if_pos (show (-1 : Int32) < 0 by decide), xI _ (by decide), t2, bnd_d, q1]
    unfold fX4_become
    rw [gI_ne (show iP_stepsSize ≠ iP_size by decide), es, cpA_n (by omega) (by omega) (by omega) (by omega), bnd_d, bnd_d, bO_s]
    have s1 : gI (wA (pI c' iP_size (nI 0)) aL_steps (va_cpy ((pI c' iP_size (nI 0)).2.1 aP_steps) ((pI c' iP_size (nI 0)).2.1 aL_steps) 0 0 ls.1.length)) iP_stepsSize = nI ls.1.length := by
      rw [gI_wA, gI_ne (by decide), es]
    rw [s1]
    have atl : At (gA (pI (pI (wA (pI c' iP_size (nI 0)) aL_steps (va_cpy ((pI c' iP_size (nI 0)).2.1 aP_steps) ((pI c' iP_size (nI 0)).2.1 aL_steps) 0 0 ls.1.length)) iL_stepsSize (nI ls.1.length)) iL_told (nI 1)) aL_steps) 0 ls.1 := by
      refine ea.cg fun i i1 i2 => ?_
      rw [gA_pI, gA_pI, gA_wA, if_pos rfl, cpy_at, if_pos ⟨by omega, by omega⟩, Nat.sub_zero, Nat.zero_add]
      rfl
    have txt : ∀ i, i < n → gA y2 aX_text i = nI (B i) := fun i hi => by
      rw [q6 i (by omega) hi, gA_pI, xA]; exact hbx i hi
    refine ⟨nI 1, _, _, rfl, rfl, h.law (fun k hk => ?_) (fun k hk => ?_) cL (fun k hk => ?_) (fun k hk => ?_) (fun k => ?_) ⟨0, by omega, ?_, ?_, fun i hi => absurd hi (by omega)⟩ (Or.inr ⟨gI_eq, n, ls.1.length, hn, by omega, gI_eq, ?_, ?_⟩)⟩
    · simp only [List.mem_cons, List.not_mem_nil, or_false, not_or] at hk
      rw [gI_ne hk.2.2.2.2, gI_ne hk.2.2.2.1, gI_wA, gI_ne hk.1]; exact cI k hk.2.1 hk.2.2.1
    · simp only [List.mem_cons, List.not_mem_nil, or_false, not_or] at hk
      rw [← cA k hk.1]
      funext i
      rw [gA_pI, gA_pI, gA_wA, if_neg hk.2, gA_pI]
    · have hk' := hk
      simp only [List.mem_cons, List.not_mem_nil, or_false, not_or] at hk'
      rw [gI_ne hk'.2.1, q2, gI_ne hk'.1]
      refine xI k ?_
      simp only [List.mem_cons, List.not_mem_nil, or_false, not_or]
      exact hk'.2.2
    · exact (q3 k hk).trans (xA k)
    · exact (q4 k).trans (xL k)
    · rw [gI_ne (by decide), gI_ne (by decide), gI_wA, gI_eq]
    · rw [gI_ne (by decide), q2, gI_eq]
    · rw [gI_ne (by decide), gI_eq]
    · intro c1 x1 hS hk hT _ hnm
      obtain ⟨cv, v1, v2⟩ := l2 0 (5999 - ls.1.length) c1 (by omega) (by rw [Nat.zero_add]; exact hk) (by rw [hS]; exact atl)
      obtain ⟨y3, u1, u2, u3, u4⟩ := wk_st (B := B) (n := n) (x := x1) (v := nI 0) (Or.inr ⟨rfl, fun i hi => by rw [hT]; exact txt i hi⟩)
      obtain ⟨vx, xv, p1, p2, p3, p4⟩ := d4 mFu y3 (nI 0) (nI 0) (show n - 0 + 1 < 6000 by omega) u2 (Or.inl rfl)
      have er : rho y3 = rhoC c1 := by
        rw [rho_eq hnm]
        funext b
        show y3.2.1 _ _ = x1.2.1 _ _
        rw [u4]
      refine ⟨(ls.2 (rhoC c1)).getD (nI 0), cv, xv, ?_, ?_, v2.L, ⟨fun k hk => ?_, fun k _ i => ?_, fun k i => ?_⟩⟩
      · unfold fX4_value
        rw [bnd_d, bnd_d, ← v1]
        congr 1
        show 6000 = _
        omega
      · rw [u1, p1, p4, er, up3_0]
      · have hk' := hk
        simp only [List.mem_cons, List.not_mem_nil, or_false, not_or] at hk'
        rw [p2.1 k hk'.2.1 hk'.2.2.2.1 hk'.2.2.2.2, u3 k hk]
      · show xv.2.1 k i = x1.2.1 k i
        rw [p2.2, u4]
      · show xv.2.2 k i = x1.2.2 k i
        rw [p2.2, u4]
