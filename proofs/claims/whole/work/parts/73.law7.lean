-- law: lines, and the call
abbrev Ls : Type := List Int32 × ((Nat → Int32) → Option Int32)
def fst2 (o p : Option Int32) : Option Int32 := match o with
  | some v => some v
  | none => p
theorem up3_2 {y3 y4 : Int32} (o p : Option Int32) (h : y3 = nI 0 ∨ y3 = nI 1) : up3 (up3 y3 y4 o).1 (up3 y3 y4 o).2 p = up3 y3 y4 (fst2 o p) ∧ ((up3 y3 y4 o).1 = nI 0 ∨ (up3 y3 y4 o).1 = nI 1) := by
  cases o with
  | none => exact ⟨rfl, h⟩
  | some v =>
    have e : up3 y3 y4 (some v) = if y3 = 0 then (nI 1, v) else (y3, y4) := rfl
    rw [show fst2 (some v) p = some v from rfl, e]
    by_cases g : y3 = 0
    · rw [if_pos g]
      refine ⟨?_, Or.inr rfl⟩
      cases p with
      | none => rfl
      | some w => exact if_neg (t := (nI 1, w)) (show ¬ nI 1 = 0 by decide)
    · rw [if_neg g]
      refine ⟨?_, h⟩
      cases p with
      | none => rfl
      | some w => exact if_neg g
def XL (ls : Ls) : Prop := ∀ i k c, i + ls.1.length ≤ 121 → gI c iL_stepsSize = nI (i + ls.1.length) → At (gA c aL_steps) i ls.1 → ∃ c', fX4_value_b4 (k + 1 + ls.1.length) (nI 0) (nI i) c = some ((ls.2 (rhoC c)).getD (nI 0), c') ∧ SL 0 c c'
def CLn (B : Nat → Nat) (n a : Nat) (r : Option Ls) (d : Nat) : Prop := ∀ k c q line, n - a < k → CS B n a q c → q ≤ a → line ≤ a → ∃ w c', fX8_read_b12 k (nI line) c = some (w, c') ∧ FC q c c' ∧ match r with
  | some ls => w = nI 1 ∧ gI c' iP_stepsSize = nI (q + ls.1.length) ∧ At (gA c' aP_steps) q ls.1
  | none => w = nI 0 ∧ gI c' iP_at = nI d
def RLn (B : Nat → Nat) (n a : Nat) (r : Option Ls) (d : Nat) : Prop := ∀ k x y3 y4, n - a + 1 < k → Xa B n a 0 x → (y3 = nI 0 ∨ y3 = nI 1) → ∃ v x', fX11_workOut_b33 k y3 y4 (nI 1) x = some (v, x') ∧ FX x x' ∧ match r with
  | some ls => gI x' iX_fault = -1 ∧ v = (up3 y3 y4 (ls.2 (rho x))).2
  | none => gI x' iX_fault = nI d
theorem rd_s {B : Nat → Nat} {n a q line k : Nat} {c : mS} (hB : Bk B n) (hc : CS B n a q c) (hl : line ≤ a) : fX8_read_b12 (k + 1) (nI line) c = bP (fX8_readLine c) fun r4 s5 => if r4 = 0 then some (nI 0, s5) else bP (fX8_takes (nI 59) s5) fun r6 s7 => if r6 = 0 then (if gI s7 iP_at = gI s7 iP_size then some (nI 1, s7) else some (nI 0, s7)) else fX8_read_b12 k (nI (line + 1)) s7 := by
  have hn := hB.1
  have ha := hc.2.2.1
  rw [fX8_read_b12, hc.1, if_neg (fun z => absurd ((nLt (by omega) (by omega)).mp z) (by omega))]
  simp only [bnd_d, nA]
theorem ex_lines {B : Nat → Nat} {n : Nat} (hB : Bk B n) : ∀ m a, n - a ≤ m → a ≤ n → ∃ r d, d ≤ n ∧ (∀ ls, r = some ls → ls.1.length ≤ n - a + 1 ∧ XL ls) ∧ CLn B n a r d ∧ RLn B n a r d := by
  have hn := hB.1
  intro m
  induction m with
  | zero =>
    intro a h1 ha
    rcases ex_line hB ha with ⟨d, l1, l2, l3⟩ | ⟨s, f, d, l0, l1, _⟩
    · refine ⟨none, d, l1, fun ls he => (nomatch he), fun k c q line hk hc hq hl => ?_, fun k x y3 y4 hk hx h3 => ?_⟩
      · obtain ⟨k, rfl⟩ : ∃ k', k = k' + 1 := ⟨k - 1, by omega⟩
        obtain ⟨w, c', e1, e2, e3, e4⟩ := l2 c q hc hq
        rw [rd_s hB hc hl, e1, bP_s, e3, if_pos nI_0]
        exact ⟨_, c', rfl, e2, rfl, e4⟩
      · obtain ⟨k, rfl⟩ : ∃ k', k = k' + 2 := ⟨k - 2, by omega⟩
        obtain ⟨x', e1, e2, e3⟩ := l3 (k + 1) x y3 y4 hx
        rw [e3]
        unfold fX11_workOut_b96
        rw [tk_f hB e1, bP_s, bnd_d]
        dsimp only
        rw [fX11_workOut_b33, if_pos nI_0, if_pos (e1.yf hB)]
        exact ⟨_, x', rfl, e2, e1.2.2.2⟩
    · omega
  | succ m IH =>
    intro a h1 ha
    rcases ex_line hB ha with ⟨d, l1, l2, l3⟩ | ⟨s, f, d, l0, l1, l2, l3, l4, l5⟩
    · refine ⟨none, d, l1, fun ls he => (nomatch he), fun k c q line hk hc hq hl => ?_, fun k x y3 y4 hk hx h3 => ?_⟩
      · obtain ⟨k, rfl⟩ : ∃ k', k = k' + 1 := ⟨k - 1, by omega⟩
        obtain ⟨w, c', e1, e2, e3, e4⟩ := l2 c q hc hq
        rw [rd_s hB hc hl, e1, bP_s, e3, if_pos nI_0]
        exact ⟨_, c', rfl, e2, rfl, e4⟩
      · obtain ⟨k, rfl⟩ : ∃ k', k = k' + 2 := ⟨k - 2, by omega⟩
        obtain ⟨x', e1, e2, e3⟩ := l3 (k + 1) x y3 y4 hx
        rw [e3]
        unfold fX11_workOut_b96
        rw [tk_f hB e1, bP_s, bnd_d]
        dsimp only
        rw [fX11_workOut_b33, if_pos nI_0, if_pos (e1.yf hB)]
        exact ⟨_, x', rfl, e2, e1.2.2.2⟩
    · by_cases h59 : B d = 59
      · have hdn : d < n := hB.lt (by omega)
        obtain ⟨r, d', i1, i2, i3, i4⟩ := IH (d + 1) (by omega) (by omega)
        cases r with
        | none =>
          refine ⟨none, d', i1, fun ls he => (nomatch he), fun k c q line hk hc hq hl => ?_, fun k x y3 y4 hk hx h3 => ?_⟩
          · obtain ⟨k, rfl⟩ : ∃ k', k = k' + 1 := ⟨k - 1, by omega⟩
            obtain ⟨w, c', e1, e2, e3, e4, e5⟩ := l3 c q hc hq
            obtain ⟨w', c2, g1, g2, g3, g4⟩ := i3 k _ _ (line + 1) (by omega) (e4.go hdn) (by omega) (by omega)
            rw [rd_s hB hc hl, e1, bP_s, e3, if_neg (show ¬ nI 1 = 0 by decide), ct_y hB e4 (by decide) h59, bP_s, if_neg (show ¬ nI 1 = 0 by decide), g1]
            exact ⟨_, c2, rfl, (e2.tr (FC.at q c' _) (Nat.le_refl q)).tr g2 (by omega), g3, g4⟩
          · obtain ⟨k, rfl⟩ : ∃ k', k = k' + 1 := ⟨k - 1, by omega⟩
            obtain ⟨x', e1, e2, e3⟩ := l4 k x y3 y4 hx
            have fr : FX x (pI x' iX_at (nI (d + 1))) := e2.I _ (Or.inl rfl)
            obtain ⟨v, x2, g1, g2, g3⟩ := i4 k _ (up3 y3 y4 (f (rho x))).1 (up3 y3 y4 (f (rho x))).2 (by omega) (e1.go hdn) (up3_2 _ none h3).2
            rw [e3]
            unfold fX11_workOut_b96
            rw [tk_y hB e1 (by decide) (by decide) h59, bP_s, bnd_d]
            dsimp only
            rw [g1]
            exact ⟨_, x2, rfl, fr.tr g2, g3⟩
        | some ls =>
          obtain ⟨j1, j2⟩ := i2 ls rfl
          refine ⟨some (s ++ ls.1, fun ρ => fst2 (f ρ) (ls.2 ρ)), d', i1, fun ls' he => ?_, fun k c q line hk hc hq hl => ?_, fun k x y3 y4 hk hx h3 => ?_⟩
          · obtain rfl := Option.some.inj he
            refine ⟨by show (s ++ ls.1).length ≤ _; rw [List.length_append]; omega, fun i k c h1 h2 h3 => ?_⟩
            change i + (s ++ ls.1).length ≤ 121 at h1
            change gI c iL_stepsSize = nI (i + (s ++ ls.1).length) at h2
            rw [List.length_append] at h1 h2
            obtain ⟨a1, a2⟩ := At.app.mp (show At (gA c aL_steps) i (s ++ ls.1) from h3)
            obtain ⟨c', d1, d2⟩ := l5 i (k + 1 + ls.1.length) (i + (s.length + ls.1.length)) c (by omega) h1 h2 a1
            show ∃ c', fX4_value_b4 (k + 1 + (s ++ ls.1).length) (nI 0) (nI i) c = some ((fst2 (f (rhoC c)) (ls.2 (rhoC c))).getD (nI 0), c') ∧ SL 0 c c'
            rw [List.length_append, show k + 1 + (s.length + ls.1.length) = k + 1 + ls.1.length + s.length by omega, d2]
            cases hf : f (rhoC c) with
            | some v => exact ⟨c', rfl, d1⟩
            | none =>
              obtain ⟨c2, g1, g2⟩ := j2 (i + s.length) k c' (by omega) (by rw [d1.1, h2, Nat.add_assoc]) (by rw [d1.2.1 _ (by decide)]; exact a2)
              refine ⟨c2, ?_, d1.tr g2 (Nat.le_refl 0)⟩
              show fX4_value_b4 (k + 1 + ls.1.length) (nI 0) (nI (i + s.length)) c' = _
              rw [g1, d1.rho]
              rfl
          · obtain ⟨k, rfl⟩ : ∃ k', k = k' + 1 := ⟨k - 1, by omega⟩
            obtain ⟨w, c', e1, e2, e3, e4, e5⟩ := l3 c q hc hq
            obtain ⟨w', c2, g1, g2, g3, g4, g5⟩ := i3 k _ _ (line + 1) (by omega) (e4.go hdn) (by omega) (by omega)
            rw [rd_s hB hc hl, e1, bP_s, e3, if_neg (show ¬ nI 1 = 0 by decide), ct_y hB e4 (by decide) h59, bP_s, if_neg (show ¬ nI 1 = 0 by decide), g1]
            refine ⟨_, c2, rfl, (e2.tr (FC.at q c' _) (Nat.le_refl q)).tr g2 (by omega), g3, ?_, ?_⟩
            · show gI c2 iP_stepsSize = nI (q + (s ++ ls.1).length)
              rw [g4, List.length_append, Nat.add_assoc]
            · show At (gA c2 aP_steps) q (s ++ ls.1)
              refine At.app.mpr ⟨e5.cg fun i i1 i2 => ?_, g5⟩
              rw [g2.2.2.1 i (by omega)]
              rfl
          · obtain ⟨k, rfl⟩ : ∃ k', k = k' + 1 := ⟨k - 1, by omega⟩
            obtain ⟨x', e1, e2, e3⟩ := l4 k x y3 y4 hx
            have fr : FX x (pI x' iX_at (nI (d + 1))) := e2.I _ (Or.inl rfl)
            obtain ⟨v, x2, g1, g2, g3, g4⟩ := i4 k _ (up3 y3 y4 (f (rho x))).1 (up3 y3 y4 (f (rho x))).2 (by omega) (e1.go hdn) (up3_2 _ none h3).2
            rw [e3]
            unfold fX11_workOut_b96
            rw [tk_y hB e1 (by decide) (by decide) h59, bP_s, bnd_d]
            dsimp only
            rw [g1]
            refine ⟨_, x2, rfl, fr.tr g2, g3, ?_⟩
            rw [g4, fr.rho, (up3_2 _ _ h3).1]
      · by_cases hd : d = n
        · subst hd
          refine ⟨some (s, f), d, l1, fun ls' he => ?_, fun k c q line hk hc hq hl => ?_, fun k x y3 y4 hk hx h3 => ?_⟩
          · obtain rfl := Option.some.inj he
            refine ⟨l2, fun i k c h1 h2 h3 => ?_⟩
            obtain ⟨c', d1, d2⟩ := l5 i (k + 1) (i + s.length) c (Nat.le_refl _) h1 h2 h3
            show ∃ c', fX4_value_b4 (k + 1 + s.length) (nI 0) (nI i) c = some ((f (rhoC c)).getD (nI 0), c') ∧ SL 0 c c'
            rw [d2]
            cases hf : f (rhoC c) with
            | some v => exact ⟨c', rfl, d1⟩
            | none =>
              refine ⟨c', ?_, d1⟩
              show fX4_value_b4 (k + 1) (nI 0) (nI (i + s.length)) c' = _
              have h2' : gI c' iL_stepsSize = nI (i + s.length) := (d1.1 _).trans h2
              have h1' : i + s.length ≤ 121 := h1
              rw [fX4_value_b4, h2', if_pos ((nLe (by omega) (by omega)).mpr (Nat.le_refl _))]
              rfl
          · obtain ⟨k, rfl⟩ : ∃ k', k = k' + 1 := ⟨k - 1, by omega⟩
            obtain ⟨w, c', e1, e2, e3, e4, e5⟩ := l3 c q hc hq
            rw [rd_s hB hc hl, e1, bP_s, e3, if_neg (show ¬ nI 1 = 0 by decide), ct_n hB e4 (by decide) h59, bP_s, if_pos nI_0, e4.2.2.2.1, e4.1, if_pos rfl]
            exact ⟨_, c', rfl, e2, rfl, e4.2.2.2.2, e5⟩
          · obtain ⟨k, rfl⟩ : ∃ k', k = k' + 2 := ⟨k - 2, by omega⟩
            obtain ⟨x', e1, e2, e3⟩ := l4 (k + 1) x y3 y4 hx
            rw [e3]
            unfold fX11_workOut_b96
            rw [tk_n hB e1 (by decide) (by decide) h59, bP_s, bnd_d]
            dsimp only
            rw [fX11_workOut_b33, if_pos nI_0, if_neg e1.nf, e1.1.1, e1.2.2.1, if_pos ((nLe (by omega) (by omega)).mpr (Nat.le_refl _))]
            exact ⟨_, x', rfl, e2, e1.2.2.2.1, rfl⟩
        · refine ⟨none, d, l1, fun ls he => (nomatch he), fun k c q line hk hc hq hl => ?_, fun k x y3 y4 hk hx h3 => ?_⟩
          · obtain ⟨k, rfl⟩ : ∃ k', k = k' + 1 := ⟨k - 1, by omega⟩
            obtain ⟨w, c', e1, e2, e3, e4, e5⟩ := l3 c q hc hq
            rw [rd_s hB hc hl, e1, bP_s, e3, if_neg (show ¬ nI 1 = 0 by decide), ct_n hB e4 (by decide) h59, bP_s, if_pos nI_0, e4.2.2.2.1, e4.1, if_neg (nlit_ne (by omega) (by omega) hd)]
            exact ⟨_, c', rfl, e2, rfl, e4.2.2.2.1⟩
          · obtain ⟨k, rfl⟩ : ∃ k', k = k' + 2 := ⟨k - 2, by omega⟩
            obtain ⟨x', e1, e2, e3⟩ := l4 (k + 1) x y3 y4 hx
            obtain ⟨w1, w2⟩ := wr_a e1
            rw [e3]
            unfold fX11_workOut_b96
            rw [tk_n hB e1 (by decide) (by decide) h59, bP_s, bnd_d]
            dsimp only
            rw [fX11_workOut_b33, if_pos nI_0, if_neg e1.nf, e1.1.1, e1.2.2.1, if_neg (fun z => absurd ((nLe (by omega) (by omega)).mp z) (by omega)), w1, bP_s]
            exact ⟨_, _, rfl, e2.I _ (Or.inr (Or.inl rfl)), w2.2.2.2⟩
set_option maxHeartbeats 1000000 in
theorem Rel.law {c x d y : mS} (h : Rel c x) (I : ∀ k, k ∉ [36, 37, 38, 39, 40] → gI d k = gI c k) (eA : ∀ k, k ∉ [14, 15] → gA d k = gA c k) (eL : ∀ k, gL d k = gL c k) (X : ∀ k, k ∉ [4, 5, 6, 7, 8, 9, 10] → gI y k = gI x k) (eB : ∀ k, k ≠ 5 → gA y k = gA x k) (eM : ∀ k, gL y k = gL x k) (hT : rT d y) (hL : rL d y) : Rel d y := by
  obtain ⟨h1, h2, h3, h4, h5, h6, h7, h8⟩ := h
  refine ⟨?_, ?_, hT, hL, ?_, ?_, ?_, ?_⟩
  · unfold rN at h1 ⊢
    rw [I (iM_size 0) (by decide), I (iW_size 0) (by decide), I (iM_ribbon 0) (by decide), X iX_machines (by decide), X iX_writers (by decide), eA (aM_pulls 0) (by decide), eA (aM_ages 0) (by decide), eA (aW_hands 0) (by decide), eA (aW_touches 0) (by decide), eB aX_may (by decide)]
    exact h1
  · unfold rH at h2 ⊢
    rw [I iH_done (by decide), I iH_kept (by decide), X iX_done (by decide), X iX_keptMany (by decide), eA aH_numbers (by decide), eA aH_whats (by decide), eA aH_olds (by decide), eA aH_news (by decide), eB aX_changeAt (by decide), eB aX_changeWas (by decide), eB aX_changeIs (by decide)]
    exact h2
  · unfold rI at h5 ⊢
    rw [I iT_imageKept (by decide), X iX_isKept (by decide), I (iM_size 2) (by decide), X iX_imageMachines (by decide), eB aX_imageMay (by decide), eA (aM_pulls 2) (by decide), eA (aM_ages 2) (by decide), I (iW_size 1) (by decide), X iX_imageWriters (by decide), eA (aW_hands 1) (by decide), eB aX_imageLed (by decide), I (iG_letters 1) (by decide), I (iG_cleanings 1) (by decide), I (iG_learnings 1) (by decide), I (iG_showed 1) (by decide), I (iG_latest 1) (by decide), X iX_imageLatest (by decide)]
    exact h5
  · unfold rU at h6 ⊢
    rw [I iU_size (by decide), X iX_bodies (by decide), eA aU_kinds (by decide), eB aX_bodyKind (by decide), I iU_ran (by decide), X iX_ran (by decide), eA aU_traced (by decide), eB aX_trace (by decide)]
    exact h6
  · intro j hj
    have h := h7 j hj
    unfold rS1 at h ⊢
    have z : ∀ k, 18 ≤ k → k ≤ 35 → k ∉ [36, 37, 38, 39, 40] := by
      intro k h1 h2
      simp only [List.mem_cons, List.not_mem_nil, or_false]
      omega
    rw [I (iS_size j) (z _ (by show 18 ≤ 19 + 3 * j; omega) (by show 19 + 3 * j ≤ 35; omega)), eB aX_many (by decide), eM, eL, I (iS_sort j) (z _ (by show 18 ≤ 18 + 3 * j; omega) (by show 18 + 3 * j ≤ 35; omega)), I (iS_ghost j) (z _ (by show 18 ≤ 20 + 3 * j; omega) (by show 20 + 3 * j ≤ 35; omega)), eB aX_shelf (by decide), I iU_size (by decide)]
    exact h
  · unfold rG at h8 ⊢
    rw [eB aX_ledNow (by decide), I (iG_letters 0) (by decide), I (iG_cleanings 0) (by decide), I (iG_learnings 0) (by decide), I (iG_showed 0) (by decide), I (iG_latest 0) (by decide), X iX_latest (by decide)]
    exact h8
theorem tx_loop {n : Nat} (hn : n ≤ 120) : ∀ (m k i : Nat) (x : mS), i + m = n → m < k → ∃ y, fX11_law_b37 k (nI n) (nI i) x = some (nI 1, pI y iX_textMany (nI n)) ∧ (∀ k, gI y k = gI x k) ∧ (∀ k, k ≠ 5 → gA y k = gA x k) ∧ (∀ k, gL y k = gL x k) ∧ (∀ j, j < i → gA y aX_text j = gA x aX_text j) ∧ ∀ j, i ≤ j → j < n → gA y aX_text j = gA x aX_tape j := by
  intro m
  induction m with
  | zero =>
    intro k i x h1 h2
    obtain ⟨k, rfl⟩ : ∃ k', k = k' + 1 := ⟨k - 1, by omega⟩
    rw [fX11_law_b37, if_pos ((nLe (by omega) (by omega)).mpr (by omega)), bnd_d]
    exact ⟨x, rfl, fun _ => rfl, fun _ _ => rfl, fun _ => rfl, fun _ _ => rfl, fun j j1 j2 => absurd j1 (by omega)⟩
  | succ m ih =>
    intro k i x h1 h2
    obtain ⟨k, rfl⟩ : ∃ k', k = k' + 1 := ⟨k - 1, by omega⟩
    rw [fX11_law_b37, if_neg (fun z => absurd ((nLe (by omega) (by omega)).mp z) (by omega)), ldA_n (by omega) (by omega), stA_n (by omega) (by omega), bnd_d, nA]
    obtain ⟨y, e1, e2, e3, e4, e5, e6⟩ := ih k (i + 1) (pA x aX_text i (gA x aX_tape i)) (by omega) (by omega)
    refine ⟨y, e1, fun q => e2 q, fun q hq => ?_, e4, fun j hj => ?_, fun j j1 j2 => ?_⟩
    · rw [e3 q hq]; funext j; exact gA_ne hq
    · rw [e5 j (by omega), gA_eq, if_neg (by omega)]
    · by_cases g : j = i
      · rw [e5 j (by omega), gA_eq, if_pos g, g]
      · rw [e6 j (by omega) j2, gA_ne (by decide)]
theorem wk_st {B : Nat → Nat} {n : Nat} {x : mS} {v : Int32} (h : (v = -1 ∧ ∀ i, i < n → gA x aX_tape i = nI (B i)) ∨ (v = nI 0 ∧ ∀ i, i < n → gA x aX_text i = nI (B i))) : ∃ y, fX11_workOut v (nI n) x = fX11_workOut_b33 mFu (nI 0) (nI 0) (nI 1) y ∧ Xa B n 0 0 y ∧ (∀ k, k ∉ [6, 7, 8, 9, 10] → gI y k = gI x k) ∧ y.2 = x.2 := by
  unfold fX11_workOut
  simp only [bnd_d]
  refine ⟨_, rfl, ⟨⟨?_, ?_⟩, by omega, ?_, ?_, ?_⟩, fun k hk => ?_, rfl⟩
  · rw [gI_ne (by decide), gI_ne (by decide), gI_eq]
  · rw [gI_ne (by decide), gI_ne (by decide), gI_ne (by decide), gI_ne (by decide), gI_eq]
    exact h
  · rw [gI_ne (by decide), gI_ne (by decide), gI_ne (by decide), gI_eq]
  · rw [gI_ne (by decide), gI_eq]
  · rw [gI_eq]
  · simp only [List.mem_cons, List.not_mem_nil, or_false, not_or] at hk
    obtain ⟨k6, k7, k8, k9, k10⟩ := hk
    rw [gI_ne k10, gI_ne k9, gI_ne k8, gI_ne k7, gI_ne k6]
theorem rho_eq {c x : mS} (h : nmOk c x) : rhoC c = rho x := by
  obtain ⟨a, t, h', u, r, m, _, _, _, _, _, _, c1, c2, c3, c4, c5, c6, x1, x2, x3, x4, x5, x6⟩ := h
  funext b
  unfold rhoC rho nix
  by_cases g1 : b = 97
  · rw [if_pos g1, if_pos g1, if_pos (by decide), c1, x1]
  by_cases g2 : b = 100
  · rw [if_neg g1, if_pos g2, if_neg g1, if_pos g2, if_pos (by decide), c4, x4]
  by_cases g3 : b = 104
  · rw [if_neg g1, if_neg g2, if_pos g3, if_neg g1, if_neg g2, if_pos g3, if_pos (by decide), c3, x3]
  by_cases g4 : b = 109
  · rw [if_neg g1, if_neg g2, if_neg g3, if_pos g4, if_neg g1, if_neg g2, if_neg g3, if_pos g4, if_pos (by decide), c6, x6]
  by_cases g5 : b = 114
  · rw [if_neg g1, if_neg g2, if_neg g3, if_neg g4, if_pos g5, if_neg g1, if_neg g2, if_neg g3, if_neg g4, if_pos g5, if_pos (by decide), c5, x5]
  rw [if_neg g1, if_neg g2, if_neg g3, if_neg g4, if_neg g5, if_neg g1, if_neg g2, if_neg g3, if_neg g4, if_neg g5, c2]
  by_cases g6 : b = 116
  · rw [if_pos g6, if_pos (by decide), x2]
  · rw [if_neg g6, if_neg (by decide), x2]
