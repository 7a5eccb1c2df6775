-- pairs: counted by machines and by writers
def smn (f : Nat → Nat) : Nat → Nat
  | 0 => 0
  | n + 1 => smn f n + f n
def anq (S : Nat → Nat → Bool) (w : Nat) : Nat → Bool
  | 0 => false
  | n + 1 => anq S w n || S w n
def lst (A : Nat → Bool) : Nat → Int32
  | 0 => -2
  | i + 1 => if A i then nI i else lst A i
theorem smn_add (f g : Nat → Nat) : ∀ n, smn (fun i => f i + g i) n = smn f n + smn g n := by
  intro n
  induction n with
  | zero => rfl
  | succ n ih => unfold smn; rw [ih]; omega
theorem smn_zero : ∀ n, smn (fun _ => 0) n = 0 := by
  intro n
  induction n with
  | zero => rfl
  | succ n ih => unfold smn; rw [ih]
theorem cnt_smn (S : Nat → Bool) : ∀ n, cnt S n = smn (fun i => if S i then 1 else 0) n := by
  intro n
  induction n with
  | zero => rfl
  | succ n ih => unfold cnt smn; rw [ih]
theorem smn_swap (S : Nat → Nat → Bool) (W : Nat) : ∀ n, smn (fun q => cnt (fun w => S w q) W) n = smn (fun w => cnt (fun q => S w q) n) W := by
  intro n
  induction n with
  | zero => exact (smn_zero W).symm
  | succ n ih =>
    show smn (fun q => cnt (fun w => S w q) W) n + cnt (fun w => S w n) W = smn (fun w => cnt (fun q => S w q) n + if S w n then 1 else 0) W
    rw [ih, smn_add, cnt_smn (fun w => S w n)]
theorem cnt_le (S : Nat → Bool) : ∀ n, cnt S n ≤ n := by
  intro n
  induction n with
  | zero => exact Nat.le_refl _
  | succ n ih => unfold cnt; split <;> omega
theorem smn_le (f : Nat → Nat) (b : Nat) (h : ∀ i, f i ≤ b) : ∀ n, smn f n ≤ n * b := by
  intro n
  induction n with
  | zero => exact Nat.zero_le _
  | succ n ih => unfold smn; have := h n; rw [Nat.succ_mul]; omega
theorem cnt_pos (S : Nat → Nat → Bool) (w : Nat) : ∀ n, 0 < cnt (fun q => S w q) n ↔ anq S w n = true := by
  intro n
  induction n with
  | zero => exact ⟨fun z => absurd (show 0 < 0 from z) (by decide), fun z => absurd (show false = true from z) (by decide)⟩
  | succ n ih =>
    unfold cnt anq
    rw [Bool.or_eq_true]
    by_cases g : S w n = true
    · rw [if_pos g]; exact ⟨fun _ => Or.inr g, fun _ => by omega⟩
    · rw [if_neg g, Nat.add_zero, ih]; exact ⟨Or.inl, fun z => z.elim id (fun y => absurd y g)⟩
theorem lst_ok (A : Nat → Bool) : ∀ W, W ≤ 8 → (cnt A W = 0 ∧ msk A W = 0) ∨ (cnt A W = 1 ∧ ∃ w, w < W ∧ lst A W = nI w ∧ msk A W = 2 ^ w) ∨ 2 ≤ cnt A W := by
  intro W
  induction W with
  | zero => intro _; exact Or.inl ⟨rfl, rfl⟩
  | succ W ih =>
    intro h
    unfold cnt msk lst
    by_cases g : A W = true
    · rw [if_pos g, if_pos g, if_pos g]
      rcases ih (by omega) with ⟨a1, a2⟩ | ⟨a1, -⟩ | a1
      · rw [a1, a2, Nat.zero_or]
        exact Or.inr (Or.inl ⟨rfl, W, by omega, rfl, rfl⟩)
      · rw [a1]; exact Or.inr (Or.inr (by omega))
      · exact Or.inr (Or.inr (by omega))
    · rw [if_neg g, if_neg g, if_neg g, Nat.add_zero]
      rcases ih (by omega) with a | ⟨a1, w, a2, a3, a4⟩ | a
      · exact Or.inl a
      · exact Or.inr (Or.inl ⟨a1, w, by omega, a3, a4⟩)
      · exact Or.inr (Or.inr a)
theorem pc_loop {n W j m : Nat} {f : Nat → Int32} {c0 x0 : mS} {S : Nat → Nat → Bool} {y2 : Int32} (hj : j < 6) (h : J 0 n W c0 x0) (hS : ∀ c x, smL c0 c → smK x0 x → ∀ w q, w < W → q < n → ∃ c' x', fX10_fits j 0 (nI w) (nI q) c = some (nI (if S w q then 1 else 0), c') ∧ fX11_isSheet (nI j) (nI w) (nI q) x = some (nI (if S w q then 1 else 0), x') ∧ smL c0 c' ∧ smK x0 x') : ∀ (r kf i : Nat) (c : mS), i + r = n → r < kf → smL c0 c → ∃ c', fX10_pairs_b33 kf (nI j) y2 (nI (smn (fun q => cnt (fun w => S w q) W) i)) (nI (msk (fun w => anq S w i) W)) (nI i) c = (if y2 = 0 then some (nI (smn (fun q => cnt (fun w => S w q) W) n), c') else bO (fJ6_bitCount_0f7a4 (nI (msk (fun w => anq S w n) W)) c') fun r6 => if r6 = (nI 1) then bO (fJ6_numberOfTrailingZeros_0f7a4 (nI (msk (fun w => anq S w n) W)) c') fun r7 => some (r7, c') else some ((-2), c')) ∧ smL c0 c' := by
  have hn := h.2.1.1
  have hW := h.2.2.1
  intro r
  induction r with
  | zero =>
    intro kf i c h1 h2 hc
    obtain ⟨kf, rfl⟩ : ∃ k', kf = k' + 1 := ⟨kf - 1, by omega⟩
    rw [fX10_pairs_b33, hc.1 _ (by decide), h.2.1.2.1, if_pos ((nLe (by omega) (by omega)).mpr (by omega)), show i = n by omega]
    exact ⟨c, rfl, hc⟩
  | succ r ih =>
    intro kf i c h1 h2 hc
    obtain ⟨kf, rfl⟩ : ∃ k', kf = k' + 1 := ⟨kf - 1, by omega⟩
    obtain ⟨c', e1, e2⟩ := wf_loop (m := m) (f := f) rfl (show i < n by omega) h hS W mFu 0 c (by omega) (show W < 6000 by omega) hc
    have e1' : fX10_writersFor_b5 mFu j (nI i) (nI 0) (nI 0) c = some (nI (msk (fun w => S w i) W), c') := e1
    unfold fX10_pairs_b33 fX10_writersFor
    rw [hc.1 _ (by decide), h.2.1.2.1, if_neg (fun z => absurd ((nLe (by omega) (by omega)).mp z) (by omega)), ldS_n hj (by omega), bnd_d, bnd_d, e1', bP_s, bnd_d, bc_n (msk_256 _ hW), bO_s, bnd_d, bnd_d, bnd_d, nA, nA, or_n, (msk_lt _ W hW).2, msk_or]
    exact ih kf (i + 1) c' (by omega) (by omega) e2
theorem pr_in {n W j w : Nat} {c0 x0 : mS} {S : Nat → Nat → Bool} {y2 y3 y4 y5 : Int32} (K : Int32 → Int32 → Int32 → Int32 → Int32 → Int32 → mS → Option (Int32 × mS)) (hw : w < W) (h : J 0 n W c0 x0) (hS : ∀ c x, smL c0 c → smK x0 x → ∀ w q, w < W → q < n → ∃ c' x', fX10_fits j 0 (nI w) (nI q) c = some (nI (if S w q then 1 else 0), c') ∧ fX11_isSheet (nI j) (nI w) (nI q) x = some (nI (if S w q then 1 else 0), x') ∧ smL c0 c' ∧ smK x0 x') : ∀ (r kf i : Nat) (x : mS), i + r = n → r < kf → smK x0 x → ∃ x', fX11_pairs_b69 K kf (nI j) y2 y3 y4 y5 (nI w) (nI (cnt (fun q => S w q) i)) (nI i) x = K (nI j) y2 (y3 + nI (cnt (fun q => S w q) n)) (y4 + nI (if anq S w n then 1 else 0)) (if anq S w n then nI w else y5) (nI (w + 1)) x' ∧ smK x0 x' := by
  have hn := h.2.1.1
  have hW := h.2.2.1
  intro r
  induction r with
  | zero =>
    intro kf i x h1 h2 hx
    obtain ⟨kf, rfl⟩ : ∃ k', kf = k' + 1 := ⟨kf - 1, by omega⟩
    obtain rfl : i = n := by omega
    have hc := cnt_le (fun q => S w q) i
    rw [fX11_pairs_b69, hx.1 _ (by decide), h.2.1.2.2.1, if_pos ((nLe (by omega) (by omega)).mpr (by omega)), bnd_d]
    unfold fX11_pairs_b123 fX11_pairs_b138
    refine ⟨x, ?_, hx⟩
    by_cases g : anq S w i = true
    · have := (cnt_pos S w i).mpr g
      have z : ¬ nI (cnt (fun q => S w q) i) ≤ 0 := by rw [← nI_0, nLe (by omega) (by omega)]; omega
      rw [if_neg z, bnd_d, if_neg z, if_pos g, if_pos g, bnd_d, bnd_d, nA]
    · have : ¬ 0 < cnt (fun q => S w q) i := fun z => g ((cnt_pos S w i).mp z)
      have z : nI (cnt (fun q => S w q) i) ≤ 0 := by rw [← nI_0, nLe (by omega) (by omega)]; omega
      rw [if_pos z, bnd_d, if_pos z, if_neg g, if_neg g, bnd_d, bnd_d, nA]
  | succ r ih =>
    intro kf i x h1 h2 hx
    obtain ⟨kf, rfl⟩ : ∃ k', kf = k' + 1 := ⟨kf - 1, by omega⟩
    obtain ⟨c', x', e1, e2, e3, e4⟩ := hS c0 x (smL.rf c0) hx w i hw (by omega)
    rw [fX11_pairs_b69, hx.1 _ (by decide), h.2.1.2.2.1, if_neg (fun z => absurd ((nLe (by omega) (by omega)).mp z) (by omega)), e2, bP_s, if1]
    unfold fX11_pairs_b97
    have key : (if S w i = true then nI 1 else nI 0) = nI (if S w i then 1 else 0) := by
      by_cases g : S w i = true
      · rw [if_pos g, if_pos g]
      · rw [if_neg g, if_neg g]
    by_cases g : S w i = true
    · have q := ih kf (i + 1) x' (by omega) (by omega) e4
      have ce : cnt (fun q => S w q) (i + 1) = cnt (fun q => S w q) i + 1 := by
        show cnt (fun q => S w q) i + (if S w i then 1 else 0) = _
        rw [if_pos g]
      rw [ce] at q
      rw [if_pos g, bnd_d, bnd_d, nA, nA]
      exact q
    · have q := ih kf (i + 1) x' (by omega) (by omega) e4
      have ce : cnt (fun q => S w q) (i + 1) = cnt (fun q => S w q) i + 0 := by
        show cnt (fun q => S w q) i + (if S w i then 1 else 0) = _
        rw [if_neg g]
      rw [ce] at q
      rw [if_neg g, bnd_d, bnd_d, nA, nA]
      exact q
theorem px_loop {n W j : Nat} {c0 x0 : mS} {S : Nat → Nat → Bool} {y2 : Int32} (h : J 0 n W c0 x0) (hS : ∀ c x, smL c0 c → smK x0 x → ∀ w q, w < W → q < n → ∃ c' x', fX10_fits j 0 (nI w) (nI q) c = some (nI (if S w q then 1 else 0), c') ∧ fX11_isSheet (nI j) (nI w) (nI q) x = some (nI (if S w q then 1 else 0), x') ∧ smL c0 c' ∧ smK x0 x') : ∀ (r kf i : Nat) (x : mS), i + r = W → r < kf → smK x0 x → ∃ x', fX11_pairs_b54 kf (nI j) y2 (nI (smn (fun w => cnt (fun q => S w q) n) i)) (nI (cnt (fun w => anq S w n) i)) (lst (fun w => anq S w n) i) (nI i) x = (if y2 = 0 then some (nI (smn (fun w => cnt (fun q => S w q) n) W), x') else if nI (cnt (fun w => anq S w n) W) = nI 1 then some (lst (fun w => anq S w n) W, x') else some ((-2), x')) ∧ smK x0 x' := by
  have hn := h.2.1.1
  have hW := h.2.2.1
  intro r
  induction r with
  | zero =>
    intro kf i x h1 h2 hx
    obtain ⟨kf, rfl⟩ : ∃ k', kf = k' + 1 := ⟨kf - 1, by omega⟩
    obtain rfl : i = W := by omega
    rw [fX11_pairs_b54, hx.1 _ (by decide), h.2.2.2.2.1, if_pos ((nLe (by omega) (by omega)).mpr (by omega))]
    exact ⟨x, rfl, hx⟩
  | succ r ih =>
    intro kf i x h1 h2 hx
    obtain ⟨kf, rfl⟩ : ∃ k', kf = k' + 1 := ⟨kf - 1, by omega⟩
    rw [fX11_pairs_b54, hx.1 _ (by decide), h.2.2.2.2.1, if_neg (fun z => absurd ((nLe (by omega) (by omega)).mp z) (by omega)), bnd_d, bnd_d]
    obtain ⟨x', e1, e2⟩ := pr_in (y2 := y2) (y3 := nI (smn (fun w => cnt (fun q => S w q) n) i)) (y4 := nI (cnt (fun w => anq S w n) i)) (y5 := lst (fun w => anq S w n) i) (fun u0 u1 u2 u3 u4 u5 u6 => fX11_pairs_b54 kf u0 u1 u2 u3 u4 u5 u6) (show i < W by omega) h hS n mFu 0 x (by omega) (show n < 6000 by omega) hx
    have e1' : fX11_pairs_b69 (fun u0 u1 u2 u3 u4 u5 u6 => fX11_pairs_b54 kf u0 u1 u2 u3 u4 u5 u6) mFu (nI j) y2 (nI (smn (fun w => cnt (fun q => S w q) n) i)) (nI (cnt (fun w => anq S w n) i)) (lst (fun w => anq S w n) i) (nI i) (nI 0) (nI 0) x = _ := e1
    rw [e1', nA, nA]
    exact ih kf (i + 1) x' (by omega) (by omega) e2
theorem z_pairs {c x : mS} (h : Rel c x) (a b : Int32) : same (fX10_pairs a b c) (fX11_pairs a b x) := by
  unfold fX10_pairs fX11_pairs
  rw [f_win b 1 1 (by decide), bO_s, b01_z, ite_in]
  rcases row_both h a 0 (by omega) with ⟨v, v1, v2, v3⟩ | ⟨j, m, f, ha, hr, v2, v3⟩
  · rw [v2, v3, bO_s, bO_s, bO_s, bO_s, bnd_d, if_neg (vbad v1).1, if_neg (vbad v1).2]
    by_cases e1 : v = -1
    · subst e1
      rw [if_pos rfl]
      split <;> exact same_bad h
    rw [if_neg e1]
    split <;> exact same_bad h
  rw [v2, v3, bO_s, bO_s, bO_s, bO_s, bnd_d, i00, if_neg (show ¬ nI 1 = -1 by decide), if_pos (show (0 : Int32) ≤ nI 1 by decide)]
  by_cases hb : b < 0 ∨ nI 1 < b
  · rw [if_pos hb, if_pos hb]; exact same_bad h
  rw [if_neg hb, if_neg hb]
  subst ha
  obtain ⟨n, W, x0, b1, b2, hJ⟩ := begin0 h
  have hr0 := hr.keep (smC.rf c) b2
  obtain ⟨S, hS⟩ := sheet_S (by omega) hJ hr0
  have hn := hJ.2.1.1
  have hW := hJ.2.2.1
  obtain ⟨c', e1, e2⟩ := pc_loop (m := m) (f := f) (y2 := b) hr.1 hJ hS n mFu 0 c (by omega) (show n < 6000 by omega) (smL.rf c)
  obtain ⟨x', d1, d2⟩ := px_loop (y2 := b) hJ hS W mFu 0 x0 (by omega) (show W < 6000 by omega) (smK.rf x0)
  have m0 : ∀ V, msk (fun w => anq S w 0) V = 0 := by
    intro V
    induction V with
    | zero => rfl
    | succ V ih => unfold msk; rw [if_neg (show ¬ anq S V 0 = true from fun z => absurd (show false = true from z) (by decide))]; exact ih
  rw [m0] at e1
  have e1' : fX10_pairs_b33 mFu (nI j) b (nI 0) (nI 0) (nI 0) c = _ := e1
  have d1' : fX11_pairs_b54 mFu (nI j) b (nI 0) (nI 0) (-2) (nI 0) x0 = _ := d1
  rw [b1, bO_s, bnd_d, bnd_d, bnd_d, bnd_d, bnd_d, bnd_d, bnd_d, e1', d1']
  have hR := (hJ.keep (by omega) e2 d2).1
  by_cases g : b = 0
  · rw [if_pos g, if_pos g, smn_swap]
    exact same_bad hR
  · rw [if_neg g, if_neg g, bc_n (msk_256 _ hW), bO_s, (msk_lt _ W hW).2]
    have hc := cnt_le (fun w => anq S w n) W
    rcases lst_ok (fun w => anq S w n) W hW with ⟨a1, a2⟩ | ⟨a1, w, a2, a3, a4⟩ | a1
    · rw [a1, if_neg (show ¬ nI 0 = nI 1 by decide), if_neg (show ¬ nI 0 = nI 1 by decide)]
      exact same_bad hR
    · rw [a1, if_pos rfl, if_pos rfl, a4, tz_n (by omega), bO_s, a3]
      exact same_bad hR
    · rw [if_neg (nlit_ne (by omega) (by omega) (by omega)), if_neg (nlit_ne (by omega) (by omega) (by omega))]
      exact same_bad hR
