-- one number changes on both sides
theorem rN.pull {c x : mS} (h : rN c x) {p v : Nat} (hp : p < 24) (hv : v ≤ 12) : rN (pA c (aM_pulls 0) p (nI v)) (pA x aX_may p (nI v)) := by
  obtain ⟨h1, h2, h3, h4, h5, h6, h7⟩ := h
  refine ⟨h1, h2, fun i hi => ?_, fun i hi => ?_, fun i hi => ?_, fun i hi => ?_, ?_⟩
  · rw [gA_eq, gA_eq]
    by_cases e : i = p
    · rw [if_pos e, if_pos e]; exact ⟨rfl, v, hv, rfl⟩
    · rw [if_neg e, if_neg e]; exact h3 i hi
  · rw [gA_eq, if_neg (by omega)]; exact h4 i hi
  · rw [gA_eq, if_neg (by omega)]; exact h5 i hi
  · rw [gA_eq, if_neg (by omega)]; exact h6 i hi
  · rw [gA_eq, if_neg (by omega)]; exact h7
theorem rN.age {c x : mS} (h : rN c x) {p v : Nat} (hp : p < 8) (hv : v ≤ 99) : rN (pA c (aM_ages 0) p (nI v)) (pA x aX_may (24 + p) (nI v)) := by
  obtain ⟨h1, h2, h3, h4, h5, h6, h7⟩ := h
  refine ⟨h1, h2, fun i hi => ?_, fun i hi => ?_, fun i hi => ?_, fun i hi => ?_, ?_⟩
  · rw [gA_eq, if_neg (by omega)]; exact h3 i hi
  · rw [gA_eq, gA_eq]
    by_cases e : i = p
    · rw [if_pos (by omega), if_pos e]; exact ⟨rfl, v, hv, rfl⟩
    · rw [if_neg (by omega), if_neg e]; exact h4 i hi
  · rw [gA_eq, if_neg (by omega)]; exact h5 i hi
  · rw [gA_eq, if_neg (by omega)]; exact h6 i hi
  · rw [gA_eq, if_neg (by omega)]; exact h7
theorem rN.hand {c x : mS} (h : rN c x) {p v : Nat} (hp : p < 24) (hv : v ≤ 12) : rN (pA c (aW_hands 0) p (nI v)) (pA x aX_may (32 + p) (nI v)) := by
  obtain ⟨h1, h2, h3, h4, h5, h6, h7⟩ := h
  refine ⟨h1, h2, fun i hi => ?_, fun i hi => ?_, fun i hi => ?_, fun i hi => ?_, ?_⟩
  · rw [gA_eq, if_neg (by omega)]; exact h3 i hi
  · rw [gA_eq, if_neg (by omega)]; exact h4 i hi
  · rw [gA_eq, gA_eq]
    by_cases e : i = p
    · rw [if_pos (by omega), if_pos e]; exact ⟨rfl, v, hv, rfl⟩
    · rw [if_neg (by omega), if_neg e]; exact h5 i hi
  · rw [gA_eq, if_neg (by omega)]; exact h6 i hi
  · rw [gA_eq, if_neg (by omega)]; exact h7
theorem rN.touch {c x : mS} (h : rN c x) {p v : Nat} (hp : p < 8) (hv : v ≤ 12) : rN (pA c (aW_touches 0) p (nI v)) (pA x aX_may (56 + p) (nI v)) := by
  obtain ⟨h1, h2, h3, h4, h5, h6, h7⟩ := h
  refine ⟨h1, h2, fun i hi => ?_, fun i hi => ?_, fun i hi => ?_, fun i hi => ?_, ?_⟩
  · rw [gA_eq, if_neg (by omega)]; exact h3 i hi
  · rw [gA_eq, if_neg (by omega)]; exact h4 i hi
  · rw [gA_eq, if_neg (by omega)]; exact h5 i hi
  · rw [gA_eq, gA_eq]
    by_cases e : i = p
    · rw [if_pos (by omega), if_pos e]; exact ⟨rfl, v, hv, rfl⟩
    · rw [if_neg (by omega), if_neg e]; exact h6 i hi
  · rw [gA_eq, if_neg (by omega)]; exact h7
theorem rN.rib {c x : mS} (h : rN c x) {v : Nat} (hv : v ≤ 9) : rN (pI c (iM_ribbon 0) (nI v)) (pA x aX_may 64 (nI v)) := by
  obtain ⟨h1, h2, h3, h4, h5, h6, h7⟩ := h
  refine ⟨h1, h2, fun i hi => ?_, fun i hi => ?_, fun i hi => ?_, fun i hi => ?_, ?_⟩
  · rw [gA_eq, if_neg (by omega)]; exact h3 i hi
  · rw [gA_eq, if_neg (by omega)]; exact h4 i hi
  · rw [gA_eq, if_neg (by omega)]; exact h5 i hi
  · rw [gA_eq, if_neg (by omega)]; exact h6 i hi
  · rw [gA_eq, if_pos rfl]; exact ⟨rfl, v, hv, rfl⟩
theorem rSk {c x d y : mS} (h : rS c x) (hI : ∀ k, 18 ≤ k → k ≤ 49 → gI d k = gI c k) (hL : ∀ j i, gL d j i = gL c j i) (hM : gA y aX_many = gA x aX_many) (hS : gA y aX_shelf = gA x aX_shelf) (hT : gL y lX_items = gL x lX_items) : rS d y := h.keep (fun k k1 k2 => hI k k1 (by omega)) (hI 49 (by omega) (by omega)) hL hM hS hT
theorem Rel.pull {c x : mS} (h : Rel c x) {p v : Nat} (hp : p < 24) (hv : v ≤ 12) : Rel (pA c (aM_pulls 0) p (nI v)) (pA x aX_may p (nI v)) := ⟨h.1.pull hp hv, h.2.1, h.2.2.1, h.2.2.2.1, h.2.2.2.2.1, h.2.2.2.2.2.1, rSk h.2.2.2.2.2.2.1 (fun _ _ _ => rfl) (fun _ _ => rfl) rfl rfl rfl, h.2.2.2.2.2.2.2⟩
theorem Rel.age {c x : mS} (h : Rel c x) {p v : Nat} (hp : p < 8) (hv : v ≤ 99) : Rel (pA c (aM_ages 0) p (nI v)) (pA x aX_may (24 + p) (nI v)) := ⟨h.1.age hp hv, h.2.1, h.2.2.1, h.2.2.2.1, h.2.2.2.2.1, h.2.2.2.2.2.1, rSk h.2.2.2.2.2.2.1 (fun _ _ _ => rfl) (fun _ _ => rfl) rfl rfl rfl, h.2.2.2.2.2.2.2⟩
theorem Rel.hand {c x : mS} (h : Rel c x) {p v : Nat} (hp : p < 24) (hv : v ≤ 12) : Rel (pA c (aW_hands 0) p (nI v)) (pA x aX_may (32 + p) (nI v)) := ⟨h.1.hand hp hv, h.2.1, h.2.2.1, h.2.2.2.1, h.2.2.2.2.1, h.2.2.2.2.2.1, rSk h.2.2.2.2.2.2.1 (fun _ _ _ => rfl) (fun _ _ => rfl) rfl rfl rfl, h.2.2.2.2.2.2.2⟩
theorem Rel.touch {c x : mS} (h : Rel c x) {p v : Nat} (hp : p < 8) (hv : v ≤ 12) : Rel (pA c (aW_touches 0) p (nI v)) (pA x aX_may (56 + p) (nI v)) := ⟨h.1.touch hp hv, h.2.1, h.2.2.1, h.2.2.2.1, h.2.2.2.2.1, h.2.2.2.2.2.1, rSk h.2.2.2.2.2.2.1 (fun _ _ _ => rfl) (fun _ _ => rfl) rfl rfl rfl, h.2.2.2.2.2.2.2⟩
theorem Rel.rib {c x : mS} (h : Rel c x) {v : Nat} (hv : v ≤ 9) : Rel (pI c (iM_ribbon 0) (nI v)) (pA x aX_may 64 (nI v)) := ⟨h.1.rib hv, h.2.1, h.2.2.1, h.2.2.2.1, h.2.2.2.2.1, h.2.2.2.2.2.1, rSk h.2.2.2.2.2.2.1 (fun k _ _ => gI_ne (show k ≠ 1 by omega)) (fun _ _ => rfl) rfl rfl rfl, h.2.2.2.2.2.2.2⟩
theorem Rel.sz {c x : mS} (h : Rel c x) {n : Nat} (hn : n ≤ 8) : Rel (pI c (iM_size 0) (nI n)) (pI x iX_machines (nI n)) := ⟨⟨⟨n, hn, rfl, rfl⟩, h.1.2⟩, h.2.1, h.2.2.1, h.2.2.2.1, h.2.2.2.2.1, h.2.2.2.2.2.1, rSk h.2.2.2.2.2.2.1 (fun k _ _ => gI_ne (show k ≠ 0 by omega)) (fun _ _ => rfl) rfl rfl rfl, h.2.2.2.2.2.2.2⟩
theorem Rel.wz {c x : mS} (h : Rel c x) {n : Nat} (hn : n ≤ 8) : Rel (pI c (iW_size 0) (nI n)) (pI x iX_writers (nI n)) := ⟨⟨h.1.1, ⟨n, hn, rfl, rfl⟩, h.1.2.2⟩, h.2.1, h.2.2.1, h.2.2.2.1, h.2.2.2.2.1, h.2.2.2.2.2.1, rSk h.2.2.2.2.2.2.1 (fun k _ _ => gI_ne (show k ≠ 6 by omega)) (fun _ _ => rfl) rfl rfl rfl, h.2.2.2.2.2.2.2⟩
/-- a new machine -/
theorem join_both {c x : mS} (h : Rel c x) {n : Nat} (hn : n < 8) (h1 : gI c (iM_size 0) = nI n) (h2 : gI x iX_machines = nI n) {u v w : Nat} (hu : u ≤ 12) (hv : v ≤ 12) (hw : w ≤ 12) : ∃ c' x', fX6_join 0 (nI u) (nI v) (nI w) c = some (nI n, c') ∧ fX11_addsMachine (nI u) (nI v) (nI w) x = some x' ∧ Rel c' x' ∧ gI c' (iM_size 0) = nI (n + 1) ∧ gI x' iX_machines = nI (n + 1) ∧ (∀ k i, gL c' k i = gL c k i) ∧ (∀ k i, gL x' k i = gL x k i) ∧ (∀ k, 18 ≤ k → k ≤ 49 → gI c' k = gI c k) ∧ (∀ k i, k ≠ aX_may → gA x' k i = gA x k i) := by
  unfold fX6_join fX11_addsMachine fX6_setNew
  rw [bnd_d, gI_eq, h1, nA, nSb (show 1 ≤ n + 1 by omega), show n + 1 - 1 = n by omega, nM, stA_n (by omega) (by omega), nA, stA_n (by omega) (by omega), nA, stA_n (by omega) (by omega), stA_n (by omega) (by omega), bO_s, h2, nM, stA_n (by omega) (by omega)]
  have e1 : gI (pA x aX_may (3 * n) (nI u)) iX_machines = nI n := h2
  rw [e1, nM, nA, stA_n (by omega) (by omega)]
  have e2 : gI (pA (pA x aX_may (3 * n) (nI u)) aX_may (3 * n + 1) (nI v)) iX_machines = nI n := h2
  rw [e2, nM, nA, stA_n (by omega) (by omega)]
  have e3 : gI (pA (pA (pA x aX_may (3 * n) (nI u)) aX_may (3 * n + 1) (nI v)) aX_may (3 * n + 2) (nI w)) iX_machines = nI n := h2
  rw [e3, nA, stA_n (by omega) (by omega), bnd_d]
  have e4 : gI (pA (pA (pA (pA x aX_may (3 * n) (nI u)) aX_may (3 * n + 1) (nI v)) aX_may (3 * n + 2) (nI w)) aX_may (24 + n) (nI 0)) iX_machines = nI n := h2
  have e5 : gI (pA (pA (pA (pA (pI c (iM_size 0) (nI (n + 1))) (aM_pulls 0) (3 * n) (nI u)) (aM_pulls 0) (3 * n + 1) (nI v)) (aM_pulls 0) (3 * n + 2) (nI w)) (aM_ages 0) n (nI 0)) (iM_size 0) = nI (n + 1) := rfl
  rw [e4, nA, e5, nSb (show 1 ≤ n + 1 by omega), show n + 1 - 1 = n by omega]
  refine ⟨_, _, rfl, rfl, ?_, rfl, rfl, fun _ _ => rfl, fun _ _ => rfl, fun k k1 k2 => gI_ne (show k ≠ 0 by omega), fun k i hk => ?_⟩
  · exact ((((h.pull (p := 3 * n) (by omega) hu).pull (p := 3 * n + 1) (by omega) hv).pull (p := 3 * n + 2) (by omega) hw).age (p := n) hn (Nat.zero_le 99)).sz (n := n + 1) (by omega)
  · rw [gA_pI, gA_ne hk, gA_ne hk, gA_ne hk, gA_ne hk]
theorem z_machine {c x : mS} (h : Rel c x) : same (fX10_machine c) (fX11_machine x) := by
  obtain ⟨n, hn, h1, h2⟩ := h.1.1
  unfold fX10_machine fX11_machine fX6_isFull
  rw [h1, h2]
  by_cases e : n = 8
  · subst e
    rw [if_neg (show ¬ nI 8 < nI 8 by decide), bO_s, i10, if_pos rfl]
    exact same_bad h
  · obtain ⟨c', x', j1, j2, j3, j4, j5, -⟩ := join_both h (n := n) (by omega) h1 h2 (u := 6) (v := 6) (w := 6) (by omega) (by omega) (by omega)
    rw [if_pos ((nLt (by omega) (by omega)).mpr (by omega)), bO_s, i00, if_neg (fun z => e ((nEq (by omega) (by omega)).mp z)), j1, j2, bP_s, bO_s, j5, nSb (by omega)]
    exact ⟨nI n, c', x', rfl, rfl, j3⟩
/-- a code's three numbers -/
theorem part_both (a h : Nat) (ha : a < 2197) (hh : h < 3) (c x : mS) : ∃ v, v ≤ 12 ∧ fX2_part (nI a) (nI h) c = some (nI v) ∧ fX11_inCode (nI a) (nI h) x = some (nI v) := by
  unfold fX2_part fX11_inCode
  rcases (show h = 0 ∨ h = 1 ∨ h = 2 by omega) with rfl | rfl | rfl
  · rw [if_pos nI_0, nDiv (by omega) (by omega)]
    exact ⟨a / 169, by omega, rfl, rfl⟩
  · rw [if_neg (show ¬ nI 1 = 0 by decide), if_pos rfl, nDiv (by omega) (by omega), nRem (by omega) (by omega)]
    exact ⟨a / 13 % 13, by omega, rfl, rfl⟩
  · rw [if_neg (show ¬ nI 2 = 0 by decide), if_neg (show ¬ nI 2 = nI 1 by decide), nRem (by omega) (by omega)]
    exact ⟨a % 13, by omega, rfl, rfl⟩
theorem z_writer {c x : mS} (h : Rel c x) (a : Int32) : same (fX10_writer a c) (fX11_writer a x) := by
  obtain ⟨n, hn, h1, h2⟩ := h.1.2.1
  unfold fX10_writer fX11_writer fX9_isFull
  rw [f_isCode, f_isCodeX, bO_s, bO_s, b01_z, b01_z, h1, h2]
  by_cases ha : a < 0 ∨ nI 2197 ≤ a
  · rw [if_pos ha, if_pos ha]; exact same_bad h
  rw [if_neg ha, if_neg ha]
  obtain ⟨q, hq, rfl⟩ := nOfLt (fun z => ha (Or.inl z)) (fun z => ha (Or.inr z)) (by omega)
  by_cases e : n = 8
  · subst e
    rw [if_neg (show ¬ nI 8 < nI 8 by decide), bO_s, i10, if_pos rfl]
    exact same_bad h
  rw [if_pos ((nLt (by omega) (by omega)).mpr (by omega)), bO_s, i00, if_neg (fun z => e ((nEq (by omega) (by omega)).mp z)), bnd_d]
  unfold fX9_join
  rw [bnd_d]
  obtain ⟨k, hk⟩ : ∃ k, mFu = k + 4 := ⟨5996, rfl⟩
  have st : ∀ (i : Nat) (hi : i < 3) (f : Nat) {c x : mS}, Rel c x → gI c (iW_size 0) = nI n → gI x iX_writers = nI n → ∃ c' x', fX9_join_b2 (f + 1) 0 (nI q) (nI i) c = fX9_join_b2 f 0 (nI q) (nI (i + 1)) c' ∧ fX11_writer_b24 (f + 1) (nI q) (nI i) x = fX11_writer_b24 f (nI q) (nI (i + 1)) x' ∧ Rel c' x' ∧ gI c' (iW_size 0) = nI n ∧ gI x' iX_writers = nI n := by
    intro i hi f c x h h1 h2
    obtain ⟨v, hv, v1, v2⟩ := part_both q i hq hi c x
    rw [fX9_join_b2, fX11_writer_b24, if_neg (fun z => absurd ((nLe (by omega) (by omega)).mp z) (by omega)), if_neg (fun z => absurd ((nLe (by omega) (by omega)).mp z) (by omega)), v1, v2, bO_s, bO_s, h1, h2]
    simp only [nA, nM]
    rw [stA_n (by omega) (by omega), stA_n (by omega) (by omega), bnd_d, bnd_d]
    refine ⟨_, _, rfl, rfl, ?_, h1, h2⟩
    rw [show 32 + 3 * n + i = 32 + (3 * n + i) by omega]
    exact h.hand (by omega) hv
  rw [hk]
  obtain ⟨c1, x1, a1, b1, r1, s1, t1⟩ := st 0 (by omega) (k + 3) h h1 h2
  obtain ⟨c2, x2, a2, b2, r2, s2, t2⟩ := st 1 (by omega) (k + 2) r1 s1 t1
  obtain ⟨c3, x3, a3, b3, r3, s3, t3⟩ := st 2 (by omega) (k + 1) r2 s2 t2
  rw [a1, a2, a3, b1, b2, b3, fX9_join_b2, fX11_writer_b24, if_pos (show nI 3 ≤ nI (2 + 1) by decide), if_pos (show nI 3 ≤ nI (2 + 1) by decide), s3, t3, nA, stA_n (by omega) (by omega), stA_n (by omega) (by omega), bnd_d, bnd_d]
  have e1 : gI (pA c3 (aW_touches 0) n (nI 6)) (iW_size 0) = nI n := s3
  have e2 : gI (pA x3 aX_may (56 + n) (nI 6)) iX_writers = nI n := t3
  rw [e1, e2, nA, bP_s, gI_eq, gI_eq, nSb (by omega)]
  exact ⟨nI n, _, _, rfl, rfl, (r3.touch (p := n) (by omega) (by omega)).wz (by omega)⟩
