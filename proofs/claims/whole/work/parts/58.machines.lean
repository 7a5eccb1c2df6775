-- machines from rows
def gud (f : Nat → Int32) (k : Nat) : Prop := ¬ (f k < 0 ∨ nI 12 < f k)
theorem ps_loop {j p m : Nat} {f : Nat → Int32} {c : mS} (hp : p + 3 ≤ m) (hm : m ≤ 60) (r3 : ∀ i, i < 60 → gL c (lS_cells j) i = (f i).toInt64) : ∀ (r kf q : Nat), q + r = p + 3 → r < kf → ((∀ k, q ≤ k → k < p + 3 → gud f k) → fX10_pullsStandAt_b13 kf j (nI p) (nI q) c = some (nI 1)) ∧ ((∃ k, q ≤ k ∧ k < p + 3 ∧ ¬ gud f k) → fX10_pullsStandAt_b13 kf j (nI p) (nI q) c = some (nI 0)) := by
  intro r
  induction r with
  | zero =>
    intro kf q h1 h2
    obtain ⟨kf, rfl⟩ : ∃ k', kf = k' + 1 := ⟨kf - 1, by omega⟩
    rw [fX10_pullsStandAt_b13, nA, if_pos ((nLe (by omega) (by omega)).mpr (by omega))]
    exact ⟨fun _ => rfl, fun ⟨k, k1, k2, _⟩ => absurd k1 (by omega)⟩
  | succ r ih =>
    intro kf q h1 h2
    obtain ⟨kf, rfl⟩ : ∃ k', kf = k' + 1 := ⟨kf - 1, by omega⟩
    rw [fX10_pullsStandAt_b13, nA, if_neg (fun z => absurd ((nLe (by omega) (by omega)).mp z) (by omega)), ldL_n (by omega) (by omega), ldL_n (by omega) (by omega), r3 q (by omega)]
    obtain ⟨t1, t2⟩ := ih kf (q + 1) (by omega) (by omega)
    have a1 : (lg_cmp (Int32.toInt64 (f q)) 0 < 0) ↔ f q < 0 := by
      rw [lcmp_lt, show (0 : Int64) = Int32.toInt64 0 by decide, i2l_lt]
    have a2 : (lg_cmp (Int32.toInt64 (f q)) 12 ≤ 0) ↔ ¬ nI 12 < f q := by
      rw [← Int32.not_lt, lcmp_gt, show (12 : Int64) = Int32.toInt64 (nI 12) by decide, i2l_lt]
    by_cases g1 : f q < 0
    · rw [if_pos (a1.mpr g1)]
      exact ⟨fun z => absurd (Or.inl g1) (z q (by omega) (by omega)), fun _ => rfl⟩
    rw [if_neg (fun z => g1 (a1.mp z))]
    by_cases g2 : nI 12 < f q
    · rw [if_neg (fun z => a2.mp z g2)]
      exact ⟨fun z => absurd (Or.inr g2) (z q (by omega) (by omega)), fun _ => rfl⟩
    rw [if_pos (a2.mpr g2), bnd_d, nA]
    refine ⟨fun z => t1 (fun k k1 k2 => z k (by omega) k2), fun ⟨k, k1, k2, k3⟩ => t2 ⟨k, ?_, k2, k3⟩⟩
    by_cases e : k = q
    · subst e; exact absurd (nor g1 g2) k3
    · omega
theorem ma_stop (K : Nat) (a b e i : Int32) (x : mS) (hK : 0 < K) : fX11_machines_b69 K a b e i (nI 0) x = some (i, x) := by
  obtain ⟨K, rfl⟩ : ∃ k', K = k' + 1 := ⟨K - 1, by omega⟩
  rw [fX11_machines_b69, i00]
theorem ma_190 (K : Nat) (a b e i p : Int32) (x : mS) (hK : 0 < K) : fX11_machines_b190 (fun u0 u1 u2 u3 u4 u5 => fX11_machines_b69 K u0 u1 u2 u3 u4 u5) a b e i p x = some (i, x) := by
  unfold fX11_machines_b190 fX11_machines_b191 fX11_machines_b233
  rw [bnd_d, i00]
  exact ma_stop K a b e i x hK
theorem ma_110 (K : Nat) (a b e i : Int32) (x : mS) (hK : 0 < K) : fX11_machines_b110 (fun u0 u1 u2 u3 u4 u5 => fX11_machines_b69 K u0 u1 u2 u3 u4 u5) a b e i x = some (i, x) := by
  unfold fX11_machines_b110 fX11_machines_b111
  rw [bnd_d, bnd_d, i00]
  exact ma_190 K a b e i _ x hK
theorem ma_loop {j m P N : Nat} {f : Nat → Int32} (hP : P < 2147483648) (hN : N ≤ 8) : ∀ (r kf i : Nat) (c x : mS), i + r = N → r + 1 < kf → Rel c x → rR j m f c x → same (fX10_machines_b53 kf j (nI P) (nI N) (nI i) c) (fX11_machines_b69 kf (nI j) (nI P) (nI N) (nI i) (nI 1) x) := by
  intro r
  induction r with
  | zero =>
    intro kf i c x h1 h2 h hr
    obtain ⟨kf, rfl⟩ : ∃ k', kf = k' + 1 := ⟨kf - 1, by omega⟩
    have z : nI N ≤ nI i := (nLe (by omega) (by omega)).mpr (by omega)
    rw [fX10_machines_b53, fX11_machines_b69, i10, if_pos z, if_pos z]
    exact same_bad h
  | succ r ih =>
    intro kf i c x h1 h2 h hr
    obtain ⟨kf, rfl⟩ : ∃ k', kf = k' + 1 := ⟨kf - 1, by omega⟩
    obtain ⟨hj, hm, r1, r2, r3⟩ := id hr
    obtain ⟨⟨n, hn, n1, n2⟩, -⟩ := id h.1
    have z : ¬ nI N ≤ nI i := fun z => absurd ((nLe (by omega) (by omega)).mp z) (by omega)
    rw [fX10_machines_b53, fX11_machines_b69, i10, if_neg z, if_neg z, r1, ldA_n hj (by omega), r2, n2, ma_110 kf _ _ _ _ _ (by omega)]
    -- the test of the place
    have tst : (nI m - nI 3 - nI 3 * nI i < nI P) ↔ ¬ P + 3 * i + 3 ≤ m := by
      rw [Int32.lt_iff_toInt_lt, nM, Int32.toInt_sub, Int32.toInt_sub, nI_toInt (by omega), nI_toInt (by omega), nI_toInt (by omega), nI_toInt hP, Int.bmod_eq_of_le (n := (m : Int) - ((3 : Nat) : Int)) (by omega) (by omega), Int.bmod_eq_of_le (by omega) (by omega)]
      omega
    unfold fX6_isFull
    rw [n1]
    by_cases g : P + 3 * i + 3 ≤ m
    · rw [if_neg (fun z => absurd ((nLe (by omega) (by omega)).mp z) (by omega)), if_neg (fun z => tst.mp z g)]
      by_cases g1 : n < 8
      · rw [if_pos ((nLt (by omega) (by omega)).mpr g1), bO_s, i00, if_neg (fun z => absurd ((nLe (by omega) (by omega)).mp z) (by omega))]
        have psA : fX10_pullsStandAt j (nI P + nI 3 * nI i) c = fX10_pullsStandAt_b13 mFu j (nI (P + 3 * i)) (nI (P + 3 * i)) c := by
          unfold fX10_pullsStandAt
          rw [nM, nA, f_hasSpan, bO_s, b01_z, r1, if_neg (nor (nNeg (by omega)) (nor (nNeg (by omega)) (nor (fun z => absurd ((nLt (by omega) (by omega)).mp z) (by omega)) (fun z => by rw [nSb (by omega), nLt (by omega) (by omega)] at z; omega)))), bnd_d]
        unfold fX11_machines_b111
        rw [psA, bnd_d, bnd_d, bnd_d, i10]
        simp only [nM, nA]
        obtain ⟨t1, t2⟩ := ps_loop (p := P + 3 * i) (f := f) (j := j) (c := c) g hm (fun i hi => (r3 i hi).1) 3 mFu (P + 3 * i) (by omega) (by decide)
        rw [ldL_n (by omega) (by omega), ldL_n (by omega) (by omega), ldL_n (by omega) (by omega), ldL_n (by omega) (by omega), ldL_n (by omega) (by omega), ldL_n (by omega) (by omega), show 60 * j + P + 3 * i = 60 * j + (P + 3 * i) by omega, (r3 _ (by omega)).2, show 60 * j + (P + 3 * i) + 1 = 60 * j + (P + 3 * i + 1) by omega, (r3 _ (by omega)).2, show 60 * j + (P + 3 * i) + 2 = 60 * j + (P + 3 * i + 2) by omega, (r3 _ (by omega)).2, f_win _ 12 12 (by decide), bO_s, b01_z, f_win _ 12 12 (by decide), bO_s, b01_z, f_win _ 12 12 (by decide), bO_s, b01_z, ma_190 kf _ _ _ _ _ _ (by omega)]
        by_cases b0 : f (P + 3 * i) < 0 ∨ nI 12 < f (P + 3 * i)
        · rw [if_pos b0, t2 ⟨P + 3 * i, by omega, by omega, fun z => z b0⟩, bO_s, i00]; exact same_bad h
        by_cases b1 : f (P + 3 * i + 1) < 0 ∨ nI 12 < f (P + 3 * i + 1)
        · rw [if_neg b0, if_pos b1, t2 ⟨P + 3 * i + 1, by omega, by omega, fun z => z b1⟩, bO_s, i00]; exact same_bad h
        by_cases b2 : f (P + 3 * i + 2) < 0 ∨ nI 12 < f (P + 3 * i + 2)
        · rw [if_neg b0, if_neg b1, if_pos b2, t2 ⟨P + 3 * i + 2, by omega, by omega, fun z => z b2⟩, bO_s, i00]; exact same_bad h
        rw [if_neg b0, if_neg b1, if_neg b2, t1 (fun k k1 k2 => by
          rcases (show k = P + 3 * i ∨ k = P + 3 * i + 1 ∨ k = P + 3 * i + 2 by omega) with rfl | rfl | rfl
          · exact b0
          · exact b1
          · exact b2), bO_s, i10, (r3 _ (by omega)).1, (r3 _ (by omega)).1, (r3 _ (by omega)).1]
        unfold fX11_machines_b191 fX11_machines_b233
        obtain ⟨u0, hu0, e0⟩ := lo_hi (by omega) b0
        obtain ⟨u1, hu1, e1⟩ := lo_hi (by omega) b1
        obtain ⟨u2, hu2, e2⟩ := lo_hi (by omega) b2
        rw [bnd_d, i10, nA, nA, ldL_n (by omega) (by omega), ldL_n (by omega) (by omega), ldL_n (by omega) (by omega), (r3 _ (by omega)).2, show 60 * j + (P + 3 * i) + 1 = 60 * j + (P + 3 * i + 1) by omega, (r3 _ (by omega)).2, show 60 * j + (P + 3 * i) + 2 = 60 * j + (P + 3 * i + 2) by omega, (r3 _ (by omega)).2, Int32.toInt32_toInt64, Int32.toInt32_toInt64, Int32.toInt32_toInt64, e0, e1, e2]
        obtain ⟨c', x', q1, q2, q3, q4, q5, q6, q7, q8, q9⟩ := join_both h g1 n1 n2 hu0 hu1 hu2
        rw [q1, q2, bP_s, bO_s, bnd_d, bnd_d, nA]
        refine ih kf (i + 1) c' x' (by omega) (by omega) q3 ⟨hj, hm, ?_, ?_, fun k hk => ⟨?_, ?_⟩⟩
        · rw [q8 _ (by show 18 ≤ 19 + 3 * j; omega) (by show 19 + 3 * j ≤ 49; omega)]; exact r1
        · rw [q9 _ _ (by decide)]; exact r2
        · rw [q6]; exact (r3 k hk).1
        · rw [q7]; exact (r3 k hk).2
      · rw [if_neg (fun z => g1 ((nLt (by omega) (by omega)).mp z)), bO_s, i10, if_pos ((nLe (by omega) (by omega)).mpr (by omega))]
        exact same_bad h
    · rw [if_pos (tst.mpr g)]
      by_cases g1 : m ≤ P
      · rw [if_pos ((nLe (by omega) (by omega)).mpr g1)]; exact same_bad h
      rw [if_neg (fun z => g1 ((nLe (by omega) (by omega)).mp z))]
      by_cases g2 : n < 8
      · rw [if_pos ((nLt (by omega) (by omega)).mpr g2), bO_s, i00]
        unfold fX10_pullsStandAt
        rw [nM, nA, f_hasSpan, bO_s, b01_z, r1, if_pos, bO_s, i00]
        · exact same_bad h
        · by_cases g3 : m < 3
          · exact Or.inr (Or.inr (Or.inl ((nLt (by omega) (by omega)).mpr g3)))
          · refine Or.inr (Or.inr (Or.inr ?_))
            rw [nSb (by omega), nLt (by omega) (by omega)]
            omega
      · rw [if_neg (fun z => g2 ((nLt (by omega) (by omega)).mp z)), bO_s, i10]
        exact same_bad h
theorem z_machines {c x : mS} (h : Rel c x) (a b e : Int32) : same (fX10_machines a b e c) (fX11_machines a b e x) := by
  obtain ⟨-, -, -, -, -, -, h7, -⟩ := id h
  unfold fX10_machines fX11_machines
  rw [f_isShelf, f_isShelfX, bO_s, bO_s, b01_z, b01_z, show (1 : Int64) = Int32.toInt64 (nI 1) by decide, show (8 : Int64) = Int32.toInt64 (nI 8) by decide, f_within32, bO_s, b01_z]
  by_cases ha : a < 0 ∨ nI 6 ≤ a
  · rw [if_pos ha, if_pos ha]; exact same_bad h
  rw [if_neg ha, if_neg ha]
  by_cases he : e < nI 1 ∨ nI 8 < e
  · rw [if_pos he]
    by_cases g : e < nI 1
    · rw [if_pos g]; exact same_bad h
    · rw [if_neg g, if_neg (nLt_nle (he.elim (fun z => absurd z g) id))]; exact same_bad h
  rw [if_neg he, if_neg (fun z => he (Or.inl z)), if_pos (Int32.not_lt.mp (fun z => he (Or.inr z)))]
  obtain ⟨j, hj, rfl⟩ := sh_in ha
  have he0 : ¬ (e < 0 ∨ nI 8 < e) := nor (fun z => he (Or.inl (by
    rw [Int32.lt_iff_toInt_lt] at z ⊢
    have : (0 : Int32).toInt = 0 := by decide
    have : (nI 1).toInt = 1 := by decide
    omega))) (fun z => he (Or.inr z))
  obtain ⟨N, hN, rfl⟩ := lo_hi (by omega) he0
  obtain ⟨⟨m, hm, m1, m2⟩, s2, s3⟩ := h7 j hj
  unfold fX11_machines_b44 fX11_machines_b66 fX11_machines_b67
  rw [ldS_n hj (by omega), ldA_n hj (by omega), ldA_n hj (by omega), f_isEmpty, bO_s, b01_z]
  unfold fX7_isRowOf
  have em : ∀ v, fX11_machines_b69 mFu (nI j) b (nI N) v (nI 0) x = some (v, x) := fun v => ma_stop mFu _ _ _ _ _ (by decide)
  rcases s3 with ⟨q1, q2, q3⟩ | ⟨q1, n, g, q2, q3, q4, q5, q6⟩ | ⟨t', ht', q1, q2, q3, q4⟩
  · rw [q1, q2, q3, if_neg (by decide), if_pos (by decide), bnd_d, ldA_n hj (by omega), q3, if_neg (show ¬ (-1 : Int32) = nI 50 by decide), bnd_d, em]
    exact same_bad h
  · rw [q1, q5, q6, if_pos (fun z => neg1 (by omega) z.2), if_neg (nNeg (by omega)), if_neg (fun z => neg1 (k := 0) (by omega) z.symm), bO_s, i00, if_neg (nlit_ne (by omega) (by omega) (by omega))]
    exact same_bad h
  · rw [q1, q2, q3, if_pos (fun z => neg1 (k := t') (by omega) z.1), if_neg (nNeg (by omega))]
    by_cases e0 : t' = 0
    · subst e0
      rw [if_pos rfl, if_pos rfl, bO_s, i10, bnd_d, bnd_d, ldA_n hj (by omega), q3, if_pos rfl]
      have hr : rR j m (fun i => Int64.toInt32 (gL c (lS_cells j) i)) c x := by
        refine ⟨hj, hm, m1, m2, fun i hi => ?_⟩
        obtain ⟨v, hv⟩ := q4 (by omega) i hi
        show gL c (lS_cells j) i = Int32.toInt64 (Int64.toInt32 (gL c (lS_cells j) i)) ∧ gL x lX_items (60 * j + i) = Int32.toInt64 (Int64.toInt32 (gL c (lS_cells j) i))
        rw [s2 i hi, hv, Int32.toInt32_toInt64]
        exact ⟨rfl, rfl⟩
      by_cases hb : b < 0
      · rw [if_pos hb, bnd_d, em]
        have hN0 : ¬ nI N ≤ nI 0 := fun z => he (Or.inl (by
          have := (nLe (by omega) (by omega)).mp z
          obtain rfl : N = 0 := by omega
          decide))
        have hmb : ¬ nI m ≤ b := fun z => absurd hb (by
          have : (0 : Int32) ≤ nI m := nI_pos' (by omega)
          rw [Int32.le_iff_toInt_le] at z this
          rw [Int32.lt_iff_toInt_lt]
          omega)
        rw [mFu_s, fX10_machines_b53, if_neg hN0, m1, if_neg hmb]
        unfold fX6_isFull
        by_cases g : gI c (iM_size 0) < nI 8
        · rw [if_pos g, bO_s, i00]
          unfold fX10_pullsStandAt
          rw [show b + nI 3 * nI 0 = b by rw [show nI 3 * nI 0 = 0 by decide, Int32.add_zero], f_hasSpan, bO_s, b01_z, if_pos (Or.inl hb), bO_s, i00]
          exact same_bad h
        · rw [if_neg g, bO_s, i10]; exact same_bad h
      · rw [if_neg hb, bnd_d]
        obtain ⟨B1, B2⟩ := nOf hb
        generalize b.toNatClampNeg = B at B1 B2
        subst B1
        exact ma_loop B2 hN N mFu 0 c x (by omega) (show N + 1 < 6000 by omega) h hr
    · rw [if_neg (show ¬ nI t' = nI 0 from nlit_ne (by omega) (by omega) e0), bO_s, i00, if_neg (show ¬ nI (50 + t') = nI 50 from nlit_ne (by omega) (by omega) (by omega))]
      exact same_bad h
