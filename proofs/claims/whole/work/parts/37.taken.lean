/-- is kind a of kind b -/
def undr (a b : Nat) : Bool := ([0, 8, 9, 16, 18, 24, 26, 27, 32, 33, 36, 40, 42, 43, 45, 48, 54, 56, 57, 60, 63] : List Nat).contains (8 * a + b)
set_option maxRecDepth 20000 in
theorem under_c (k : Nat) (s : mS) : ∀ a b, a < 8 → b < 8 → fX3_isUnder_b4 (k + 10) (nI b) (nI a) (nI 0) s = some (if undr a b then nI 1 else nI 0) := by
  intro a b ha hb
  match a, b, ha, hb with
  | 0, 0, _, _ => rfl
  | 0, 1, _, _ => rfl
  | 0, 2, _, _ => rfl
  | 0, 3, _, _ => rfl
  | 0, 4, _, _ => rfl
  | 0, 5, _, _ => rfl
  | 0, 6, _, _ => rfl
  | 0, 7, _, _ => rfl
  | 1, 0, _, _ => rfl
  | 1, 1, _, _ => rfl
  | 1, 2, _, _ => rfl
  | 1, 3, _, _ => rfl
  | 1, 4, _, _ => rfl
  | 1, 5, _, _ => rfl
  | 1, 6, _, _ => rfl
  | 1, 7, _, _ => rfl
  | 2, 0, _, _ => rfl
  | 2, 1, _, _ => rfl
  | 2, 2, _, _ => rfl
  | 2, 3, _, _ => rfl
  | 2, 4, _, _ => rfl
  | 2, 5, _, _ => rfl
  | 2, 6, _, _ => rfl
  | 2, 7, _, _ => rfl
  | 3, 0, _, _ => rfl
  | 3, 1, _, _ => rfl
  | 3, 2, _, _ => rfl
  | 3, 3, _, _ => rfl
  | 3, 4, _, _ => rfl
  | 3, 5, _, _ => rfl
  | 3, 6, _, _ => rfl
  | 3, 7, _, _ => rfl
  | 4, 0, _, _ => rfl
  | 4, 1, _, _ => rfl
  | 4, 2, _, _ => rfl
  | 4, 3, _, _ => rfl
  | 4, 4, _, _ => rfl
  | 4, 5, _, _ => rfl
  | 4, 6, _, _ => rfl
  | 4, 7, _, _ => rfl
  | 5, 0, _, _ => rfl
  | 5, 1, _, _ => rfl
  | 5, 2, _, _ => rfl
  | 5, 3, _, _ => rfl
  | 5, 4, _, _ => rfl
  | 5, 5, _, _ => rfl
  | 5, 6, _, _ => rfl
  | 5, 7, _, _ => rfl
  | 6, 0, _, _ => rfl
  | 6, 1, _, _ => rfl
  | 6, 2, _, _ => rfl
  | 6, 3, _, _ => rfl
  | 6, 4, _, _ => rfl
  | 6, 5, _, _ => rfl
  | 6, 6, _, _ => rfl
  | 6, 7, _, _ => rfl
  | 7, 0, _, _ => rfl
  | 7, 1, _, _ => rfl
  | 7, 2, _, _ => rfl
  | 7, 3, _, _ => rfl
  | 7, 4, _, _ => rfl
  | 7, 5, _, _ => rfl
  | 7, 6, _, _ => rfl
  | 7, 7, _, _ => rfl
  | a + 8, b, ha, hb => omega
  | a, b + 8, ha, hb => omega
set_option maxRecDepth 20000 in
theorem under_x (k : Nat) (y : Int32) (s : mS) : ∀ a b, a < 8 → b < 8 → fX11_taken_b58 (k + 10) y (nI b) (nI a) s = if undr a b then (ldA s aX_shelf 6 y fun v8 => bO (fX11_kindOf v8 s) fun r9 => some r9) else some (-12) := by
  intro a b ha hb
  match a, b, ha, hb with
  | 0, 0, _, _ => rfl
  | 0, 1, _, _ => rfl
  | 0, 2, _, _ => rfl
  | 0, 3, _, _ => rfl
  | 0, 4, _, _ => rfl
  | 0, 5, _, _ => rfl
  | 0, 6, _, _ => rfl
  | 0, 7, _, _ => rfl
  | 1, 0, _, _ => rfl
  | 1, 1, _, _ => rfl
  | 1, 2, _, _ => rfl
  | 1, 3, _, _ => rfl
  | 1, 4, _, _ => rfl
  | 1, 5, _, _ => rfl
  | 1, 6, _, _ => rfl
  | 1, 7, _, _ => rfl
  | 2, 0, _, _ => rfl
  | 2, 1, _, _ => rfl
  | 2, 2, _, _ => rfl
  | 2, 3, _, _ => rfl
  | 2, 4, _, _ => rfl
  | 2, 5, _, _ => rfl
  | 2, 6, _, _ => rfl
  | 2, 7, _, _ => rfl
  | 3, 0, _, _ => rfl
  | 3, 1, _, _ => rfl
  | 3, 2, _, _ => rfl
  | 3, 3, _, _ => rfl
  | 3, 4, _, _ => rfl
  | 3, 5, _, _ => rfl
  | 3, 6, _, _ => rfl
  | 3, 7, _, _ => rfl
  | 4, 0, _, _ => rfl
  | 4, 1, _, _ => rfl
  | 4, 2, _, _ => rfl
  | 4, 3, _, _ => rfl
  | 4, 4, _, _ => rfl
  | 4, 5, _, _ => rfl
  | 4, 6, _, _ => rfl
  | 4, 7, _, _ => rfl
  | 5, 0, _, _ => rfl
  | 5, 1, _, _ => rfl
  | 5, 2, _, _ => rfl
  | 5, 3, _, _ => rfl
  | 5, 4, _, _ => rfl
  | 5, 5, _, _ => rfl
  | 5, 6, _, _ => rfl
  | 5, 7, _, _ => rfl
  | 6, 0, _, _ => rfl
  | 6, 1, _, _ => rfl
  | 6, 2, _, _ => rfl
  | 6, 3, _, _ => rfl
  | 6, 4, _, _ => rfl
  | 6, 5, _, _ => rfl
  | 6, 6, _, _ => rfl
  | 6, 7, _, _ => rfl
  | 7, 0, _, _ => rfl
  | 7, 1, _, _ => rfl
  | 7, 2, _, _ => rfl
  | 7, 3, _, _ => rfl
  | 7, 4, _, _ => rfl
  | 7, 5, _, _ => rfl
  | 7, 6, _, _ => rfl
  | 7, 7, _, _ => rfl
  | a + 8, b, ha, hb => omega
  | a, b + 8, ha, hb => omega
theorem z_taken {c x : mS} (h : Rel c x) (a b : Int32) : sameP (fX10_taken a b c) (fX11_taken a b x) := by
  unfold fX10_taken fX11_taken
  rw [f_isShelf, f_isShelfX, bO_s, bO_s, b01_z, b01_z]
  by_cases ha : a < 0 ∨ nI 6 ≤ a
  · rw [if_pos ha, if_pos ha]; exact ⟨_, rfl, rfl⟩
  rw [if_neg ha, if_neg ha, show (0 : Int64) = Int32.toInt64 0 by decide, show (7 : Int64) = Int32.toInt64 (nI 7) by decide, f_within32, bO_s, b01_z, iteC (le_pred (n := 8) (by omega) (by omega) b)]
  obtain ⟨j, hj, rfl⟩ := sh_in ha
  by_cases hb : b < 0
  · rw [if_pos hb, if_pos (Or.inl hb)]; exact ⟨_, rfl, rfl⟩
  rw [if_neg hb]
  by_cases hb2 : nI 8 ≤ b
  · rw [if_neg (Int32.not_lt.mpr hb2), if_pos (Or.inr hb2)]; exact ⟨_, rfl, rfl⟩
  rw [if_pos (Int32.not_le.mp hb2), if_neg (nor hb hb2), ldS_n hj (by omega), ldA_n hj (by omega), f_isEmpty, bO_s, b01_z]
  obtain ⟨u, hu, rfl⟩ := nOfLt hb hb2 (by omega)
  obtain ⟨-, -, -, -, -, ⟨⟨n, hn, n1, n2, n3⟩, -⟩, h7, -⟩ := h
  obtain ⟨-, -, s3⟩ := h7 j hj
  rcases s3 with ⟨p1, p2, p3⟩ | ⟨p1, n', g, p2, p3, p4, p5, p6⟩ | ⟨t, ht, p1, p2, p3, -⟩
  · rw [if_neg (fun z => z ⟨p1, p2⟩), p3, if_neg (show ¬ (0 : Int32) ≤ -1 by decide)]; exact ⟨_, rfl, rfl⟩
  · have hg : g < n := by
      rw [n1, nEq (by omega) (by omega)] at p2
      omega
    obtain ⟨q, hq, q1, q2⟩ := n3 g hg
    rw [if_pos (fun z => neg1 (k := g) (by omega) (by rw [← p5]; exact z.2)), p6, if_pos (nI_pos' (by omega)), f_isRow, bO_s, b01_z, if_pos p1, p5, f_has3, bO_s, b01_z, n1, if_neg (nor (nNeg (by omega)) (fun z => absurd ((nLe (by omega) (by omega)).mp z) (by omega))), ldA_n (by omega) (by omega), q1, ldA_n hj (by omega), p6, if_pos ((nLt (a := g) (b := 50) (by omega) (by omega)).mpr (by omega)), ldA_n hj (by omega), p6]
    unfold fX3_isUnder fX11_kindOf
    rw [ldA_n (by omega) (by omega), q1, ldA_n (by omega) (by omega), q2, bO_s, bnd_d, bnd_d, bnd_d, show mFu = 5990 + 10 from rfl, under_c 5990 c q u (by omega) hu, under_x 5990 (nI j) x q u (by omega) hu, bO_s]
    by_cases hz : undr q u = true
    · rw [if_pos hz, i10, if_pos hz, ldA_n hj (by omega), p6]
      unfold fX11_kindOf
      rw [ldA_n (by omega) (by omega), q2, bO_s]
      exact ⟨_, rfl, rfl⟩
    · rw [if_neg hz, i00, if_neg hz]
      exact ⟨_, rfl, rfl⟩
  · rw [if_pos (fun z => neg1 (k := t) (by omega) (by rw [← p1]; exact z.1)), p3, if_pos (nI_pos' (by omega)), f_isRow, bO_s, b01_z, if_neg (by rw [p1]; exact neg1 (by omega)), ldA_n hj (by omega), p3, if_neg (fun z => absurd ((nLt (a := 50 + t) (b := 50) (by omega) (by omega)).mp z) (by omega))]
    exact ⟨_, rfl, rfl⟩
