-- numbers
theorem nA (a b : Nat) : nI a + nI b = nI (a + b) := (Int32.ofNat_add a b).symm
theorem nM (a b : Nat) : nI a * nI b = nI (a * b) := (Int32.ofNat_mul a b).symm
theorem nSb {a b : Nat} (h : b ≤ a) : nI a - nI b = nI (a - b) := by
  have h1 : nI (a - b) + nI b = nI a := by rw [nA, Nat.sub_add_cancel h]
  rw [← h1, Int32.add_sub_cancel]
theorem nLt {a b : Nat} (ha : a < 2147483648) (hb : b < 2147483648) : nI a < nI b ↔ a < b := by
  rw [Int32.lt_iff_toInt_lt, nI_toInt ha, nI_toInt hb]
  omega
theorem nLe {a b : Nat} (ha : a < 2147483648) (hb : b < 2147483648) : nI a ≤ nI b ↔ a ≤ b := by
  rw [Int32.le_iff_toInt_le, nI_toInt ha, nI_toInt hb]
  omega
theorem nEq {a b : Nat} (ha : a < 2147483648) (hb : b < 2147483648) : nI a = nI b ↔ a = b := by
  refine ⟨fun h => ?_, fun h => by rw [h]⟩
  have h1 := congrArg Int32.toInt h
  rw [nI_toInt ha, nI_toInt hb] at h1
  omega
theorem nOf {x : Int32} (h : ¬ x < 0) : x = nI x.toNatClampNeg ∧ x.toNatClampNeg < 2147483648 := by
  have h0 : (0 : Int) ≤ x.toInt := by
    have := Int32.not_lt.mp h
    simpa using Int32.le_iff_toInt_le.mp this
  have h1 : x.toInt < 2147483648 := Int32.toInt_lt x
  have h2 : ((x.toNatClampNeg : Nat) : Int) = x.toInt := by
    show ((x.toInt.toNat : Nat) : Int) = x.toInt
    omega
  have h3 : x.toNatClampNeg < 2147483648 := by omega
  refine ⟨Int32.toInt_inj.mp ?_, h3⟩
  rw [nI_toInt h3, h2]
theorem nOfLt {x : Int32} {n : Nat} (h : ¬ x < 0) (h2 : ¬ nI n ≤ x) (hn : n < 2147483648) : ∃ a, a < n ∧ x = nI a := by
  obtain ⟨h3, h4⟩ := nOf h
  refine ⟨x.toNatClampNeg, ?_, h3⟩
  rw [h3, nLe hn h4] at h2
  omega
theorem nOfLe {x : Int32} {n : Nat} (h : ¬ x < 0) (h2 : x ≤ nI n) (hn : n < 2147483648) : ∃ a, a ≤ n ∧ x = nI a := by
  obtain ⟨h3, h4⟩ := nOf h
  refine ⟨x.toNatClampNeg, ?_, h3⟩
  rw [h3, nLe h4 hn] at h2
  exact h2
theorem nNeg {a : Nat} (h : a < 2147483648) : ¬ nI a < 0 := nI_pos h
theorem nDiv {a b : Nat} (ha : a < 2147483648) (hb : b < 2147483648) : nI a / nI b = nI (a / b) := by
  have h2 : a / b ≤ a := Nat.div_le_self a b
  apply Int32.toInt_inj.mp
  rw [Int32.toInt_div, nI_toInt ha, nI_toInt hb, nI_toInt (by omega)]
  rw [show ((a : Int).tdiv (b : Int)) = ((a / b : Nat) : Int) from (Int.ofNat_tdiv a b).symm]
  generalize a / b = q at h2
  apply Int.bmod_eq_of_le <;> omega
theorem nRem {a b : Nat} (ha : a < 2147483648) (hb : b < 2147483648) : nI a - nI a / nI b * nI b = nI (a % b) := by
  rw [nDiv ha hb, nM, nSb (Nat.div_mul_le_self a b)]
  congr 1
  have := Nat.div_add_mod a b
  rw [Nat.mul_comm] at this
  omega
-- reads and writes at a number
theorem ldA_n {β : Type} {s : mS} {id n m : Nat} {k : Int32 → Option β} (h : m < n) (hn : n < 2147483648) : ldA s id n (nI m) k = k (gA s id m) := by
  unfold ldA
  rw [nI_clamp (by omega), if_neg (by intro z; rcases z with z | z; exact nI_pos (by omega) z; omega)]
theorem ldL_n {β : Type} {s : mS} {id n m : Nat} {k : Int64 → Option β} (h : m < n) (hn : n < 2147483648) : ldL s id n (nI m) k = k (gL s id m) := by
  unfold ldL
  rw [nI_clamp (by omega), if_neg (by intro z; rcases z with z | z; exact nI_pos (by omega) z; omega)]
theorem ldR_n {β : Type} {f : Nat → Int32} {n m : Nat} {k : Int32 → Option β} (h : m < n) (hn : n < 2147483648) : ldR f n (nI m) k = k (f m) := by
  unfold ldR
  rw [nI_clamp (by omega), if_neg (by intro z; rcases z with z | z; exact nI_pos (by omega) z; omega)]
theorem ldS_n {β : Type} {n m : Nat} {k : Nat → Option β} (h : m < n) (hn : n < 2147483648) : ldS n (nI m) k = k m := by
  unfold ldS
  rw [nI_clamp (by omega), if_neg (by intro z; rcases z with z | z; exact nI_pos (by omega) z; omega)]
theorem stA_n {β : Type} {s : mS} {id n m : Nat} {x : Int32} {k : mS → Option β} (h : m < n) (hn : n < 2147483648) : stA s id n (nI m) x k = k (pA s id m x) := by
  unfold stA
  rw [nI_clamp (by omega), if_neg (by intro z; rcases z with z | z; exact nI_pos (by omega) z; omega)]
theorem stL_n {β : Type} {s : mS} {id n m : Nat} {x : Int64} {k : mS → Option β} (h : m < n) (hn : n < 2147483648) : stL s id n (nI m) x k = k (pL s id m x) := by
  unfold stL
  rw [nI_clamp (by omega), if_neg (by intro z; rcases z with z | z; exact nI_pos (by omega) z; omega)]
theorem cpA_n {β : Type} {s : mS} {id0 n0 id1 n1 a b c : Nat} {k : mS → Option β} (h0 : a + c ≤ n0) (h1 : b + c ≤ n1) (hn0 : n0 < 2147483648) (hn1 : n1 < 2147483648) : cpA s id0 n0 id1 n1 (nI a) (nI b) (nI c) k = k (wA s id1 (va_cpy (s.2.1 id0) (s.2.1 id1) a b c)) := by
  unfold cpA
  rw [nI_clamp (n := a) (by omega), nI_clamp (n := b) (by omega), nI_clamp (n := c) (by omega), if_neg]
  intro z
  rcases z with z | z | z | z | z
  · exact nI_pos (by omega) z
  · exact nI_pos (by omega) z
  · exact nI_pos (by omega) z
  · omega
  · omega
theorem cpL_n {β : Type} {s : mS} {id0 n0 id1 n1 a b c : Nat} {k : mS → Option β} (h0 : a + c ≤ n0) (h1 : b + c ≤ n1) (hn0 : n0 < 2147483648) (hn1 : n1 < 2147483648) : cpL s id0 n0 id1 n1 (nI a) (nI b) (nI c) k = k (wL s id1 (va_cpy (s.2.2 id0) (s.2.2 id1) a b c)) := by
  unfold cpL
  rw [nI_clamp (n := a) (by omega), nI_clamp (n := b) (by omega), nI_clamp (n := c) (by omega), if_neg]
  intro z
  rcases z with z | z | z | z | z
  · exact nI_pos (by omega) z
  · exact nI_pos (by omega) z
  · exact nI_pos (by omega) z
  · omega
  · omega
-- the state
theorem gI_pI (s : mS) (k j : Nat) (v : Int32) : gI (pI s k v) j = if j = k then v else gI s j := rfl
theorem gA_pI (s : mS) (k j i : Nat) (v : Int32) : gA (pI s k v) j i = gA s j i := rfl
theorem gL_pI (s : mS) (k j i : Nat) (v : Int32) : gL (pI s k v) j i = gL s j i := rfl
theorem gI_wA (s : mS) (k j : Nat) (g : Nat → Int32) : gI (wA s k g) j = gI s j := rfl
theorem gL_wA (s : mS) (k j i : Nat) (g : Nat → Int32) : gL (wA s k g) j i = gL s j i := rfl
theorem gA_wA (s : mS) (k j i : Nat) (g : Nat → Int32) : gA (wA s k g) j i = if j = k then g i else gA s j i := by
  unfold gA wA va_up
  dsimp only
  split <;> rfl
theorem gI_pA (s : mS) (k m j : Nat) (v : Int32) : gI (pA s k m v) j = gI s j := rfl
theorem gL_pA (s : mS) (k m j i : Nat) (v : Int32) : gL (pA s k m v) j i = gL s j i := rfl
theorem gA_pA (s : mS) (k m j i : Nat) (v : Int32) : gA (pA s k m v) j i = if j = k ∧ i = m then v else gA s j i := by
  unfold pA
  rw [gA_wA]
  unfold upd
  by_cases h1 : j = k
  · subst h1
    by_cases h2 : i = m
    · simp [h2]
    · simp [h2]
      rfl
  · simp [h1]
theorem gI_wL (s : mS) (k j : Nat) (g : Nat → Int64) : gI (wL s k g) j = gI s j := rfl
theorem gA_wL (s : mS) (k j i : Nat) (g : Nat → Int64) : gA (wL s k g) j i = gA s j i := rfl
theorem gL_wL (s : mS) (k j i : Nat) (g : Nat → Int64) : gL (wL s k g) j i = if j = k then g i else gL s j i := by
  unfold gL wL va_up
  dsimp only
  split <;> rfl
theorem gI_pL (s : mS) (k m j : Nat) (v : Int64) : gI (pL s k m v) j = gI s j := rfl
theorem gA_pL (s : mS) (k m j i : Nat) (v : Int64) : gA (pL s k m v) j i = gA s j i := rfl
theorem gL_pL (s : mS) (k m j i : Nat) (v : Int64) : gL (pL s k m v) j i = if j = k ∧ i = m then v else gL s j i := by
  unfold pL
  rw [gL_wL]
  by_cases h1 : j = k
  · subst h1
    by_cases h2 : i = m
    · simp [h2, vp_updL]
    · simp [h2, vp_updL]
      rfl
  · simp [h1]
theorem cpy_at {α : Type} (f g : Nat → α) (sp dp n i : Nat) : va_cpy f g sp dp n i = if dp ≤ i ∧ i < dp + n then f (sp + (i - dp)) else g i := rfl
theorem gA_def (s : mS) (k i : Nat) : s.2.1 k i = gA s k i := rfl
theorem gL_def (s : mS) (k i : Nat) : s.2.2 k i = gL s k i := rfl
theorem gI_def (s : mS) (k : Nat) : s.1 k = gI s k := rfl
theorem bO_s {α β : Type} (x : α) (k : α → Option β) : bO (some x) k = k x := id rfl
theorem bP_s {α β : Type} (x : α) (s : mS) (k : α → mS → Option β) : bP (some (x, s)) k = k x s := id rfl
theorem bnd_d {α β : Type} (x : α) (k : α → β) : bnd x k = k x := id rfl
theorem mFu_s : mFu = 5999 + 1 := rfl
theorem rB_0 {β : Type} (k : Option β) : rB 0 k = k := rfl
theorem rB_1 {β : Type} (k : Option β) : rB 1 k = k := rfl
-- longs
theorem lcmp_lt {x y : Int64} : lg_cmp x y < 0 ↔ x < y := by
  unfold lg_cmp
  split
  · rename_i h
    refine ⟨fun z => absurd z (by decide), fun z => ?_⟩
    exact absurd z (Int64.not_lt.mpr (Int64.le_of_lt h))
  · split
    · rename_i h
      subst h
      exact ⟨fun z => absurd z (by decide), fun z => absurd z (Int64.lt_irrefl)⟩
    · rename_i h1 h2
      refine ⟨fun _ => ?_, fun _ => by decide⟩
      have h1 : ¬ y < x := h1
      rw [Int64.lt_iff_toInt_lt] at h1 ⊢
      have h3 : x.toInt ≠ y.toInt := fun z => h2 (Int64.toInt_inj.mp z)
      omega
theorem lcmp_gt {x y : Int64} : 0 < lg_cmp x y ↔ y < x := by
  unfold lg_cmp
  split
  · rename_i h
    exact ⟨fun _ => h, fun _ => by decide⟩
  · rename_i h
    split
    · exact ⟨fun z => absurd z (by decide), fun z => absurd z h⟩
    · exact ⟨fun z => absurd z (by decide), fun z => absurd z h⟩
theorem i2l_lt {x y : Int32} : x.toInt64 < y.toInt64 ↔ x < y := by
  rw [Int64.lt_iff_toInt_lt, Int32.lt_iff_toInt_lt, Int32.toInt_toInt64, Int32.toInt_toInt64]
