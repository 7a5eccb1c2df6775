-- small methods, in closed form
def b01 (p : Prop) [Decidable p] : Int32 := if p then 0 else 1
theorem b01_z {p : Prop} [Decidable p] {β : Type} (a b : β) : (if b01 p = 0 then a else b) = if p then a else b := by
  unfold b01
  by_cases h : p
  · simp [h]
  · simp [h]
theorem rB_b01 {p : Prop} [Decidable p] {β : Type} (k : Option β) : rB (b01 p) k = k := by
  unfold b01
  by_cases h : p
  · simp [h, rB]
  · simp [h, rB]
theorem ite_or {p q : Prop} [Decidable p] [Decidable q] {β : Type} (a b : β) : (if p then a else if q then a else b) = if p ∨ q then a else b := by
  by_cases h : p <;> by_cases g : q <;> simp [h, g]
theorem ite2 {p q : Prop} [Decidable p] [Decidable q] : (if p then some 0 else if q then some 0 else some 1 : Option Int32) = some (b01 (p ∨ q)) := by
  unfold b01
  by_cases h : p <;> by_cases g : q <;> simp [h, g]
theorem ite2b {p q : Prop} [Decidable p] [Decidable q] : (if p then (if q then some 1 else some 0) else some 0 : Option Int32) = some (b01 (¬ (p ∧ q))) := by
  unfold b01
  by_cases h : p <;> by_cases g : q <;> simp [h, g]
theorem ite1 {p : Prop} [Decidable p] : (if p then some 0 else some 1 : Option Int32) = some (b01 p) := by
  unfold b01
  by_cases h : p <;> simp [h]
theorem ite1b {p : Prop} [Decidable p] : (if p then some 1 else some 0 : Option Int32) = some (b01 (¬ p)) := by
  unfold b01
  by_cases h : p <;> simp [h]
theorem f_within (x lo hi : Int64) (s : mS) : fX11_within x lo hi s = some (b01 (x < lo ∨ hi < x)) := by
  unfold fX11_within
  simp only [lcmp_lt, lcmp_gt]
  exact ite2
theorem f_within32 (x lo hi : Int32) (s : mS) : fX11_within x.toInt64 lo.toInt64 hi.toInt64 s = some (b01 (x < lo ∨ hi < x)) := by
  rw [f_within]
  simp only [b01, i2l_lt]
theorem dec_le {n : Nat} (hn : n ≤ 1000) (x : Int32) : (x < 0 ∨ nI n - nI 1 < x) ↔ (x < 0 ∨ nI n ≤ x) := by
  by_cases h : x < 0
  · simp [h]
  · obtain ⟨h1, h2⟩ := nOf h
    simp only [h, false_or]
    cases n with
    | zero =>
      refine ⟨fun _ => ?_, fun _ => ?_⟩
      · rw [nI_0]; exact Int32.not_lt.mp h
      · have : nI 0 - nI 1 = -1 := by decide
        rw [this]
        have h3 := Int32.not_lt.mp h
        rw [Int32.lt_iff_toInt_lt]
        rw [Int32.le_iff_toInt_le] at h3
        have h4 : (-1 : Int32).toInt = -1 := by decide
        have h5 : (0 : Int32).toInt = 0 := by decide
        omega
    | succ n =>
      rw [show nI (n + 1) - nI 1 = nI n from nI_pred n, h1, nLt (by omega) h2, nLe (by omega) h2]
      omega
theorem b01_iff {p q : Prop} [Decidable p] [Decidable q] (h : p ↔ q) : b01 p = b01 q := by
  unfold b01
  by_cases g : p
  · simp [g, h.mp g]
  · have : ¬ q := fun z => g (h.mpr z)
    simp [g, this]
theorem f_isMachine {x : mS} {n : Nat} (hn : n ≤ 8) (h : gI x iX_machines = nI n) (a : Int32) : fX11_isMachine a.toInt64 x = some (b01 (a < 0 ∨ nI n ≤ a)) := by
  unfold fX11_isMachine
  rw [h, show (0 : Int64) = Int32.toInt64 0 by decide, f_within32, bO_s, rB_b01, b01_iff (dec_le (by omega) a)]
theorem f_isWriter {x : mS} {n : Nat} (hn : n ≤ 8) (h : gI x iX_writers = nI n) (a : Int32) : fX11_isWriter a.toInt64 x = some (b01 (a < 0 ∨ nI n ≤ a)) := by
  unfold fX11_isWriter
  rw [h, show (0 : Int64) = Int32.toInt64 0 by decide, f_within32, bO_s, rB_b01, b01_iff (dec_le (by omega) a)]
theorem f_isBody {x : mS} {n : Nat} (hn : n ≤ 50) (h : gI x iX_bodies = nI n) (a : Int32) : fX11_isBody a x = some (b01 (a < 0 ∨ nI n ≤ a)) := by
  unfold fX11_isBody
  rw [h, show (0 : Int64) = Int32.toInt64 0 by decide, f_within32, bO_s, rB_b01, b01_iff (dec_le (by omega) a)]
theorem f_has6 (k : Nat) (a : Int32) (s : mS) : fX6_has k a s = some (b01 (a < 0 ∨ gI s (iM_size k) ≤ a)) := by
  exact ite2
theorem f_has9 (k : Nat) (a : Int32) (s : mS) : fX9_has k a s = some (b01 (a < 0 ∨ gI s (iW_size k) ≤ a)) := by
  exact ite2
theorem f_has3 (a : Int32) (s : mS) : fX3_has a s = some (b01 (a < 0 ∨ gI s iU_size ≤ a)) := by
  exact ite2
theorem le_pred {n : Nat} (hn : 0 < n) (h2 : n < 2147483648) (a : Int32) : (a < 0 ∨ nI (n - 1) < a) ↔ (a < 0 ∨ nI n ≤ a) := by
  by_cases h : a < 0
  · simp [h]
  · obtain ⟨h1, h3⟩ := nOf h
    simp only [h, false_or]
    rw [h1, nLt (by omega) h3, nLe (by omega) h3]
    omega
theorem f_isShelfX (a : Int32) (s : mS) : fX11_isShelf a s = some (b01 (a < 0 ∨ nI 6 ≤ a)) := by
  unfold fX11_isShelf
  rw [show (0 : Int64) = Int32.toInt64 0 by decide, show (5 : Int64) = Int32.toInt64 (nI 5) by decide, f_within32, bO_s, rB_b01, b01_iff (le_pred (n := 6) (by omega) (by omega) a)]
theorem f_isShelf (a : Int32) (s : mS) : fX10_isShelf a s = some (b01 (a < 0 ∨ nI 6 ≤ a)) := by
  exact ite2
theorem f_isCode (a : Int32) (s : mS) : fX2_isCode a s = some (b01 (a < 0 ∨ nI 2197 ≤ a)) := by
  exact ite2
theorem f_isCodeX (a : Int32) (s : mS) : fX11_isCode a.toInt64 s = some (b01 (a < 0 ∨ nI 2197 ≤ a)) := by
  unfold fX11_isCode
  rw [show (0 : Int64) = Int32.toInt64 0 by decide, show (2196 : Int64) = Int32.toInt64 (nI 2196) by decide, f_within32, bO_s, rB_b01, b01_iff (le_pred (n := 2197) (by omega) (by omega) a)]
theorem f_isEmpty (k : Nat) (s : mS) : fX7_isEmpty k s = some (b01 (¬ (gI s (iS_sort k) = -1 ∧ gI s (iS_ghost k) = -1))) := by
  exact ite2b
theorem f_isRow (k : Nat) (s : mS) : fX7_isRow k s = some (b01 (gI s (iS_sort k) = -1)) := by
  exact ite1
theorem f_isRowOf (k : Nat) (a : Int32) (s : mS) : fX7_isRowOf k a s = some (b01 (¬ gI s (iS_sort k) = a)) := by
  exact ite1b
/-- the answer of two calls, and the relation behind them -/
def same {α : Type} (o : Option (α × mS)) (p : Option (α × mS)) : Prop := ∃ r c x, o = some (r, c) ∧ p = some (r, x) ∧ Rel c x
def sameP {α : Type} (o : Option α) (p : Option α) : Prop := ∃ r, o = some r ∧ p = some r
/-- same at a range test of both -/
theorem same_bad {α : Type} {r : α} {c x : mS} (h : Rel c x) : same (some (r, c)) (some (r, x)) := ⟨r, c, x, rfl, rfl, h⟩
theorem sameP_self {α : Type} {o : Option α} (h : ∃ r, o = some r) : sameP o o := by
  obtain ⟨r, h⟩ := h
  exact ⟨r, h, h⟩
theorem z_count {c x : mS} (h : Rel c x) (a : Int32) : sameP (fX10_count a c) (fX11_count a x) := by
  obtain ⟨⟨⟨n, -, n1, n2⟩, ⟨w, -, w1, w2⟩, -⟩, ⟨d, k, -, -, d1, d2, -⟩, ⟨t, -, t1, t2, -⟩, -, -, ⟨⟨u, -, u1, u2, -⟩, q, -, q1, q2, -⟩, -, -⟩ := h
  unfold fX10_count fX11_count
  rw [n1, n2, w1, w2, d1, d2, t1, t2, u1, u2, q1, q2]
  apply sameP_self
  repeat' split
  all_goals exact ⟨_, rfl⟩
