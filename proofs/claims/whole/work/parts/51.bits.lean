-- bits of small numbers
theorem or_n (a b : Nat) : nI a ||| nI b = nI (a ||| b) := by
  apply Int32.toBitVec_inj.1
  apply BitVec.eq_of_toNat_eq
  show (BitVec.ofNat 32 a ||| BitVec.ofNat 32 b).toNat = (BitVec.ofNat 32 (a ||| b)).toNat
  rw [BitVec.toNat_or, BitVec.toNat_ofNat, BitVec.toNat_ofNat, BitVec.toNat_ofNat, Nat.or_mod_two_pow]
theorem and_n (a b : Nat) : nI a &&& nI b = nI (a &&& b) := by
  apply Int32.toBitVec_inj.1
  apply BitVec.eq_of_toNat_eq
  show (BitVec.ofNat 32 a &&& BitVec.ofNat 32 b).toNat = (BitVec.ofNat 32 (a &&& b)).toNat
  rw [BitVec.toNat_and, BitVec.toNat_ofNat, BitVec.toNat_ofNat, BitVec.toNat_ofNat, Nat.and_mod_two_pow]
theorem sh1_n : ∀ w, w < 9 → nI 1 <<< (nI w &&& 31) = nI (2 ^ w) := by decide
theorem shr_n : ∀ w, w < 8 → ∀ v, v < 256 → (nI v >>> (nI w &&& 31)) &&& nI 1 = nI (v / 2 ^ w % 2) := by decide +kernel
/-- how many of the eight bits are set -/
def popc (v : Nat) : Nat := v % 2 + v / 2 % 2 + v / 4 % 2 + v / 8 % 2 + v / 16 % 2 + v / 32 % 2 + v / 64 % 2 + v / 128 % 2
def bcE (x0 : Int32) : Int32 :=
  let v1 := x0 - (((Int32.toUInt32 x0 >>> (Int32.toUInt32 (nI 1) &&& Int32.toUInt32 31)).toInt32) &&& (nI 1431655765))
  let v2 := (v1 &&& (nI 858993459)) + (((Int32.toUInt32 v1 >>> (Int32.toUInt32 (nI 2) &&& Int32.toUInt32 31)).toInt32) &&& (nI 858993459))
  let v3 := (v2 + ((Int32.toUInt32 v2 >>> (Int32.toUInt32 (nI 4) &&& Int32.toUInt32 31)).toInt32)) &&& (nI 252645135)
  let v4 := v3 + ((Int32.toUInt32 v3 >>> (Int32.toUInt32 (nI 8) &&& Int32.toUInt32 31)).toInt32)
  let v5 := v4 + ((Int32.toUInt32 v4 >>> (Int32.toUInt32 (nI 16) &&& Int32.toUInt32 31)).toInt32)
  v5 &&& (nI 63)
theorem bcE_eq : ∀ v, v < 256 → bcE (nI v) = nI (popc v) := by decide +kernel
theorem bc_n {v : Nat} (hv : v < 256) (s : mS) : fJ6_bitCount_0f7a4 (nI v) s = some (nI (popc v)) := by
  rw [← bcE_eq v hv]
  rfl
def tzE (w : Nat) : Option Int32 := fJ6_numberOfTrailingZeros_0f7a4 (nI (2 ^ w)) (fun _ => 0, fun _ _ => 0, fun _ _ => 0)
theorem tzE_eq : ∀ w, w < 8 → tzE w = some (nI w) := by decide +kernel
theorem tz_n {w : Nat} (hw : w < 8) (s : mS) : fJ6_numberOfTrailingZeros_0f7a4 (nI (2 ^ w)) s = some (nI w) := tzE_eq w hw
theorem bo_n {v : Nat} (hv : v < 256) (s : mS) : fX11_bitsOf (nI v) s = some (nI (popc v)) := by
  unfold fX11_bitsOf
  rw [bnd_d, bnd_d]
  have st : ∀ (f i a : Nat), i < 8 → fX11_bitsOf_b4 (f + 1) (nI v) (nI a) (nI i) s = fX11_bitsOf_b4 f (nI v) (nI (a + v / 2 ^ i % 2)) (nI (i + 1)) s := by
    intro f i a hi
    rw [fX11_bitsOf_b4, if_neg (fun z => absurd ((nLe (by omega) (by omega)).mp z) (by omega)), shr_n i hi v hv, bnd_d, bnd_d, nA, nA]
  obtain ⟨f, hf⟩ : ∃ f, mFu = f + 9 := ⟨5991, rfl⟩
  rw [hf, st (f + 8) 0 0 (by omega), st (f + 7) 1 _ (by omega), st (f + 6) 2 _ (by omega), st (f + 5) 3 _ (by omega), st (f + 4) 4 _ (by omega), st (f + 3) 5 _ (by omega), st (f + 2) 6 _ (by omega), st (f + 1) 7 _ (by omega), fX11_bitsOf_b4, if_pos (show nI 8 ≤ nI (7 + 1) by decide)]
  unfold popc
  congr 2
  show 0 + v / 2 ^ 0 % 2 + v / 2 ^ 1 % 2 + v / 2 ^ 2 % 2 + v / 2 ^ 3 % 2 + v / 2 ^ 4 % 2 + v / 2 ^ 5 % 2 + v / 2 ^ 6 % 2 + v / 2 ^ 7 % 2 = _
  rw [show 2 ^ 0 = 1 by decide, show 2 ^ 1 = 2 by decide, show 2 ^ 2 = 4 by decide, show 2 ^ 3 = 8 by decide, show 2 ^ 4 = 16 by decide, show 2 ^ 5 = 32 by decide, show 2 ^ 6 = 64 by decide, show 2 ^ 7 = 128 by decide, Nat.div_one]
  omega
theorem popc_or : ∀ w, w < 8 → ∀ v, v < 2 ^ w → popc (v ||| 2 ^ w) = popc v + 1 ∧ v ||| 2 ^ w < 2 ^ (w + 1) := by decide +kernel
/-- a set of numbers below W, as bits -/
def msk (S : Nat → Bool) : Nat → Nat
  | 0 => 0
  | w + 1 => if S w then msk S w ||| 2 ^ w else msk S w
def cnt (S : Nat → Bool) : Nat → Nat
  | 0 => 0
  | w + 1 => cnt S w + if S w then 1 else 0
theorem msk_lt (S : Nat → Bool) : ∀ W, W ≤ 8 → msk S W < 2 ^ W ∧ popc (msk S W) = cnt S W := by
  intro W
  induction W with
  | zero => intro _; exact ⟨show 0 < 2 ^ 0 by decide, show popc 0 = 0 by decide⟩
  | succ W ih =>
    intro h
    obtain ⟨h1, h2⟩ := ih (by omega)
    unfold msk cnt
    by_cases g : S W = true
    · rw [if_pos g, if_pos g]
      obtain ⟨p1, p2⟩ := popc_or W (by omega) _ h1
      exact ⟨p2, by rw [p1, h2]⟩
    · rw [if_neg g, if_neg g]
      exact ⟨Nat.lt_of_lt_of_le h1 (Nat.pow_le_pow_right (by omega) (by omega)), h2⟩
theorem msk_256 (S : Nat → Bool) {W : Nat} (h : W ≤ 8) : msk S W < 256 := Nat.lt_of_lt_of_le (msk_lt S W h).1 (show 2 ^ W ≤ 2 ^ 8 from Nat.pow_le_pow_right (by omega) h)
theorem msk_bit (S : Nat → Bool) : ∀ W i, Nat.testBit (msk S W) i = (decide (i < W) && S i) := by
  intro W
  induction W with
  | zero => intro i; unfold msk; rw [Nat.zero_testBit, decide_eq_false (by omega)]; rfl
  | succ W ih =>
    intro i
    unfold msk
    by_cases g : S W = true
    · rw [if_pos g, Nat.testBit_or, ih, Nat.testBit_two_pow]
      by_cases e : i = W
      · subst e
        rw [decide_eq_true (show i = i from rfl), Bool.or_true, decide_eq_true (show i < i + 1 by omega), g]; rfl
      · rw [decide_eq_false (show ¬ W = i from fun z => e z.symm), Bool.or_false]
        by_cases l : i < W
        · rw [decide_eq_true l, decide_eq_true (show i < W + 1 by omega)]
        · rw [decide_eq_false l, decide_eq_false (show ¬ i < W + 1 by omega)]
    · rw [if_neg g, ih]
      by_cases e : i = W
      · subst e
        rw [decide_eq_false (show ¬ i < i by omega), decide_eq_true (show i < i + 1 by omega)]
        cases hS : S i
        · rfl
        · exact absurd hS g
      · by_cases l : i < W
        · rw [decide_eq_true l, decide_eq_true (show i < W + 1 by omega)]
        · rw [decide_eq_false l, decide_eq_false (show ¬ i < W + 1 by omega)]
theorem msk_or (S T : Nat → Bool) (W : Nat) : msk S W ||| msk T W = msk (fun i => S i || T i) W := by
  apply Nat.eq_of_testBit_eq
  intro i
  rw [Nat.testBit_or, msk_bit, msk_bit, msk_bit]
  cases decide (i < W) <;> rfl
theorem msk_add {S : Nat → Bool} {w : Nat} (hw : w < 8) : (if S w = true then nI (msk S w) ||| (nI 1 <<< (nI w &&& 31)) else nI (msk S w)) = nI (msk S (w + 1)) := by
  rw [sh1_n w (by omega), or_n]
  show _ = nI (if S w then msk S w ||| 2 ^ w else msk S w)
  by_cases g : S w = true
  · rw [if_pos g, if_pos g]
  · rw [if_neg g, if_neg g]
