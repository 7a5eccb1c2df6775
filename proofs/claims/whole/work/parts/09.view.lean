-- the heap as a picture of numbers: ints, rows of ints, rows of longs, by their names (numbers)
abbrev mS : Type := (Nat → Int32) × (Nat → Nat → Int32) × (Nat → Nat → Int64)
def gI (s : mS) (k : Nat) : Int32 := s.1 k
def gA (s : mS) (k i : Nat) : Int32 := s.2.1 k i
def gL (s : mS) (k i : Nat) : Int64 := s.2.2 k i
def pI (s : mS) (k : Nat) (v : Int32) : mS := (va_up s.1 k v, s.2)
def wA (s : mS) (k : Nat) (g : Nat → Int32) : mS := (s.1, va_up s.2.1 k g, s.2.2)
def wL (s : mS) (k : Nat) (g : Nat → Int64) : mS := (s.1, s.2.1, va_up s.2.2 k g)
def pA (s : mS) (k i : Nat) (v : Int32) : mS := wA s k (upd (s.2.1 k) i v)
def pL (s : mS) (k i : Nat) (v : Int64) : mS := wL s k (vp_updL (s.2.2 k) i v)
/-- a cell's plan: an object (its class's number; each field a place or the number of an int), a row of ints, of longs (length, number), a row of places -/
abbrev mLE : Type := (Nat × List (Nat ⊕ Nat)) ⊕ ((Nat × Nat) ⊕ ((Nat × Nat) ⊕ List Nat))
def mFv (s : mS) (x : Nat ⊕ Nat) : Value := match x with
  | .inl j => .ref j
  | .inr k => .int (s.1 k)
def mCell (s : mS) (x : mLE) : mE := match x with
  | .inl (ci, fs) => .inr (ci, fs.map (mFv s))
  | .inr (.inl (n, k)) => .inl (n, .inl (s.2.1 k))
  | .inr (.inr (.inl (n, k))) => .inl (n, .inr (.inl (s.2.2 k)))
  | .inr (.inr (.inr js)) => .inl (js.length, .inr (.inr (.inr (.inr (fun i => js[i]?)))))
/-- a heap that pictures a state by a plan -/
def mView (L : Nat → Option mLE) (V : mS → List mE) : Prop :=
  (∀ q x s, L q = some x → (V s)[q]? = some (mCell s x)) ∧
  (∀ q ci fs (k id : Nat) s (v : Int32), L q = some (.inl (ci, fs)) → fs[k]? = some (.inr id) → (V s).set q (.inr (ci, (fs.map (mFv s)).set k (.int v))) = V (pI s id v)) ∧
  (∀ q n id s g, L q = some (.inr (.inl (n, id))) → (V s).set q (.inl (n, .inl g)) = V (wA s id g)) ∧
  (∀ q n id s g, L q = some (.inr (.inr (.inl (n, id)))) → (V s).set q (.inl (n, .inr (.inl g))) = V (wL s id g))
def bnd {α β : Type} (x : α) (k : α → β) : β := k x
def bO {α β : Type} (o : Option α) (k : α → Option β) : Option β := match o with
  | none => none
  | some x => k x
def bP {α β : Type} (o : Option (α × mS)) (k : α → mS → Option β) : Option β := match o with
  | none => none
  | some (x, s) => k x s
def ldA {β : Type} (s : mS) (id n : Nat) (i : Int32) (k : Int32 → Option β) : Option β := if i < 0 ∨ n ≤ i.toNatClampNeg then none else k (gA s id i.toNatClampNeg)
def ldR {β : Type} (f : Nat → Int32) (n : Nat) (i : Int32) (k : Int32 → Option β) : Option β := if i < 0 ∨ n ≤ i.toNatClampNeg then none else k (f i.toNatClampNeg)
def ldL {β : Type} (s : mS) (id n : Nat) (i : Int32) (k : Int64 → Option β) : Option β := if i < 0 ∨ n ≤ i.toNatClampNeg then none else k (gL s id i.toNatClampNeg)
def stA {β : Type} (s : mS) (id n : Nat) (i x : Int32) (k : mS → Option β) : Option β := if i < 0 ∨ n ≤ i.toNatClampNeg then none else k (pA s id i.toNatClampNeg x)
def stL {β : Type} (s : mS) (id n : Nat) (i : Int32) (x : Int64) (k : mS → Option β) : Option β := if i < 0 ∨ n ≤ i.toNatClampNeg then none else k (pL s id i.toNatClampNeg x)
def ldS {β : Type} (n : Nat) (i : Int32) (k : Nat → Option β) : Option β := if i < 0 ∨ n ≤ i.toNatClampNeg then none else k i.toNatClampNeg
def cpA {β : Type} (s : mS) (id0 n0 id1 n1 : Nat) (sp dp c : Int32) (k : mS → Option β) : Option β := if sp < 0 ∨ dp < 0 ∨ c < 0 ∨ n0 < sp.toNatClampNeg + c.toNatClampNeg ∨ n1 < dp.toNatClampNeg + c.toNatClampNeg then none else k (wA s id1 (va_cpy (s.2.1 id0) (s.2.1 id1) sp.toNatClampNeg dp.toNatClampNeg c.toNatClampNeg))
def cpL {β : Type} (s : mS) (id0 n0 id1 n1 : Nat) (sp dp c : Int32) (k : mS → Option β) : Option β := if sp < 0 ∨ dp < 0 ∨ c < 0 ∨ n0 < sp.toNatClampNeg + c.toNatClampNeg ∨ n1 < dp.toNatClampNeg + c.toNatClampNeg then none else k (wL s id1 (va_cpy (s.2.2 id0) (s.2.2 id1) sp.toNatClampNeg dp.toNatClampNeg c.toNatClampNeg))
def dvI {β : Type} (x y : Int32) (k : Int32 → Option β) : Option β := if y = 0 then none else k (x / y)
def rmI {β : Type} (x y : Int32) (k : Int32 → Option β) : Option β := if y = 0 then none else k (x - x / y * y)
/-- a boolean answer -/
def rB {β : Type} (x : Int32) (k : Option β) : Option β := if x = 0 ∨ x = 1 then k else none
/-- the fuel of a loop -/
def mFu : Nat := 6000
/-- some run of the small machine -/
def mG (ρ : mRo) (C : Nat → List Value → List mE → mPo → Prop) (o nL : Nat) (cc : ByteArray) (ret : Option FieldType) (P : mPo) (pc : Nat) (lv : mLv) (stk : List Value) (h : List mE) : Prop := ∃ n, mEv ρ C o nL cc ret P n pc lv stk h
section ROW
variable {ρ : mRo} {C : Nat → List Value → List mE → mPo → Prop} {o nL : Nat} {cc : ByteArray} {ret : Option FieldType} {P : mPo} {pc : Nat} {lv lv' : mLv} {r : List Value} {h : List mE} {β : Type} {res : β} {L : Nat → Option mLE} {V : mS → List mE} {s : mS}
theorem e_pick (ks : List Nat) (hl : lv_pick lv ks = lv') (k : mG ρ C o nL cc ret P pc lv' r h) : mG ρ C o nL cc ret P pc lv r h := by
  obtain ⟨n, k⟩ := k
  cases n with
  | zero => exact False.elim k
  | succ n =>
    obtain ⟨lv2, i, len, h1, h2, h3⟩ := k
    refine ⟨n + 1, lv2, i, len, fun q hq => ?_, h2, h3⟩
    have h4 := h1 q hq
    rw [← hl] at h4
    obtain ⟨i, -, h5⟩ := List.mem_filterMap.mp h4
    exact List.mem_of_getElem? h5
theorem e_iload_n (p : Nat) {k : Fin 4} {i : Nat} {x : Int32} (hd : decode cc pc = .ok (.iload_n k, 1)) (hi : (k : Nat) = i) (hp : lv[p]? = some (i, .int x)) (kk : mG ρ C o nL cc ret P (pc + 1) lv (.int x :: r) h) : mG ρ C o nL cc ret P pc lv r h := by
  obtain ⟨n, kk⟩ := kk
  subst hi
  exact ⟨n + 1, lv, _, _, fun _ z => z, hd, rfl, x, List.mem_of_getElem? hp, kk⟩
theorem e_iload (p : Nat) {i : Nat} {x : Int32} (hd : decode cc pc = .ok (.iload i, 2)) (hp : lv[p]? = some (i, .int x)) (kk : mG ρ C o nL cc ret P (pc + 2) lv (.int x :: r) h) : mG ρ C o nL cc ret P pc lv r h := by
  obtain ⟨n, kk⟩ := kk
  exact ⟨n + 1, lv, _, _, fun _ z => z, hd, rfl, x, List.mem_of_getElem? hp, kk⟩
theorem e_lload_n (p : Nat) {k : Fin 4} {i : Nat} {x : Int64} (hd : decode cc pc = .ok (.lload_n k, 1)) (hi : (k : Nat) = i) (hp : lv[p]? = some (i, .long x)) (kk : mG ρ C o nL cc ret P (pc + 1) lv (.long x :: r) h) : mG ρ C o nL cc ret P pc lv r h := by
  obtain ⟨n, kk⟩ := kk
  subst hi
  exact ⟨n + 1, lv, _, _, fun _ z => z, hd, rfl, x, List.mem_of_getElem? hp, kk⟩
theorem e_lload (p : Nat) {i : Nat} {x : Int64} (hd : decode cc pc = .ok (.lload i, 2)) (hp : lv[p]? = some (i, .long x)) (kk : mG ρ C o nL cc ret P (pc + 2) lv (.long x :: r) h) : mG ρ C o nL cc ret P pc lv r h := by
  obtain ⟨n, kk⟩ := kk
  exact ⟨n + 1, lv, _, _, fun _ z => z, hd, rfl, x, List.mem_of_getElem? hp, kk⟩
theorem e_aload_n (p : Nat) {k : Fin 4} {i : Nat} {x : Nat} (hd : decode cc pc = .ok (.aload_n k, 1)) (hi : (k : Nat) = i) (hp : lv[p]? = some (i, .ref x)) (kk : mG ρ C o nL cc ret P (pc + 1) lv (.ref x :: r) h) : mG ρ C o nL cc ret P pc lv r h := by
  obtain ⟨n, kk⟩ := kk
  subst hi
  exact ⟨n + 1, lv, _, _, fun _ z => z, hd, rfl, x, List.mem_of_getElem? hp, kk⟩
theorem e_aload (p : Nat) {i : Nat} {x : Nat} (hd : decode cc pc = .ok (.aload i, 2)) (hp : lv[p]? = some (i, .ref x)) (kk : mG ρ C o nL cc ret P (pc + 2) lv (.ref x :: r) h) : mG ρ C o nL cc ret P pc lv r h := by
  obtain ⟨n, kk⟩ := kk
  exact ⟨n + 1, lv, _, _, fun _ z => z, hd, rfl, x, List.mem_of_getElem? hp, kk⟩
theorem e_istore_n {k : Fin 4} {i : Nat} {x : Int32} {kf : Int32 → Option β} (hd : decode cc pc = .ok (.istore_n k, 1)) (hi : (k : Nat) = i) (hn : i < nL) (hf : bnd x kf = some res) (kk : ∀ y, kf y = some res → mG ρ C o nL cc ret P (pc + 1) (mPut lv i (.int y)) r h) : mG ρ C o nL cc ret P pc lv (.int x :: r) h := by
  obtain ⟨n, kk⟩ := kk x hf
  subst hi
  exact ⟨n + 1, lv, _, _, fun _ z => z, hd, rfl, hn, x, r, rfl, kk⟩
theorem e_istore {i : Nat} {x : Int32} {kf : Int32 → Option β} (hd : decode cc pc = .ok (.istore i, 2)) (hn : i < nL) (hf : bnd x kf = some res) (kk : ∀ y, kf y = some res → mG ρ C o nL cc ret P (pc + 2) (mPut lv i (.int y)) r h) : mG ρ C o nL cc ret P pc lv (.int x :: r) h := by
  obtain ⟨n, kk⟩ := kk x hf
  exact ⟨n + 1, lv, _, _, fun _ z => z, hd, rfl, hn, x, r, rfl, kk⟩
theorem e_lstore_n {k : Fin 4} {i : Nat} {x : Int64} {kf : Int64 → Option β} (hd : decode cc pc = .ok (.lstore_n k, 1)) (hi : (k : Nat) = i) (hn : i + 1 < nL) (hf : bnd x kf = some res) (kk : ∀ y, kf y = some res → mG ρ C o nL cc ret P (pc + 1) (mPut2 lv i (.long y)) r h) : mG ρ C o nL cc ret P pc lv (.long x :: r) h := by
  obtain ⟨n, kk⟩ := kk x hf
  subst hi
  exact ⟨n + 1, lv, _, _, fun _ z => z, hd, rfl, hn, x, r, rfl, kk⟩
theorem e_lstore {i : Nat} {x : Int64} {kf : Int64 → Option β} (hd : decode cc pc = .ok (.lstore i, 2)) (hn : i + 1 < nL) (hf : bnd x kf = some res) (kk : ∀ y, kf y = some res → mG ρ C o nL cc ret P (pc + 2) (mPut2 lv i (.long y)) r h) : mG ρ C o nL cc ret P pc lv (.long x :: r) h := by
  obtain ⟨n, kk⟩ := kk x hf
  exact ⟨n + 1, lv, _, _, fun _ z => z, hd, rfl, hn, x, r, rfl, kk⟩
theorem e_astore_n {k : Fin 4} {i : Nat} {x : Nat} (hd : decode cc pc = .ok (.astore_n k, 1)) (hi : (k : Nat) = i) (hn : i < nL) (kk : mG ρ C o nL cc ret P (pc + 1) (mPut lv i (.ref x)) r h) : mG ρ C o nL cc ret P pc lv (.ref x :: r) h := by
  obtain ⟨n, kk⟩ := kk
  subst hi
  exact ⟨n + 1, lv, _, _, fun _ z => z, hd, rfl, hn, x, r, rfl, kk⟩
theorem e_astore {i : Nat} {x : Nat} (hd : decode cc pc = .ok (.astore i, 2)) (hn : i < nL) (kk : mG ρ C o nL cc ret P (pc + 2) (mPut lv i (.ref x)) r h) : mG ρ C o nL cc ret P pc lv (.ref x :: r) h := by
  obtain ⟨n, kk⟩ := kk
  exact ⟨n + 1, lv, _, _, fun _ z => z, hd, rfl, hn, x, r, rfl, kk⟩
theorem e_iinc (p : Nat) {i : Nat} {x : Int32} {z : Int} {w : Int32} {kf : Int32 → Option β} (hd : decode cc pc = .ok (.iinc i z, 3)) (hz : Int32.ofInt z = w) (hp : lv[p]? = some (i, .int x)) (hf : bnd (x + w) kf = some res) (kk : ∀ y, kf y = some res → mG ρ C o nL cc ret P (pc + 3) (mPut lv i (.int y)) r h) : mG ρ C o nL cc ret P pc lv r h := by
  obtain ⟨n, kk⟩ := kk (x + w) hf
  subst hz
  exact ⟨n + 1, lv, _, _, fun _ z => z, hd, rfl, x, List.mem_of_getElem? hp, kk⟩
theorem e_iconst {z : Int} {w : Int32} (hd : decode cc pc = .ok (.iconst z, 1)) (hz : Int32.ofInt z = w) (kk : mG ρ C o nL cc ret P (pc + 1) lv (.int w :: r) h) : mG ρ C o nL cc ret P pc lv r h := by
  obtain ⟨n, kk⟩ := kk
  subst hz
  exact ⟨n + 1, lv, _, _, fun _ z => z, hd, rfl, kk⟩
theorem e_bipush {z : Int} {w : Int32} (hd : decode cc pc = .ok (.bipush z, 2)) (hz : (Int8.ofInt z).toInt32 = w) (kk : mG ρ C o nL cc ret P (pc + 2) lv (.int w :: r) h) : mG ρ C o nL cc ret P pc lv r h := by
  obtain ⟨n, kk⟩ := kk
  subst hz
  exact ⟨n + 1, lv, _, _, fun _ z => z, hd, rfl, kk⟩
theorem e_sipush {z : Int} {w : Int32} (hd : decode cc pc = .ok (.sipush z, 3)) (hz : (Int16.ofInt z).toInt32 = w) (kk : mG ρ C o nL cc ret P (pc + 3) lv (.int w :: r) h) : mG ρ C o nL cc ret P pc lv r h := by
  obtain ⟨n, kk⟩ := kk
  subst hz
  exact ⟨n + 1, lv, _, _, fun _ z => z, hd, rfl, kk⟩
theorem e_lconst {z : Fin 2} {w : Int64} (hd : decode cc pc = .ok (.lconst z, 1)) (hz : Int64.ofNat (z : Nat) = w) (kk : mG ρ C o nL cc ret P (pc + 1) lv (.long w :: r) h) : mG ρ C o nL cc ret P pc lv r h := by
  obtain ⟨n, kk⟩ := kk
  subst hz
  exact ⟨n + 1, lv, _, _, fun _ z => z, hd, rfl, kk⟩
theorem e_ldc {z : Nat} {w : Int32} (hd : decode cc pc = .ok (.ldc z, 2)) (hz : mLook (mCstT o) z = some w) (kk : mG ρ C o nL cc ret P (pc + 2) lv (.int w :: r) h) : mG ρ C o nL cc ret P pc lv r h := by
  obtain ⟨n, kk⟩ := kk
  exact ⟨n + 1, lv, _, _, fun _ z => z, hd, rfl, w, hz, kk⟩
theorem e_ldc_w {z : Nat} {w : Int32} (hd : decode cc pc = .ok (.ldc_w z, 3)) (hz : mLook (mCstT o) z = some w) (kk : mG ρ C o nL cc ret P (pc + 3) lv (.int w :: r) h) : mG ρ C o nL cc ret P pc lv r h := by
  obtain ⟨n, kk⟩ := kk
  exact ⟨n + 1, lv, _, _, fun _ z => z, hd, rfl, w, hz, kk⟩
theorem e_ldc2_w {z : Nat} {w : Int64} (hd : decode cc pc = .ok (.ldc2_w z, 3)) (hz : mLook (mCslT o) z = some w) (kk : mG ρ C o nL cc ret P (pc + 3) lv (.long w :: r) h) : mG ρ C o nL cc ret P pc lv r h := by
  obtain ⟨n, kk⟩ := kk
  exact ⟨n + 1, lv, _, _, fun _ z => z, hd, rfl, w, hz, kk⟩
theorem e_iadd {x y : Int32} (hd : decode cc pc = .ok (.iadd, 1)) (kk : mG ρ C o nL cc ret P (pc + 1) lv (.int (x + y) :: r) h) : mG ρ C o nL cc ret P pc lv (.int y :: .int x :: r) h := by
  obtain ⟨n, kk⟩ := kk
  exact ⟨n + 1, lv, _, _, fun _ z => z, hd, rfl, x, y, r, rfl, kk⟩
theorem e_isub {x y : Int32} (hd : decode cc pc = .ok (.isub, 1)) (kk : mG ρ C o nL cc ret P (pc + 1) lv (.int (x - y) :: r) h) : mG ρ C o nL cc ret P pc lv (.int y :: .int x :: r) h := by
  obtain ⟨n, kk⟩ := kk
  exact ⟨n + 1, lv, _, _, fun _ z => z, hd, rfl, x, y, r, rfl, kk⟩
theorem e_imul {x y : Int32} (hd : decode cc pc = .ok (.imul, 1)) (kk : mG ρ C o nL cc ret P (pc + 1) lv (.int (x * y) :: r) h) : mG ρ C o nL cc ret P pc lv (.int y :: .int x :: r) h := by
  obtain ⟨n, kk⟩ := kk
  exact ⟨n + 1, lv, _, _, fun _ z => z, hd, rfl, x, y, r, rfl, kk⟩
theorem e_iand {x y : Int32} (hd : decode cc pc = .ok (.iand, 1)) (kk : mG ρ C o nL cc ret P (pc + 1) lv (.int (x &&& y) :: r) h) : mG ρ C o nL cc ret P pc lv (.int y :: .int x :: r) h := by
  obtain ⟨n, kk⟩ := kk
  exact ⟨n + 1, lv, _, _, fun _ z => z, hd, rfl, x, y, r, rfl, kk⟩
theorem e_ior {x y : Int32} (hd : decode cc pc = .ok (.ior, 1)) (kk : mG ρ C o nL cc ret P (pc + 1) lv (.int (x ||| y) :: r) h) : mG ρ C o nL cc ret P pc lv (.int y :: .int x :: r) h := by
  obtain ⟨n, kk⟩ := kk
  exact ⟨n + 1, lv, _, _, fun _ z => z, hd, rfl, x, y, r, rfl, kk⟩
theorem e_ixor {x y : Int32} (hd : decode cc pc = .ok (.ixor, 1)) (kk : mG ρ C o nL cc ret P (pc + 1) lv (.int (x ^^^ y) :: r) h) : mG ρ C o nL cc ret P pc lv (.int y :: .int x :: r) h := by
  obtain ⟨n, kk⟩ := kk
  exact ⟨n + 1, lv, _, _, fun _ z => z, hd, rfl, x, y, r, rfl, kk⟩
theorem e_ishl {x y : Int32} (hd : decode cc pc = .ok (.ishl, 1)) (kk : mG ρ C o nL cc ret P (pc + 1) lv (.int (x <<< (y &&& 31)) :: r) h) : mG ρ C o nL cc ret P pc lv (.int y :: .int x :: r) h := by
  obtain ⟨n, kk⟩ := kk
  exact ⟨n + 1, lv, _, _, fun _ z => z, hd, rfl, x, y, r, rfl, kk⟩
theorem e_ishr {x y : Int32} (hd : decode cc pc = .ok (.ishr, 1)) (kk : mG ρ C o nL cc ret P (pc + 1) lv (.int (x >>> (y &&& 31)) :: r) h) : mG ρ C o nL cc ret P pc lv (.int y :: .int x :: r) h := by
  obtain ⟨n, kk⟩ := kk
  exact ⟨n + 1, lv, _, _, fun _ z => z, hd, rfl, x, y, r, rfl, kk⟩
theorem e_iushr {x y : Int32} (hd : decode cc pc = .ok (.iushr, 1)) (kk : mG ρ C o nL cc ret P (pc + 1) lv (.int ((x.toUInt32 >>> (y.toUInt32 &&& Int32.toUInt32 31)).toInt32) :: r) h) : mG ρ C o nL cc ret P pc lv (.int y :: .int x :: r) h := by
  obtain ⟨n, kk⟩ := kk
  exact ⟨n + 1, lv, _, _, fun _ z => z, hd, rfl, x, y, r, rfl, kk⟩
theorem e_land {x y : Int64} (hd : decode cc pc = .ok (.land, 1)) (kk : mG ρ C o nL cc ret P (pc + 1) lv (.long (x &&& y) :: r) h) : mG ρ C o nL cc ret P pc lv (.long y :: .long x :: r) h := by
  obtain ⟨n, kk⟩ := kk
  exact ⟨n + 1, lv, _, _, fun _ z => z, hd, rfl, x, y, r, rfl, kk⟩
theorem e_lor {x y : Int64} (hd : decode cc pc = .ok (.lor, 1)) (kk : mG ρ C o nL cc ret P (pc + 1) lv (.long (x ||| y) :: r) h) : mG ρ C o nL cc ret P pc lv (.long y :: .long x :: r) h := by
  obtain ⟨n, kk⟩ := kk
  exact ⟨n + 1, lv, _, _, fun _ z => z, hd, rfl, x, y, r, rfl, kk⟩
theorem e_lshl {x : Int64} {y : Int32} (hd : decode cc pc = .ok (.lshl, 1)) (kk : mG ρ C o nL cc ret P (pc + 1) lv (.long (x <<< (y.toInt64 &&& 63)) :: r) h) : mG ρ C o nL cc ret P pc lv (.int y :: .long x :: r) h := by
  obtain ⟨n, kk⟩ := kk
  exact ⟨n + 1, lv, _, _, fun _ z => z, hd, rfl, x, y, r, rfl, kk⟩
theorem e_lcmp {x y : Int64} (hd : decode cc pc = .ok (.lcmp, 1)) (kk : mG ρ C o nL cc ret P (pc + 1) lv (.int (lg_cmp x y) :: r) h) : mG ρ C o nL cc ret P pc lv (.long y :: .long x :: r) h := by
  obtain ⟨n, kk⟩ := kk
  exact ⟨n + 1, lv, _, _, fun _ z => z, hd, rfl, x, y, r, rfl, kk⟩
theorem e_idiv {x y : Int32} (hd : decode cc pc = .ok (.idiv, 1)) (h0 : ¬ y = 0) (kk : mG ρ C o nL cc ret P (pc + 1) lv (.int (x / y) :: r) h) : mG ρ C o nL cc ret P pc lv (.int y :: .int x :: r) h := by
  obtain ⟨n, kk⟩ := kk
  exact ⟨n + 1, lv, _, _, fun _ z => z, hd, rfl, x, y, r, rfl, h0, kk⟩
theorem e_irem {x y : Int32} (hd : decode cc pc = .ok (.irem, 1)) (h0 : ¬ y = 0) (kk : mG ρ C o nL cc ret P (pc + 1) lv (.int (x - x / y * y) :: r) h) : mG ρ C o nL cc ret P pc lv (.int y :: .int x :: r) h := by
  obtain ⟨n, kk⟩ := kk
  exact ⟨n + 1, lv, _, _, fun _ z => z, hd, rfl, x, y, r, rfl, h0, kk⟩
theorem e_idivb {x y : Int32} {kf : Int32 → Option β} (hd : decode cc pc = .ok (.idiv, 1)) (hf : dvI x y kf = some res) (kk : ∀ z, kf z = some res → mG ρ C o nL cc ret P (pc + 1) lv (.int z :: r) h) : mG ρ C o nL cc ret P pc lv (.int y :: .int x :: r) h := by
  unfold dvI at hf
  split at hf
  · cases hf
  · rename_i h0
    exact e_idiv hd h0 (kk _ hf)
theorem e_iremb {x y : Int32} {kf : Int32 → Option β} (hd : decode cc pc = .ok (.irem, 1)) (hf : rmI x y kf = some res) (kk : ∀ z, kf z = some res → mG ρ C o nL cc ret P (pc + 1) lv (.int z :: r) h) : mG ρ C o nL cc ret P pc lv (.int y :: .int x :: r) h := by
  unfold rmI at hf
  split at hf
  · cases hf
  · rename_i h0
    exact e_irem hd h0 (kk _ hf)
theorem e_ineg {x : Int32} (hd : decode cc pc = .ok (.ineg, 1)) (kk : mG ρ C o nL cc ret P (pc + 1) lv (.int (-x) :: r) h) : mG ρ C o nL cc ret P pc lv (.int x :: r) h := by
  obtain ⟨n, kk⟩ := kk
  exact ⟨n + 1, lv, _, _, fun _ z => z, hd, rfl, x, r, rfl, kk⟩
theorem e_i2l {x : Int32} (hd : decode cc pc = .ok (.i2l, 1)) (kk : mG ρ C o nL cc ret P (pc + 1) lv (.long (x.toInt64) :: r) h) : mG ρ C o nL cc ret P pc lv (.int x :: r) h := by
  obtain ⟨n, kk⟩ := kk
  exact ⟨n + 1, lv, _, _, fun _ z => z, hd, rfl, x, r, rfl, kk⟩
theorem e_l2i {x : Int64} (hd : decode cc pc = .ok (.l2i, 1)) (kk : mG ρ C o nL cc ret P (pc + 1) lv (.int (x.toInt32) :: r) h) : mG ρ C o nL cc ret P pc lv (.long x :: r) h := by
  obtain ⟨n, kk⟩ := kk
  exact ⟨n + 1, lv, _, _, fun _ z => z, hd, rfl, x, r, rfl, kk⟩
theorem e_i2b {x : Int32} (hd : decode cc pc = .ok (.i2b, 1)) (kk : mG ρ C o nL cc ret P (pc + 1) lv (.int (x.toInt8.toInt32) :: r) h) : mG ρ C o nL cc ret P pc lv (.int x :: r) h := by
  obtain ⟨n, kk⟩ := kk
  exact ⟨n + 1, lv, _, _, fun _ z => z, hd, rfl, x, r, rfl, kk⟩
theorem e_i2s {x : Int32} (hd : decode cc pc = .ok (.i2s, 1)) (kk : mG ρ C o nL cc ret P (pc + 1) lv (.int (x.toInt16.toInt32) :: r) h) : mG ρ C o nL cc ret P pc lv (.int x :: r) h := by
  obtain ⟨n, kk⟩ := kk
  exact ⟨n + 1, lv, _, _, fun _ z => z, hd, rfl, x, r, rfl, kk⟩
theorem e_dup {v : Value} (hd : decode cc pc = .ok (.dup, 1)) (hc : v.category = 1) (kk : mG ρ C o nL cc ret P (pc + 1) lv (v :: v :: r) h) : mG ρ C o nL cc ret P pc lv (v :: r) h := by
  obtain ⟨n, kk⟩ := kk
  exact ⟨n + 1, lv, _, _, fun _ z => z, hd, rfl, v, r, rfl, hc, kk⟩
theorem e_pop {v : Value} (hd : decode cc pc = .ok (.pop, 1)) (hc : v.category = 1) (kk : mG ρ C o nL cc ret P (pc + 1) lv r h) : mG ρ C o nL cc ret P pc lv (v :: r) h := by
  obtain ⟨n, kk⟩ := kk
  exact ⟨n + 1, lv, _, _, fun _ z => z, hd, rfl, v, r, rfl, hc, kk⟩
theorem e_dup2 {v w : Value} (hd : decode cc pc = .ok (.dup2, 1)) (hc : v.category = 1) (hc2 : w.category = 1) (kk : mG ρ C o nL cc ret P (pc + 1) lv (v :: w :: v :: w :: r) h) : mG ρ C o nL cc ret P pc lv (v :: w :: r) h := by
  obtain ⟨n, kk⟩ := kk
  exact ⟨n + 1, lv, _, _, fun _ z => z, hd, rfl, v, w, r, rfl, hc, hc2, kk⟩
theorem e_goto {off : Int} (tgt : Nat) (hd : decode cc pc = .ok (.goto off, 3)) (ht : (pc : Int) + off = (tgt : Int)) (kk : mG ρ C o nL cc ret P tgt lv r h) : mG ρ C o nL cc ret P pc lv r h := by
  obtain ⟨n, kk⟩ := kk
  exact ⟨n + 1, lv, _, _, fun _ z => z, hd, rfl, tgt, ht, kk⟩
theorem e_if_eq {x : Int32} {off : Int} (tgt : Nat) {fa fb : Option β} (hd : decode cc pc = .ok (.ifCond .eq off, 3)) (ht : (pc : Int) + off = (tgt : Int)) (hf : (if x = 0 then fa else fb) = some res) (k1 : fa = some res → mG ρ C o nL cc ret P tgt lv r h) (k2 : fb = some res → mG ρ C o nL cc ret P (pc + 3) lv r h) : mG ρ C o nL cc ret P pc lv (.int x :: r) h := by
  by_cases hc : x = 0
  · rw [if_pos hc] at hf
    obtain ⟨n, kk⟩ := k1 hf
    exact ⟨n + 1, lv, _, _, fun _ z => z, hd, rfl, x, r, tgt, rfl, ht, fun _ => kk, fun z => absurd hc z⟩
  · rw [if_neg hc] at hf
    obtain ⟨n, kk⟩ := k2 hf
    exact ⟨n + 1, lv, _, _, fun _ z => z, hd, rfl, x, r, tgt, rfl, ht, fun z => absurd z hc, fun _ => kk⟩
theorem e_if_ne {x : Int32} {off : Int} (tgt : Nat) {fa fb : Option β} (hd : decode cc pc = .ok (.ifCond .ne off, 3)) (ht : (pc : Int) + off = (tgt : Int)) (hf : (if x = 0 then fb else fa) = some res) (k1 : fa = some res → mG ρ C o nL cc ret P tgt lv r h) (k2 : fb = some res → mG ρ C o nL cc ret P (pc + 3) lv r h) : mG ρ C o nL cc ret P pc lv (.int x :: r) h := by
  by_cases hc : x = 0
  · rw [if_pos hc] at hf
    obtain ⟨n, kk⟩ := k2 hf
    exact ⟨n + 1, lv, _, _, fun _ z => z, hd, rfl, x, r, tgt, rfl, ht, fun z => absurd hc z, fun _ => kk⟩
  · rw [if_neg hc] at hf
    obtain ⟨n, kk⟩ := k1 hf
    exact ⟨n + 1, lv, _, _, fun _ z => z, hd, rfl, x, r, tgt, rfl, ht, fun _ => kk, fun z => absurd hc z⟩
theorem e_if_lt {x : Int32} {off : Int} (tgt : Nat) {fa fb : Option β} (hd : decode cc pc = .ok (.ifCond .lt off, 3)) (ht : (pc : Int) + off = (tgt : Int)) (hf : (if x < 0 then fa else fb) = some res) (k1 : fa = some res → mG ρ C o nL cc ret P tgt lv r h) (k2 : fb = some res → mG ρ C o nL cc ret P (pc + 3) lv r h) : mG ρ C o nL cc ret P pc lv (.int x :: r) h := by
  by_cases hc : x < 0
  · rw [if_pos hc] at hf
    obtain ⟨n, kk⟩ := k1 hf
    exact ⟨n + 1, lv, _, _, fun _ z => z, hd, rfl, x, r, tgt, rfl, ht, fun _ => kk, fun z => absurd hc z⟩
  · rw [if_neg hc] at hf
    obtain ⟨n, kk⟩ := k2 hf
    exact ⟨n + 1, lv, _, _, fun _ z => z, hd, rfl, x, r, tgt, rfl, ht, fun z => absurd z hc, fun _ => kk⟩
theorem e_if_ge {x : Int32} {off : Int} (tgt : Nat) {fa fb : Option β} (hd : decode cc pc = .ok (.ifCond .ge off, 3)) (ht : (pc : Int) + off = (tgt : Int)) (hf : (if 0 ≤ x then fa else fb) = some res) (k1 : fa = some res → mG ρ C o nL cc ret P tgt lv r h) (k2 : fb = some res → mG ρ C o nL cc ret P (pc + 3) lv r h) : mG ρ C o nL cc ret P pc lv (.int x :: r) h := by
  by_cases hc : 0 ≤ x
  · rw [if_pos hc] at hf
    obtain ⟨n, kk⟩ := k1 hf
    exact ⟨n + 1, lv, _, _, fun _ z => z, hd, rfl, x, r, tgt, rfl, ht, fun _ => kk, fun z => absurd hc z⟩
  · rw [if_neg hc] at hf
    obtain ⟨n, kk⟩ := k2 hf
    exact ⟨n + 1, lv, _, _, fun _ z => z, hd, rfl, x, r, tgt, rfl, ht, fun z => absurd z hc, fun _ => kk⟩
theorem e_if_gt {x : Int32} {off : Int} (tgt : Nat) {fa fb : Option β} (hd : decode cc pc = .ok (.ifCond .gt off, 3)) (ht : (pc : Int) + off = (tgt : Int)) (hf : (if 0 < x then fa else fb) = some res) (k1 : fa = some res → mG ρ C o nL cc ret P tgt lv r h) (k2 : fb = some res → mG ρ C o nL cc ret P (pc + 3) lv r h) : mG ρ C o nL cc ret P pc lv (.int x :: r) h := by
  by_cases hc : 0 < x
  · rw [if_pos hc] at hf
    obtain ⟨n, kk⟩ := k1 hf
    exact ⟨n + 1, lv, _, _, fun _ z => z, hd, rfl, x, r, tgt, rfl, ht, fun _ => kk, fun z => absurd hc z⟩
  · rw [if_neg hc] at hf
    obtain ⟨n, kk⟩ := k2 hf
    exact ⟨n + 1, lv, _, _, fun _ z => z, hd, rfl, x, r, tgt, rfl, ht, fun z => absurd z hc, fun _ => kk⟩
theorem e_if_le {x : Int32} {off : Int} (tgt : Nat) {fa fb : Option β} (hd : decode cc pc = .ok (.ifCond .le off, 3)) (ht : (pc : Int) + off = (tgt : Int)) (hf : (if x ≤ 0 then fa else fb) = some res) (k1 : fa = some res → mG ρ C o nL cc ret P tgt lv r h) (k2 : fb = some res → mG ρ C o nL cc ret P (pc + 3) lv r h) : mG ρ C o nL cc ret P pc lv (.int x :: r) h := by
  by_cases hc : x ≤ 0
  · rw [if_pos hc] at hf
    obtain ⟨n, kk⟩ := k1 hf
    exact ⟨n + 1, lv, _, _, fun _ z => z, hd, rfl, x, r, tgt, rfl, ht, fun _ => kk, fun z => absurd hc z⟩
  · rw [if_neg hc] at hf
    obtain ⟨n, kk⟩ := k2 hf
    exact ⟨n + 1, lv, _, _, fun _ z => z, hd, rfl, x, r, tgt, rfl, ht, fun z => absurd z hc, fun _ => kk⟩
theorem e_icmp_eq {x y : Int32} {off : Int} (tgt : Nat) {fa fb : Option β} (hd : decode cc pc = .ok (.if_icmp .eq off, 3)) (ht : (pc : Int) + off = (tgt : Int)) (hf : (if x = y then fa else fb) = some res) (k1 : fa = some res → mG ρ C o nL cc ret P tgt lv r h) (k2 : fb = some res → mG ρ C o nL cc ret P (pc + 3) lv r h) : mG ρ C o nL cc ret P pc lv (.int y :: .int x :: r) h := by
  by_cases hc : x = y
  · rw [if_pos hc] at hf
    obtain ⟨n, kk⟩ := k1 hf
    exact ⟨n + 1, lv, _, _, fun _ z => z, hd, rfl, x, y, r, tgt, rfl, ht, fun _ => kk, fun z => absurd hc z⟩
  · rw [if_neg hc] at hf
    obtain ⟨n, kk⟩ := k2 hf
    exact ⟨n + 1, lv, _, _, fun _ z => z, hd, rfl, x, y, r, tgt, rfl, ht, fun z => absurd z hc, fun _ => kk⟩
theorem e_icmp_ne {x y : Int32} {off : Int} (tgt : Nat) {fa fb : Option β} (hd : decode cc pc = .ok (.if_icmp .ne off, 3)) (ht : (pc : Int) + off = (tgt : Int)) (hf : (if x = y then fb else fa) = some res) (k1 : fa = some res → mG ρ C o nL cc ret P tgt lv r h) (k2 : fb = some res → mG ρ C o nL cc ret P (pc + 3) lv r h) : mG ρ C o nL cc ret P pc lv (.int y :: .int x :: r) h := by
  by_cases hc : x = y
  · rw [if_pos hc] at hf
    obtain ⟨n, kk⟩ := k2 hf
    exact ⟨n + 1, lv, _, _, fun _ z => z, hd, rfl, x, y, r, tgt, rfl, ht, fun z => absurd hc z, fun _ => kk⟩
  · rw [if_neg hc] at hf
    obtain ⟨n, kk⟩ := k1 hf
    exact ⟨n + 1, lv, _, _, fun _ z => z, hd, rfl, x, y, r, tgt, rfl, ht, fun _ => kk, fun z => absurd hc z⟩
theorem e_icmp_lt {x y : Int32} {off : Int} (tgt : Nat) {fa fb : Option β} (hd : decode cc pc = .ok (.if_icmp .lt off, 3)) (ht : (pc : Int) + off = (tgt : Int)) (hf : (if x < y then fa else fb) = some res) (k1 : fa = some res → mG ρ C o nL cc ret P tgt lv r h) (k2 : fb = some res → mG ρ C o nL cc ret P (pc + 3) lv r h) : mG ρ C o nL cc ret P pc lv (.int y :: .int x :: r) h := by
  by_cases hc : x < y
  · rw [if_pos hc] at hf
    obtain ⟨n, kk⟩ := k1 hf
    exact ⟨n + 1, lv, _, _, fun _ z => z, hd, rfl, x, y, r, tgt, rfl, ht, fun _ => kk, fun z => absurd hc z⟩
  · rw [if_neg hc] at hf
    obtain ⟨n, kk⟩ := k2 hf
    exact ⟨n + 1, lv, _, _, fun _ z => z, hd, rfl, x, y, r, tgt, rfl, ht, fun z => absurd z hc, fun _ => kk⟩
theorem e_icmp_ge {x y : Int32} {off : Int} (tgt : Nat) {fa fb : Option β} (hd : decode cc pc = .ok (.if_icmp .ge off, 3)) (ht : (pc : Int) + off = (tgt : Int)) (hf : (if y ≤ x then fa else fb) = some res) (k1 : fa = some res → mG ρ C o nL cc ret P tgt lv r h) (k2 : fb = some res → mG ρ C o nL cc ret P (pc + 3) lv r h) : mG ρ C o nL cc ret P pc lv (.int y :: .int x :: r) h := by
  by_cases hc : y ≤ x
  · rw [if_pos hc] at hf
    obtain ⟨n, kk⟩ := k1 hf
    exact ⟨n + 1, lv, _, _, fun _ z => z, hd, rfl, x, y, r, tgt, rfl, ht, fun _ => kk, fun z => absurd hc z⟩
  · rw [if_neg hc] at hf
    obtain ⟨n, kk⟩ := k2 hf
    exact ⟨n + 1, lv, _, _, fun _ z => z, hd, rfl, x, y, r, tgt, rfl, ht, fun z => absurd z hc, fun _ => kk⟩
theorem e_icmp_gt {x y : Int32} {off : Int} (tgt : Nat) {fa fb : Option β} (hd : decode cc pc = .ok (.if_icmp .gt off, 3)) (ht : (pc : Int) + off = (tgt : Int)) (hf : (if y < x then fa else fb) = some res) (k1 : fa = some res → mG ρ C o nL cc ret P tgt lv r h) (k2 : fb = some res → mG ρ C o nL cc ret P (pc + 3) lv r h) : mG ρ C o nL cc ret P pc lv (.int y :: .int x :: r) h := by
  by_cases hc : y < x
  · rw [if_pos hc] at hf
    obtain ⟨n, kk⟩ := k1 hf
    exact ⟨n + 1, lv, _, _, fun _ z => z, hd, rfl, x, y, r, tgt, rfl, ht, fun _ => kk, fun z => absurd hc z⟩
  · rw [if_neg hc] at hf
    obtain ⟨n, kk⟩ := k2 hf
    exact ⟨n + 1, lv, _, _, fun _ z => z, hd, rfl, x, y, r, tgt, rfl, ht, fun z => absurd z hc, fun _ => kk⟩
theorem e_icmp_le {x y : Int32} {off : Int} (tgt : Nat) {fa fb : Option β} (hd : decode cc pc = .ok (.if_icmp .le off, 3)) (ht : (pc : Int) + off = (tgt : Int)) (hf : (if x ≤ y then fa else fb) = some res) (k1 : fa = some res → mG ρ C o nL cc ret P tgt lv r h) (k2 : fb = some res → mG ρ C o nL cc ret P (pc + 3) lv r h) : mG ρ C o nL cc ret P pc lv (.int y :: .int x :: r) h := by
  by_cases hc : x ≤ y
  · rw [if_pos hc] at hf
    obtain ⟨n, kk⟩ := k1 hf
    exact ⟨n + 1, lv, _, _, fun _ z => z, hd, rfl, x, y, r, tgt, rfl, ht, fun _ => kk, fun z => absurd hc z⟩
  · rw [if_neg hc] at hf
    obtain ⟨n, kk⟩ := k2 hf
    exact ⟨n + 1, lv, _, _, fun _ z => z, hd, rfl, x, y, r, tgt, rfl, ht, fun z => absurd z hc, fun _ => kk⟩
theorem e_geti (hV : mView L V) {z q ci k id : Nat} {fs : List (Nat ⊕ Nat)} (hd : decode cc pc = .ok (.getfield z, 3)) (hz : mLook (mFldT o) z = some (ci, k)) (hq : L q = some (.inl (ci, fs))) (hk : fs[k]? = some (.inr id)) (kk : mG ρ C o nL cc ret P (pc + 3) lv (.int (gI s id) :: r) (V s)) : mG ρ C o nL cc ret P pc lv (.ref q :: r) (V s) := by
  obtain ⟨n, kk⟩ := kk
  exact ⟨n + 1, lv, _, _, fun _ z => z, hd, rfl, q, r, ci, k, _, .int (gI s id), rfl, hz, hV.1 q _ s hq, by rw [List.getElem?_map, hk]; rfl, kk⟩
theorem e_getr (hV : mView L V) {z q ci k j : Nat} {fs : List (Nat ⊕ Nat)} (hd : decode cc pc = .ok (.getfield z, 3)) (hz : mLook (mFldT o) z = some (ci, k)) (hq : L q = some (.inl (ci, fs))) (hk : fs[k]? = some (.inl j)) (kk : mG ρ C o nL cc ret P (pc + 3) lv (.ref j :: r) (V s)) : mG ρ C o nL cc ret P pc lv (.ref q :: r) (V s) := by
  obtain ⟨n, kk⟩ := kk
  exact ⟨n + 1, lv, _, _, fun _ z => z, hd, rfl, q, r, ci, k, _, .ref j, rfl, hz, hV.1 q _ s hq, by rw [List.getElem?_map, hk]; rfl, kk⟩
theorem e_puti (hV : mView L V) {z q ci k id : Nat} {x : Int32} {fs : List (Nat ⊕ Nat)} {cC : vw_C} {kf : mS → Option β} (hd : decode cc pc = .ok (.putfield z, 3)) (hz : mLook (mFldT o) z = some (ci, k)) (hc : vwCl[ci]? = some cC) (hfin : (cC.2.1 k).2.2.2 = false) (hty : (cC.2.1 k).2.2.1 = "I" ∨ ((cC.2.1 k).2.2.1 = "Z" ∧ (x = 0 ∨ x = 1))) (hq : L q = some (.inl (ci, fs))) (hk : fs[k]? = some (.inr id)) (hf : bnd (pI s id x) kf = some res) (kk : ∀ s', kf s' = some res → mG ρ C o nL cc ret P (pc + 3) lv r (V s')) : mG ρ C o nL cc ret P pc lv (.int x :: .ref q :: r) (V s) := by
  obtain ⟨n, kk⟩ := kk _ hf
  refine ⟨n + 1, lv, _, _, fun _ z => z, hd, rfl, x, q, r, ci, k, fs.map (mFv s), cC, rfl, hz, hc, hfin, hty, hV.1 q _ s hq, ?_, ?_⟩
  · rw [List.length_map]
    exact (List.getElem?_eq_some_iff.mp hk).1
  · rw [hV.2.1 q ci fs k id s x hq hk]
    exact kk
theorem e_iald (hV : mView L V) {q n id : Nat} {i : Int32} {kf : Int32 → Option β} (hd : decode cc pc = .ok (.iaload, 1)) (hq : L q = some (.inr (.inl (n, id)))) (hf : ldA s id n i kf = some res) (kk : ∀ v, kf v = some res → mG ρ C o nL cc ret P (pc + 1) lv (.int v :: r) (V s)) : mG ρ C o nL cc ret P pc lv (.int i :: .ref q :: r) (V s) := by
  unfold ldA at hf
  split at hf
  · cases hf
  · rename_i hin
    obtain ⟨n', kk⟩ := kk _ hf
    exact ⟨n' + 1, lv, _, _, fun _ z => z, hd, rfl, i, q, r, n, _, rfl, Or.inl (hV.1 q _ s hq), hin, kk⟩
theorem e_rald {q n : Nat} {f : Nat → Int32} {i : Int32} {kf : Int32 → Option β} (hd : decode cc pc = .ok (.iaload, 1)) (hq : ρ q = some (n, f)) (hf : ldR f n i kf = some res) (kk : ∀ v, kf v = some res → mG ρ C o nL cc ret P (pc + 1) lv (.int v :: r) h) : mG ρ C o nL cc ret P pc lv (.int i :: .ref q :: r) h := by
  unfold ldR at hf
  split at hf
  · cases hf
  · rename_i hin
    obtain ⟨n', kk⟩ := kk _ hf
    exact ⟨n' + 1, lv, _, _, fun _ z => z, hd, rfl, i, q, r, n, _, rfl, Or.inr hq, hin, kk⟩
theorem e_lald (hV : mView L V) {q n id : Nat} {i : Int32} {kf : Int64 → Option β} (hd : decode cc pc = .ok (.laload, 1)) (hq : L q = some (.inr (.inr (.inl (n, id))))) (hf : ldL s id n i kf = some res) (kk : ∀ v, kf v = some res → mG ρ C o nL cc ret P (pc + 1) lv (.long v :: r) (V s)) : mG ρ C o nL cc ret P pc lv (.int i :: .ref q :: r) (V s) := by
  unfold ldL at hf
  split at hf
  · cases hf
  · rename_i hin
    obtain ⟨n', kk⟩ := kk _ hf
    exact ⟨n' + 1, lv, _, _, fun _ z => z, hd, rfl, i, q, r, n, _, rfl, hV.1 q _ s hq, hin, kk⟩
theorem e_iast (hV : mView L V) {q n id : Nat} {i x : Int32} {kf : mS → Option β} (hd : decode cc pc = .ok (.iastore, 1)) (hq : L q = some (.inr (.inl (n, id)))) (hf : stA s id n i x kf = some res) (kk : ∀ s', kf s' = some res → mG ρ C o nL cc ret P (pc + 1) lv r (V s')) : mG ρ C o nL cc ret P pc lv (.int x :: .int i :: .ref q :: r) (V s) := by
  unfold stA at hf
  split at hf
  · cases hf
  · rename_i hin
    obtain ⟨n', kk⟩ := kk _ hf
    refine ⟨n' + 1, lv, _, _, fun _ z => z, hd, rfl, x, i, q, r, n, _, rfl, hV.1 q _ s hq, hin, ?_⟩
    rw [hV.2.2.1 q n id s _ hq]
    exact kk
theorem e_last (hV : mView L V) {q n id : Nat} {i : Int32} {x : Int64} {kf : mS → Option β} (hd : decode cc pc = .ok (.lastore, 1)) (hq : L q = some (.inr (.inr (.inl (n, id))))) (hf : stL s id n i x kf = some res) (kk : ∀ s', kf s' = some res → mG ρ C o nL cc ret P (pc + 1) lv r (V s')) : mG ρ C o nL cc ret P pc lv (.long x :: .int i :: .ref q :: r) (V s) := by
  unfold stL at hf
  split at hf
  · cases hf
  · rename_i hin
    obtain ⟨n', kk⟩ := kk _ hf
    refine ⟨n' + 1, lv, _, _, fun _ z => z, hd, rfl, x, i, q, r, n, _, rfl, hV.1 q _ s hq, hin, ?_⟩
    rw [hV.2.2.2 q n id s _ hq]
    exact kk
theorem e_aald (hV : mView L V) {q n : Nat} {js : List Nat} {pl : Nat → Nat} {i : Int32} {kf : Nat → Option β} (hd : decode cc pc = .ok (.aaload, 1)) (hq : L q = some (.inr (.inr (.inr js)))) (hn : js.length = n) (hj : ∀ j, j < n → js[j]? = some (pl j)) (hf : ldS n i kf = some res) (kk : ∀ j, j < n → kf j = some res → mG ρ C o nL cc ret P (pc + 1) lv (.ref (pl j) :: r) (V s)) : mG ρ C o nL cc ret P pc lv (.int i :: .ref q :: r) (V s) := by
  unfold ldS at hf
  split at hf
  · cases hf
  · rename_i hin
    subst hn
    have hlt : i.toNatClampNeg < js.length := Nat.not_le.mp fun z => hin (Or.inr z)
    obtain ⟨n', kk⟩ := kk _ hlt hf
    exact ⟨n' + 1, lv, _, _, fun _ z => z, hd, rfl, i, q, r, js.length, _, pl i.toNatClampNeg, rfl, hV.1 q _ s hq, hin, hj _ hlt, kk⟩
theorem e_alenI (hV : mView L V) {q n id : Nat} {w : Int32} (hd : decode cc pc = .ok (.arraylength, 1)) (hq : L q = some (.inr (.inl (n, id)))) (hw : Int32.ofNat n = w) (kk : mG ρ C o nL cc ret P (pc + 1) lv (.int w :: r) (V s)) : mG ρ C o nL cc ret P pc lv (.ref q :: r) (V s) := by
  obtain ⟨n', kk⟩ := kk
  subst hw
  exact ⟨n' + 1, lv, _, _, fun _ z => z, hd, rfl, q, r, n, rfl, Or.inl ⟨_, hV.1 q _ s hq⟩, kk⟩
theorem e_alenJ (hV : mView L V) {q n id : Nat} {w : Int32} (hd : decode cc pc = .ok (.arraylength, 1)) (hq : L q = some (.inr (.inr (.inl (n, id))))) (hw : Int32.ofNat n = w) (kk : mG ρ C o nL cc ret P (pc + 1) lv (.int w :: r) (V s)) : mG ρ C o nL cc ret P pc lv (.ref q :: r) (V s) := by
  obtain ⟨n', kk⟩ := kk
  subst hw
  exact ⟨n' + 1, lv, _, _, fun _ z => z, hd, rfl, q, r, n, rfl, Or.inr (Or.inl ⟨_, hV.1 q _ s hq⟩), kk⟩
theorem e_gets {z q : Nat} (hd : decode cc pc = .ok (.getstatic z, 3)) (hz : mStat o z = some q) (kk : mG ρ C o nL cc ret P (pc + 3) lv (.ref q :: r) h) : mG ρ C o nL cc ret P pc lv r h := by
  obtain ⟨n', kk⟩ := kk
  exact ⟨n' + 1, lv, _, _, fun _ z => z, hd, rfl, q, hz, kk⟩
theorem e_iret {x : Int32} (hd : decode cc pc = .ok (.ireturn, 1)) (hx : mRetOk ret x) (hP : P (some (.int x)) h) : mG ρ C o nL cc ret P pc lv [.int x] h := ⟨1, lv, _, _, fun _ z => z, hd, rfl, x, rfl, hx, hP⟩
theorem e_lret {x : Int64} (hd : decode cc pc = .ok (.lreturn, 1)) (hx : ret = some .long) (hP : P (some (.long x)) h) : mG ρ C o nL cc ret P pc lv [.long x] h := ⟨1, lv, _, _, fun _ z => z, hd, rfl, x, rfl, hx, hP⟩
theorem e_ret (hd : decode cc pc = .ok (.return_, 1)) (hx : ret = none) (hP : P none h) : mG ρ C o nL cc ret P pc lv [] h := ⟨1, lv, _, _, fun _ z => z, hd, rfl, rfl, hx, hP⟩
theorem e_abs {x : Int32} {z : Nat} (hd : decode cc pc = .ok (.invokestatic z, 3)) (hz : mLook (mMthT o) z = some 0) (hs : mSum r ≤ 8) (kk : mG ρ C o nL cc ret P (pc + 3) lv (.int (if 0 ≤ x then x else 0 - x) :: r) h) : mG ρ C o nL cc ret P pc lv (.int x :: r) h := by
  obtain ⟨n', kk⟩ := kk
  exact ⟨n' + 1, lv, _, _, fun _ z => z, hd, rfl, Or.inr (Or.inl ⟨0, hz, Or.inl ⟨rfl, x, r, rfl, hs, kk⟩⟩)⟩
theorem e_max {x y : Int32} {z : Nat} (hd : decode cc pc = .ok (.invokestatic z, 3)) (hz : mLook (mMthT o) z = some 1) (hs : mSum r ≤ 8) (kk : mG ρ C o nL cc ret P (pc + 3) lv (.int (if x < y then y else x) :: r) h) : mG ρ C o nL cc ret P pc lv (.int y :: .int x :: r) h := by
  obtain ⟨n', kk⟩ := kk
  exact ⟨n' + 1, lv, _, _, fun _ z => z, hd, rfl, Or.inr (Or.inl ⟨1, hz, Or.inr (Or.inl ⟨rfl, x, y, r, rfl, hs, kk⟩)⟩)⟩
theorem e_min {x y : Int32} {z : Nat} (hd : decode cc pc = .ok (.invokestatic z, 3)) (hz : mLook (mMthT o) z = some 2) (hs : mSum r ≤ 8) (kk : mG ρ C o nL cc ret P (pc + 3) lv (.int (if y < x then y else x) :: r) h) : mG ρ C o nL cc ret P pc lv (.int y :: .int x :: r) h := by
  obtain ⟨n', kk⟩ := kk
  exact ⟨n' + 1, lv, _, _, fun _ z => z, hd, rfl, Or.inr (Or.inl ⟨2, hz, Or.inr (Or.inr ⟨rfl, x, y, r, rfl, hs, kk⟩)⟩)⟩
theorem e_cpA (hV : mView L V) {z q0 q1 n0 n1 id0 id1 : Nat} {c dp sp : Int32} {kf : mS → Option β} (hd : decode cc pc = .ok (.invokestatic z, 3)) (hz : (o, z) ∈ mAcpT) (hs : mSum r ≤ 8) (hq0 : L q0 = some (.inr (.inl (n0, id0)))) (hq1 : L q1 = some (.inr (.inl (n1, id1)))) (hf : cpA s id0 n0 id1 n1 sp dp c kf = some res) (kk : ∀ s', kf s' = some res → mG ρ C o nL cc ret P (pc + 3) lv r (V s')) : mG ρ C o nL cc ret P pc lv (.int c :: .int dp :: .ref q1 :: .int sp :: .ref q0 :: r) (V s) := by
  unfold cpA at hf
  split at hf
  · cases hf
  · rename_i hin
    obtain ⟨n', kk⟩ := kk _ hf
    refine ⟨n' + 1, lv, _, _, fun _ z => z, hd, rfl, Or.inr (Or.inr ⟨hz, c, dp, sp, q0, q1, n0, n1, r, rfl, hs, fun g => hin (Or.inl g), fun g => hin (Or.inr (Or.inl g)), fun g => hin (Or.inr (Or.inr (Or.inl g))), Nat.not_lt.mp fun g => hin (Or.inr (Or.inr (Or.inr (Or.inl g)))), Nat.not_lt.mp fun g => hin (Or.inr (Or.inr (Or.inr (Or.inr g)))), Or.inl ⟨_, _, hV.1 q0 _ s hq0, hV.1 q1 _ s hq1, ?_⟩⟩)⟩
    rw [hV.2.2.1 q1 n1 id1 s _ hq1]
    exact kk
theorem e_cpL (hV : mView L V) {z q0 q1 n0 n1 id0 id1 : Nat} {c dp sp : Int32} {kf : mS → Option β} (hd : decode cc pc = .ok (.invokestatic z, 3)) (hz : (o, z) ∈ mAcpT) (hs : mSum r ≤ 8) (hq0 : L q0 = some (.inr (.inr (.inl (n0, id0))))) (hq1 : L q1 = some (.inr (.inr (.inl (n1, id1))))) (hf : cpL s id0 n0 id1 n1 sp dp c kf = some res) (kk : ∀ s', kf s' = some res → mG ρ C o nL cc ret P (pc + 3) lv r (V s')) : mG ρ C o nL cc ret P pc lv (.int c :: .int dp :: .ref q1 :: .int sp :: .ref q0 :: r) (V s) := by
  unfold cpL at hf
  split at hf
  · cases hf
  · rename_i hin
    obtain ⟨n', kk⟩ := kk _ hf
    refine ⟨n' + 1, lv, _, _, fun _ z => z, hd, rfl, Or.inr (Or.inr ⟨hz, c, dp, sp, q0, q1, n0, n1, r, rfl, hs, fun g => hin (Or.inl g), fun g => hin (Or.inr (Or.inl g)), fun g => hin (Or.inr (Or.inr (Or.inl g))), Nat.not_lt.mp fun g => hin (Or.inr (Or.inr (Or.inr (Or.inl g)))), Nat.not_lt.mp fun g => hin (Or.inr (Or.inr (Or.inr (Or.inr g)))), Or.inr ⟨_, _, hV.1 q0 _ s hq0, hV.1 q1 _ s hq1, ?_⟩⟩)⟩
    rw [hV.2.2.2 q1 n1 id1 s _ hq1]
    exact kk
end ROW
section ROWC
variable {ρ : mRo} {d o nL : Nat} {cc : ByteArray} {ret : Option FieldType} {P : mPo} {pc : Nat} {lv lv' : mLv} {r as : List Value} {h : List mE} {β : Type} {res : β} {L : Nat → Option mLE} {V : mS → List mE} {s : mS}
/-- a method of the small machine: from these arguments and heap, to this post -/
theorem e_callV (hV : mView L V) {z j q ci : Nat} {y : mRec} {fs : List (Nat ⊕ Nat)} {cC : vw_C} {stk : List Value} (hd : decode cc pc = .ok (.invokevirtual z, 3)) (hz : mLook (mCalT o) z = some j ∨ (o = 10 ∧ z = 351 ∧ j = 16)) (hy : mTab[j]? = some y) (hst : y.2.2.2.2.2.1 = false) (hn : as.length = y.2.2.2.2.2.2) (hstk : stk = as.reverse ++ .ref q :: r) (hs : mSum r ≤ 8) (hq : L q = some (.inl (ci, fs))) (hc : vwCl[ci]? = some cC) (hcn : cC.1 = y.2.1.cls) {v : Option Value} {s' : mS} (hC : ∀ Q : mPo, Q v (V s') → mC ρ d j (.ref q :: as) (V s) Q) (kk : mG ρ (mC ρ d) o nL cc ret P (pc + 3) lv (v.toList ++ r) (V s')) : mG ρ (mC ρ d) o nL cc ret P pc lv stk (V s) := by
  obtain ⟨n', kk⟩ := kk
  exact ⟨n' + 1, lv, _, _, fun _ z => z, hd, rfl, j, y, as, q, r, ci, _, cC, hz, hy, hst, hn, hstk, hs, hV.1 q _ s hq, hc, hcn, hC _ kk⟩
theorem e_callS {z j : Nat} {y : mRec} {stk : List Value} (hd : decode cc pc = .ok (.invokestatic z, 3)) (hz : mLook (mCalT o) z = some j) (hy : mTab[j]? = some y) (hst : y.2.2.2.2.2.1 = true) (hn : as.length = y.2.2.2.2.2.2) (hstk : stk = as.reverse ++ r) (hs : mSum r ≤ 8) {v : Option Value} {s' : mS} (hC : ∀ Q : mPo, Q v (V s') → mC ρ d j as (V s) Q) (kk : mG ρ (mC ρ d) o nL cc ret P (pc + 3) lv (v.toList ++ r) (V s')) : mG ρ (mC ρ d) o nL cc ret P pc lv stk (V s) := by
  obtain ⟨n', kk⟩ := kk
  exact ⟨n' + 1, lv, _, _, fun _ z => z, hd, rfl, Or.inl ⟨j, y, as, r, hz, hy, hst, hn, hstk, hs, hC _ kk⟩⟩
end ROWC
