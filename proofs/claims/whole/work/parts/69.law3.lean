-- law: numbers, on both sides
theorem dig {B : Nat → Nat} {n : Nat} (hB : Bk B n) : ∀ (r k v a : Nat), k + r = 4 → v < 10 ^ k → a ≤ n → ∃ v' d, v' < 10000 ∧ a ≤ d ∧ d ≤ n ∧ (0 < r → isD (B a) → a < d) ∧ (∀ f c q, r < f → CS B n a q c → ∃ c1, fX8_readNumber_b4 f (nI v) (nI k) c = fX8_readNumber_b48 (nI v') c1 ∧ CS B n d q c1 ∧ ∀ q', FC q' c c1) ∧ (∀ R0 R1 R2 R3 R4 R5 f x o, r < f → Xa B n a o x → ∃ y, gX11_one_b176 R0 R1 R2 R3 R4 R5 f (nI v) (nI k) x = gX11_one_b229 R0 R1 R2 R3 R4 R5 (nI v') (nI (k + (d - a))) y ∧ Xa B n d o y ∧ FX x y) := by
  intro r
  induction r with
  | zero =>
    intro k v a hk hv ha
    obtain rfl : k = 4 := by omega
    refine ⟨v, a, by omega, Nat.le_refl a, ha, fun z => absurd z (by omega), fun f c q hf hc => ?_, fun R0 R1 R2 R3 R4 R5 f x o hf hx => ?_⟩
    · obtain ⟨f, rfl⟩ : ∃ f', f = f' + 1 := ⟨f - 1, by omega⟩
      rw [fX8_readNumber_b4, if_pos (show nI 4 ≤ nI 4 by decide)]
      exact ⟨c, rfl, hc, fun q' => FC.rf q' c⟩
    · obtain ⟨f, rfl⟩ : ∃ f', f = f' + 1 := ⟨f - 1, by omega⟩
      rw [gX11_one_b176, if_pos (show nI 4 ≤ nI 4 by decide), Nat.sub_self, Nat.add_zero]
      exact ⟨x, rfl, hx, FX.rf x⟩
  | succ r ih =>
    intro k v a hk hv ha
    have n4 : ¬ nI 4 ≤ nI k := fun z => absurd ((nLe (by omega) (by omega)).mp z) (by omega)
    have hk3 : 10 ^ k ≤ 1000 := show 10 ^ k ≤ 10 ^ 3 from Nat.pow_le_pow_right (by omega) (by omega)
    by_cases hd : 48 ≤ B a ∧ B a ≤ 57
    · have han : a < n := hB.lt (by omega)
      have hp : 10 ^ (k + 1) = 10 ^ k * 10 := Nat.pow_succ 10 k
      obtain ⟨v', d, i1, i2, i3, i4, i5, i6⟩ := ih (k + 1) (10 * v + B a - 48) (a + 1) (by omega) (by omega) (by omega)
      refine ⟨v', d, i1, by omega, i3, fun _ _ => by omega, fun f c q hf hc => ?_, fun R0 R1 R2 R3 R4 R5 f x o hf hx => ?_⟩
      · obtain ⟨f, rfl⟩ : ∃ f', f = f' + 1 := ⟨f - 1, by omega⟩
        obtain ⟨c1, j1, j2, j3⟩ := i5 f (pI c iP_at (nI (a + 1))) q (by omega) (hc.go han)
        rw [fX8_readNumber_b4, if_neg n4, nx_c hB hc, bO_s, isD_c (hB.le a), bO_s, if_pos hd, if_neg (show ¬ nI 1 = 0 by decide), bO_s, cb_lt (by omega), nM, nA, nSb (by omega), bnd_d, bnd_d, bnd_d, hc.2.2.2.1, nA, nA, j1]
        exact ⟨c1, rfl, j2, fun q' => (FC.at q' c _).tr (j3 q') (Nat.le_refl _)⟩
      · obtain ⟨f, rfl⟩ : ∃ f', f = f' + 1 := ⟨f - 1, by omega⟩
        obtain ⟨y, j1, j2, j3⟩ := i6 R0 R1 R2 R3 R4 R5 f (pI x iX_at (nI (a + 1))) o (by omega) (hx.go han)
        rw [gX11_one_b176, if_neg n4, hx.by hB, bO_s, xb_lt (by omega), if_neg (fun z => absurd ((nLt (by omega) (by omega)).mp z) (by omega)), bO_s, if_neg (fun z => absurd ((nLt (by omega) (by omega)).mp z) (by omega)), bO_s, nM, nA, nSb (by omega), bnd_d, bnd_d, bnd_d, hx.2.2.1, nA, nA, j1, show k + 1 + (d - (a + 1)) = k + (d - a) by omega]
        exact ⟨y, rfl, j2, ((FX.rf x).I _ (Or.inl rfl)).tr j3⟩
    · refine ⟨v, a, by omega, Nat.le_refl a, ha, fun _ z => absurd z hd, fun f c q hf hc => ?_, fun R0 R1 R2 R3 R4 R5 f x o hf hx => ?_⟩
      · obtain ⟨f, rfl⟩ : ∃ f', f = f' + 1 := ⟨f - 1, by omega⟩
        rw [fX8_readNumber_b4, if_neg n4, nx_c hB hc, bO_s, isD_c (hB.le a), bO_s, if_neg hd, if_pos nI_0]
        exact ⟨c, rfl, hc, fun q' => FC.rf q' c⟩
      · obtain ⟨f, rfl⟩ : ∃ f', f = f' + 1 := ⟨f - 1, by omega⟩
        rw [gX11_one_b176, if_neg n4, hx.by hB, bO_s, bO_s, Nat.sub_self, Nat.add_zero]
        by_cases lo : xb (B a) < nI 48
        · rw [if_pos lo]
          exact ⟨x, rfl, hx, FX.rf x⟩
        · have h5 : nI 57 < xb (B a) := by
            by_cases g : B a < 256
            · rw [xb_lt g, nLt (by omega) (by omega)] at lo
              rw [xb_lt g, nLt (by omega) (by omega)]
              omega
            · exfalso
              apply lo
              unfold xb
              rw [if_neg g]
              decide
          rw [if_neg lo, if_pos h5]
          exact ⟨x, rfl, hx, FX.rf x⟩
-- law: the class's reading
def cl (f l : Nat) (o : Int32) (c : mS) : Option (Int32 × mS) := if l = 6 then (sccX8_readLevel f).2 o c else (sccX8_readLevel f).1 (nI l) o c
def tl (f k l o n more : Nat) (c : mS) : Option (Int32 × mS) := gX8_readLevel_b41 (sccX8_readLevel f).1 (sccX8_readLevel f).2 k (nI l) (nI o) (if l = 2 then nI 1 else nI n) (nI more) c
def RC (B : Nat → Nat) (n q : Nat) (r : Option Ev) (d : Nat) (c : mS) (w : Int32) (c' : mS) : Prop := FC q c c' ∧ match r with
  | some e => w = nI 1 ∧ CS B n d (q + e.1.length) c' ∧ At (gA c' aP_steps) q e.1
  | none => w = nI 0 ∧ gI c' iP_at = nI d
def Cl (B : Nat → Nat) (n l o a : Nat) (r : Option Ev) (d : Nat) : Prop := ∀ f c q, (7 - l) + 7 * (6 - o) ≤ f → CS B n a q c → q ≤ a → ∃ w c', cl f l (nI o) c = some (w, c') ∧ RC B n q r d c w c'
def CT (B : Nat → Nat) (n l o : Nat) (e : Ev) (b : Nat) (r : Option Ev) (d : Nat) : Prop := ∀ f k c q more, (6 - l) + 7 * (6 - o) ≤ f → n - b < k → CS B n b (q + e.1.length) c → At (gA c aP_steps) q e.1 → q + e.1.length ≤ b → more ≤ b → (l = 2 → more = 0) → ∃ w c', tl f k l o n more c = some (w, c') ∧ RC B n q r d c w c'
theorem cl_s (f : Nat) {l o n : Nat} (hl : l < 5) (c : mS) : cl (f + 1) l (nI o) c = bP (cl f (l + 1) (nI o) c) fun r s => if r = 0 then some (nI 0, s) else gX8_readLevel_b41 (sccX8_readLevel f).1 (sccX8_readLevel f).2 mFu (nI l) (nI o) (if l = 2 then nI 1 else gI s iP_size) (nI 0) s := by
  unfold cl
  rw [if_neg (by omega), if_neg (by omega)]
  show gX8_readLevel (sccX8_readLevel f).1 (sccX8_readLevel f).2 (nI l) (nI o) c = _
  unfold gX8_readLevel
  rw [if_pos ((nLt (by omega) (by omega)).mpr hl), nA]
  refine congrArg (bP _) (funext fun r => funext fun s => ?_)
  by_cases h : r = 0
  · rw [if_pos h, if_pos h]
  · rw [if_neg h, if_neg h]
    unfold gX8_readLevel_b37
    by_cases g : l = 2
    · rw [if_pos g, if_pos (by rw [g]), bnd_d, bnd_d]
    · rw [if_neg g, if_neg (nlit_ne (by omega) (by omega) g), bnd_d, bnd_d]
theorem cl_5 (f : Nat) (o : Int32) (c : mS) : cl (f + 1) 5 o c = bP (cl f 6 o c) fun r s => rB r (some (r, s)) := by
  unfold cl
  rw [if_neg (by omega), if_pos rfl]
  show gX8_readLevel (sccX8_readLevel f).1 (sccX8_readLevel f).2 (nI 5) o c = _
  unfold gX8_readLevel
  rw [if_neg (show ¬ nI 5 < nI 5 by decide)]
theorem cl_6 (f : Nat) (o : Int32) (c : mS) : cl (f + 1) 6 o c = gX8_readOperand (sccX8_readLevel f).1 (sccX8_readLevel f).2 o c := rfl
theorem cl_up {B : Nat → Nat} {n o a d : Nat} {r : Option Ev} (h : Cl B n 6 o a r d) : Cl B n 5 o a r d := by
  intro f c q hf hc hq
  obtain ⟨f, rfl⟩ : ∃ f', f = f' + 1 := ⟨f - 1, by omega⟩
  obtain ⟨w, c', e1, e2, e3⟩ := h f c q (by omega) hc hq
  rw [cl_5, e1, bP_s]
  refine ⟨w, c', ?_, e2, e3⟩
  cases r with
  | none => rw [e3.1]; exact rB_0 _
  | some e => rw [e3.1]; exact rB_1 _
theorem cl_levf {B : Nat → Nat} {n l o a b : Nat} (hl : l < 5) (h : Cl B n (l + 1) o a none b) : Cl B n l o a none b := by
  intro f c q hf hc hq
  obtain ⟨f, rfl⟩ : ∃ f', f = f' + 1 := ⟨f - 1, by omega⟩
  obtain ⟨w, c', e1, e2, e3, e4⟩ := h f c q (by omega) hc hq
  rw [cl_s (n := n) f hl, e1, bP_s, e3, if_pos nI_0]
  exact ⟨_, c', rfl, e2, rfl, e4⟩
theorem cl_lev {B : Nat → Nat} {n l o a b d : Nat} {e : Ev} {r : Option Ev} (hB : Bk B n) (hl : l < 5) (h : Cl B n (l + 1) o a (some e) b) (hb : a < b) (he : e.1.length ≤ b - a) (g : CT B n l o e b r d) : Cl B n l o a r d := by
  intro f c q hf hc hq
  obtain ⟨f, rfl⟩ : ∃ f', f = f' + 1 := ⟨f - 1, by omega⟩
  obtain ⟨w, c', e1, e2, e3, e4, e5⟩ := h f c q (by omega) hc hq
  obtain ⟨w', c'', d1, d2, d3⟩ := g f mFu c' q 0 (by omega) (show n - b < 6000 by have := hB.1; omega) e4 e5 (by omega) (by omega) (fun _ => rfl)
  rw [cl_s (n := n) f hl, e1, bP_s, e3, if_neg (show ¬ nI 1 = 0 by decide), e4.1]
  exact ⟨w', c'', d1, e2.tr d2 (Nat.le_refl q), d3⟩
theorem ct_stop {B : Nat → Nat} {n l o b : Nat} {e : Ev} (hB : Bk B n) (hl : l < 5) (hs : lvl (B b) ≠ l) : CT B n l o e b (some e) b := by
  intro f k c q more hf hk hc ha hq hm h2
  obtain ⟨k, rfl⟩ : ∃ k', k = k' + 1 := ⟨k - 1, by omega⟩
  refine ⟨nI 1, c, ?_, FC.rf q c, rfl, hc, ha⟩
  unfold tl
  rw [gX8_readLevel_b41, nx_c hB hc, bO_s, lev_c (hB.le b), bO_s]
  have ne : ¬ (if lvl (B b) = 9 then -1 else nI (lvl (B b))) = nI l := by
    have hle : lvl (B b) ≤ 9 := by
      unfold lvl
      repeat' split
      all_goals omega
    by_cases g : lvl (B b) = 9
    · rw [if_pos g]; exact nneg1 (by omega)
    · rw [if_neg g]; exact nlit_ne (by omega) (by omega) hs
  rw [if_neg ne, ite_self]
theorem tl_y {B : Nat → Nat} {n l o b q f k more : Nat} {c : mS} (hB : Bk B n) (hl : l < 5) (hc : CS B n b q c) (hs : lvl (B b) = l) (hb : b < n) (hm : more ≤ b) (h2 : l = 2 → more = 0) : tl f (k + 1) l o n more c = bP (cl f (l + 1) (nI o) (pI c iP_at (nI (b + 1)))) fun r s => if r = 0 then some (nI 0, s) else bO (fX8_addStep (-nI (B b)) s) fun s' => tl f k l o n (more + 1) s' := by
  have hn := hB.1
  have e1 : ¬ (if l = 2 then nI 1 else nI n) ≤ nI more := by
    by_cases g : l = 2
    · rw [if_pos g, h2 g]; decide
    · rw [if_neg g]; exact fun z => absurd ((nLe (by omega) (by omega)).mp z) (by omega)
  unfold tl
  rw [gX8_readLevel_b41, if_neg e1, nx_c hB hc, bO_s, lev_c (hB.le b), bO_s, hs, if_neg (show ¬ l = 9 by omega), if_pos rfl, bO_s, bnd_d, cb_lt (hB.2.1 b hb), bnd_d, hc.2.2.2.1, nA, nA]
  unfold cl
  rw [if_neg (show ¬ l + 1 = 6 by omega)]
  refine congrArg (bP _) (funext fun r => funext fun s => ?_)
  by_cases h : r = 0
  · rw [if_pos h, if_pos h]
  · rw [if_neg h, if_neg h]
    refine congrArg (bO _) (funext fun s' => ?_)
    rw [bnd_d, nA]
theorem ct_f {B : Nat → Nat} {n l o b d : Nat} {e : Ev} (hB : Bk B n) (hl : l < 5) (hs : lvl (B b) = l) (hb : b < n) (h : Cl B n (l + 1) o (b + 1) none d) : CT B n l o e b none d := by
  intro f k c q more hf hk hc ha hq hm h2
  obtain ⟨k, rfl⟩ : ∃ k', k = k' + 1 := ⟨k - 1, by omega⟩
  obtain ⟨w, c', e1, e2, e3, e4⟩ := h f _ _ (by omega) (hc.go hb) (by omega)
  rw [tl_y hB hl hc hs hb hm h2, e1, bP_s, e3, if_pos nI_0]
  exact ⟨_, c', rfl, (FC.at q c _).tr e2 (by omega), rfl, e4⟩
/-- one sign more -/
theorem ct_go {B : Nat → Nat} {n l o b d q f k more : Nat} {e g : Ev} {c : mS} (hB : Bk B n) (hl : l < 5) (hs : lvl (B b) = l) (hb : b < n) (hd : b + 1 < d) (hg : g.1.length ≤ d - (b + 1)) (h : Cl B n (l + 1) o (b + 1) (some g) d) (hf : (6 - l) + 7 * (6 - o) ≤ f) (hc : CS B n b (q + e.1.length) c) (ha : At (gA c aP_steps) q e.1) (hq : q + e.1.length ≤ b) (hm : more ≤ b) (h2 : l = 2 → more = 0) : ∃ c', tl f (k + 1) l o n more c = tl f k l o n (more + 1) c' ∧ FC q c c' ∧ CS B n d (q + (ebin (B b) e g).1.length) c' ∧ At (gA c' aP_steps) q (ebin (B b) e g).1 := by
  have hn := hB.1
  obtain ⟨w, c1, e1, e2, e3, e4, e5⟩ := h f _ _ (by omega) (hc.go hb) (by omega)
  have hdn := e4.2.2.1
  obtain ⟨c2, a1, a2, a3, a4⟩ := ad_c e4 (by omega) (-nI (B b))
  rw [tl_y hB hl hc hs hb hm h2, e1, bP_s, e3, if_neg (show ¬ nI 1 = 0 by decide), a1, bO_s]
  have ln : q + (ebin (B b) e g).1.length = q + e.1.length + g.1.length + 1 := by
    show q + (e.1 ++ g.1 ++ [-nI (B b)]).length = _
    simp only [List.length_append, List.length_cons, List.length_nil]
    omega
  refine ⟨c2, rfl, ((FC.at q c _).tr e2 (by omega)).tr a3 (by omega), ?_, ?_⟩
  · rw [ln]; exact a2
  · show At _ q (e.1 ++ g.1 ++ [-nI (B b)])
    rw [At.app, At.app]
    refine ⟨⟨ha.cg fun i i1 i2 => ?_, e5.cg fun i i1 i2 => a3.2.2.1 i (by omega)⟩, ?_, trivial⟩
    · rw [a3.2.2.1 i (by omega), e2.2.2.1 i (by omega)]
      rfl
    · rw [List.length_append, ← Nat.add_assoc]; exact a4
theorem ct_1 {B : Nat → Nat} {n o b d : Nat} {e g : Ev} (hB : Bk B n) (hs : lvl (B b) = 2) (hb : b < n) (hd : b + 1 < d) (hg : g.1.length ≤ d - (b + 1)) (h : Cl B n 3 o (b + 1) (some g) d) : CT B n 2 o e b (some (ebin (B b) e g)) d := by
  intro f k c q more hf hk hc ha hq hm h2
  obtain ⟨k, rfl⟩ : ∃ k', k = k' + 2 := ⟨k - 2, by omega⟩
  obtain ⟨c', e1, e2, e3, e4⟩ := ct_go (k := k + 1) hB (by decide) hs hb hd hg h hf hc ha hq hm h2
  rw [e1, h2 rfl]
  unfold tl
  rw [gX8_readLevel_b41, if_pos (show (if 2 = 2 then nI 1 else nI n) ≤ nI (0 + 1) by rw [if_pos rfl]; decide)]
  exact ⟨_, c', rfl, e2, rfl, e3, e4⟩
theorem ct_s {B : Nat → Nat} {n l o b d d' : Nat} {e g : Ev} {r : Option Ev} (hB : Bk B n) (hl : l < 5) (hs : lvl (B b) = l) (h2 : l ≠ 2) (hb : b < n) (hd : b + 1 < d) (hg : g.1.length ≤ d - (b + 1)) (h : Cl B n (l + 1) o (b + 1) (some g) d) (t : CT B n l o (ebin (B b) e g) d r d') : CT B n l o e b r d' := by
  intro f k c q more hf hk hc ha hq hm _
  obtain ⟨k, rfl⟩ : ∃ k', k = k' + 1 := ⟨k - 1, by omega⟩
  obtain ⟨c', e1, e2, e3, e4⟩ := ct_go (k := k) hB hl hs hb hd hg h hf hc ha hq hm (fun z => absurd z h2)
  have ln : (ebin (B b) e g).1.length = e.1.length + g.1.length + 1 := by
    show (e.1 ++ g.1 ++ [-nI (B b)]).length = _
    simp only [List.length_append, List.length_cons, List.length_nil]
  obtain ⟨w, c'', d1, d2, d3⟩ := t f k c' q (more + 1) hf (by omega) e3 e4 (by rw [ln]; omega) (by omega) (fun z => absurd z h2)
  rw [e1]
  exact ⟨w, c'', d1, e2.tr d2 (Nat.le_refl q), d3⟩
