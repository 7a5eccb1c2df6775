-- law: signs and bytes
def s0 : mS := (fun _ => 0, fun _ _ => 0, fun _ _ => 0)
def lvl (s : Nat) : Nat := if s = 37 then 4 else if s = 38 then 1 else if s = 42 then 4 else if s = 43 then 3 else if s = 45 then 3 else if s = 47 then 4 else if s = 60 then 2 else if s = 61 then 2 else if s = 62 then 2 else if s = 124 then 0 else 9
def bop (s : Nat) (u v : Int32) : Int32 := if s = 38 then (if u = 0 then nI 0 else if v = 0 then nI 0 else nI 1) else if s = 42 then u * v else if s = 43 then u + v else if s = 45 then u - v else if s = 47 then (if v = 0 then nI 0 else u / v) else if s = 60 then (if v ≤ u then nI 0 else nI 1) else if s = 61 then (if u = v then nI 1 else nI 0) else if s = 62 then (if u ≤ v then nI 0 else nI 1) else if s = 124 then (if u = 0 then (if v = 0 then nI 0 else nI 1) else nI 1) else (if v = 0 then nI 0 else u - u / v * v)
def nix (b : Nat) : Nat := if b = 97 then 0 else if b = 100 then 3 else if b = 104 then 2 else if b = 109 then 5 else if b = 114 then 4 else if b = 116 then 1 else 9
def isD (b : Nat) : Prop := 48 ≤ b ∧ b ≤ 57
def isN (b : Nat) : Prop := nix b < 6
def cb (b : Nat) : Int32 := if b < 256 then nI b else -1
def xb (b : Nat) : Int32 := if b < 256 then nI b else nI 0
theorem cb_lt {b : Nat} (h : b < 256) : cb b = nI b := if_pos h
theorem xb_lt {b : Nat} (h : b < 256) : xb b = nI b := if_pos h
theorem cb_eq {b k : Nat} (hk : k < 256) : cb b = nI k ↔ b = k := by
  unfold cb
  by_cases h : b < 256
  · rw [if_pos h]; exact nEq (by omega) (by omega)
  · rw [if_neg h]
    exact ⟨fun z => absurd z (nneg1 (by omega)), fun z => absurd z (by omega)⟩
theorem xb_eq {b k : Nat} (h0 : 0 < k) (hk : k < 256) : xb b = nI k ↔ b = k := by
  unfold xb
  by_cases h : b < 256
  · rw [if_pos h]; exact nEq (by omega) (by omega)
  · rw [if_neg h]
    exact ⟨fun z => absurd ((nEq (by omega) (by omega)).mp z) (by omega), fun z => absurd z (by omega)⟩
theorem lev_c {b : Nat} (hb : b < 257) (s : mS) : fX8_levelOf (cb b) s = some (if lvl b = 9 then -1 else nI (lvl b)) := by
  have key : ∀ b, b < 257 → fX8_levelOf (cb b) s0 = some (if lvl b = 9 then -1 else nI (lvl b)) := by decide +kernel
  exact key b hb
theorem isD_c {b : Nat} (hb : b < 257) (s : mS) : fX8_isDigit (cb b) s = some (if 48 ≤ b ∧ b ≤ 57 then nI 1 else nI 0) := by
  have key : ∀ b, b < 257 → fX8_isDigit (cb b) s0 = some (if 48 ≤ b ∧ b ≤ 57 then nI 1 else nI 0) := by decide +kernel
  exact key b hb
theorem isN_c {b : Nat} (hb : b < 257) (s : mS) : fX8_isName (cb b) s = some (if nix b < 6 then nI 1 else nI 0) := by
  have key : ∀ b, b < 257 → fX8_isName (cb b) s0 = some (if nix b < 6 then nI 1 else nI 0) := by decide +kernel
  exact key b hb
theorem nam_x {b : Nat} (hb : b < 257) (s : mS) : fX11_nameOf (xb b) s = some (if nix b < 6 then nI (nix b) else -1) := by
  have key : ∀ b, b < 257 → fX11_nameOf (xb b) s0 = some (if nix b < 6 then nI (nix b) else -1) := by decide +kernel
  exact key b hb
theorem lvl_le : ∀ b, b < 257 → lvl b < 5 → b < 256 ∧ 0 < b ∧ ¬ nix b < 6 := by decide +kernel
theorem opn_c {b : Nat} (hb : b < 257) (h : lvl b < 5) (s : mS) : fX4_operandsOf (-nI b) s = some (nI 2) := by
  have key : ∀ b, b < 257 → lvl b < 5 → fX4_operandsOf (-nI b) s0 = some (nI 2) := by decide +kernel
  exact key b hb h
theorem opn_n {b : Nat} (hb : b < 257) (h : nix b < 6) (s : mS) : fX4_operandsOf (-nI b) s = some (nI 0) := by
  have key : ∀ b, b < 257 → nix b < 6 → fX4_operandsOf (-nI b) s0 = some (nI 0) := by decide +kernel
  exact key b hb h
-- the reference's place in the text
def Bk (B : Nat → Nat) (n : Nat) : Prop := n ≤ 120 ∧ (∀ i, i < n → B i < 256) ∧ ∀ i, n ≤ i → B i = 256
theorem Bk.le {B : Nat → Nat} {n : Nat} (h : Bk B n) (i : Nat) : B i < 257 := by
  by_cases g : i < n
  · have := h.2.1 i g; omega
  · have := h.2.2 i (by omega); omega
theorem Bk.lt {B : Nat → Nat} {n i : Nat} (h : Bk B n) (g : B i < 256) : i < n := by
  by_cases z : i < n
  · exact z
  · have := h.2.2 i (by omega); omega
def Xm (B : Nat → Nat) (n : Nat) (x : mS) : Prop := gI x iX_ends = nI n ∧ ((gI x iX_base = -1 ∧ ∀ i, i < n → gA x aX_tape i = nI (B i)) ∨ (gI x iX_base = nI 0 ∧ ∀ i, i < n → gA x aX_text i = nI (B i)))
def Xa (B : Nat → Nat) (n a o : Nat) (x : mS) : Prop := Xm B n x ∧ a ≤ n ∧ gI x iX_at = nI a ∧ gI x iX_fault = -1 ∧ gI x iX_opened = nI o
def Xf (B : Nat → Nat) (n d : Nat) (x : mS) : Prop := Xm B n x ∧ d ≤ n ∧ gI x iX_at = nI d ∧ gI x iX_fault = nI d
def FX (x y : mS) : Prop := (∀ k, k ≠ iX_at → k ≠ iX_fault → k ≠ iX_opened → gI y k = gI x k) ∧ y.2 = x.2
theorem FX.rf (x : mS) : FX x x := ⟨fun _ _ _ _ => rfl, rfl⟩
theorem FX.tr {x y z : mS} (h : FX x y) (g : FX y z) : FX x z := ⟨fun k a b c => (g.1 k a b c).trans (h.1 k a b c), g.2.trans h.2⟩
theorem FX.A {x y : mS} (h : FX x y) (k : Nat) : gA y k = gA x k := by
  show y.2.1 k = x.2.1 k
  rw [h.2]
theorem FX.I {x y : mS} (h : FX x y) (v : Int32) {k : Nat} (hk : k = iX_at ∨ k = iX_fault ∨ k = iX_opened) : FX x (pI y k v) := ⟨fun j a b c => by rw [gI_ne (by rintro rfl; rcases hk with z | z | z; exact a z; exact b z; exact c z)]; exact h.1 j a b c, h.2⟩
theorem Xm.fr {B : Nat → Nat} {n : Nat} {x y : mS} (h : Xm B n x) (g : FX x y) : Xm B n y := by
  unfold Xm
  rw [g.1 _ (by decide) (by decide) (by decide), g.1 iX_base (by decide) (by decide) (by decide), g.A, g.A]
  exact h
def rho (x : mS) (b : Nat) : Int32 := gA x aX_names (if nix b < 6 then nix b else 1)
theorem FX.rho {x y : mS} (h : FX x y) : rho y = rho x := by
  funext b
  show gA y aX_names _ = gA x aX_names _
  rw [h.A]
theorem byte_x {B : Nat → Nat} {n a : Nat} {x : mS} (hB : Bk B n) (h : Xm B n x) (ha : a ≤ n) (h2 : gI x iX_at = nI a) : fX11_byteAt x = some (xb (B a)) := by
  have h3 := hB.1
  unfold fX11_byteAt
  rw [h.1, h2]
  by_cases g : a < n
  · rw [if_neg (fun z => absurd ((nLe (by omega) (by omega)).mp z) (by omega)), xb_lt (hB.2.1 a g)]
    rcases h.2 with ⟨b1, b2⟩ | ⟨b1, b2⟩
    · rw [b1, if_neg (show ¬ (0 : Int32) ≤ -1 by decide), ldA_n (by omega) (by omega), b2 a g]
    · rw [b1, if_pos (show (0 : Int32) ≤ nI 0 by decide), nA, Nat.zero_add, ldA_n (by omega) (by omega), b2 a g]
  · rw [if_pos ((nLe (by omega) (by omega)).mpr (by omega)), hB.2.2 a (by omega)]
    rfl
theorem Xa.by {B : Nat → Nat} {n a o : Nat} {x : mS} (hB : Bk B n) (h : Xa B n a o x) : fX11_byteAt x = some (xb (B a)) := byte_x hB h.1 h.2.1 h.2.2.1
theorem Xf.by {B : Nat → Nat} {n a : Nat} {x : mS} (hB : Bk B n) (h : Xf B n a x) : fX11_byteAt x = some (xb (B a)) := byte_x hB h.1 h.2.1 h.2.2.1
theorem Xa.go {B : Nat → Nat} {n a o : Nat} {x : mS} (h : Xa B n a o x) (ha : a < n) : Xa B n (a + 1) o (pI x iX_at (nI (a + 1))) := ⟨h.1.fr ((FX.rf x).I _ (Or.inl rfl)), ha, gI_eq, by rw [gI_ne (by decide)]; exact h.2.2.2.1, by rw [gI_ne (by decide)]; exact h.2.2.2.2⟩
theorem Xa.nf {B : Nat → Nat} {n a o : Nat} {x : mS} (h : Xa B n a o x) : ¬ (0 : Int32) ≤ gI x iX_fault := by rw [h.2.2.2.1]; decide
theorem Xf.yf {B : Nat → Nat} {n d : Nat} {x : mS} (hB : Bk B n) (h : Xf B n d x) : (0 : Int32) ≤ gI x iX_fault := by
  have := hB.1
  have := h.2.1
  rw [h.2.2.2]; exact nI_pos' (by omega)
theorem tk_y {B : Nat → Nat} {n a o k : Nat} {x : mS} (hB : Bk B n) (h : Xa B n a o x) (h0 : 0 < k) (hk : k < 256) (e : B a = k) : fX11_takes (nI k) x = some (nI 1, pI x iX_at (nI (a + 1))) := by
  unfold fX11_takes
  rw [if_neg h.nf, h.by hB, bO_s, if_pos ((xb_eq h0 hk).mpr e), bnd_d, h.2.2.1, nA]
theorem tk_n {B : Nat → Nat} {n a o k : Nat} {x : mS} (hB : Bk B n) (h : Xa B n a o x) (h0 : 0 < k) (hk : k < 256) (e : B a ≠ k) : fX11_takes (nI k) x = some (nI 0, x) := by
  unfold fX11_takes
  rw [if_neg h.nf, h.by hB, bO_s, if_neg (fun z => e ((xb_eq h0 hk).mp z))]
theorem tk_f {B : Nat → Nat} {n d : Nat} {x : mS} (hB : Bk B n) (h : Xf B n d x) (v : Int32) : fX11_takes v x = some (nI 0, x) := by
  unfold fX11_takes
  rw [if_pos (h.yf hB)]
theorem wr_a {B : Nat → Nat} {n a o : Nat} {x : mS} (h : Xa B n a o x) : fX11_wrong x = some (nI 0, pI x iX_fault (nI a)) ∧ Xf B n a (pI x iX_fault (nI a)) := by
  unfold fX11_wrong fX11_wrong_b19
  rw [if_neg h.nf, bnd_d, h.2.2.1]
  exact ⟨rfl, h.1.fr ((FX.rf x).I _ (Or.inr (Or.inl rfl))), h.2.1, by rw [gI_ne (by decide)]; exact h.2.2.1, gI_eq⟩
theorem wr_f {B : Nat → Nat} {n d : Nat} {x : mS} (hB : Bk B n) (h : Xf B n d x) : fX11_wrong x = some (nI 0, pI x iX_fault (nI d)) ∧ Xf B n d (pI x iX_fault (nI d)) := by
  unfold fX11_wrong fX11_wrong_b19
  rw [if_pos (h.yf hB), bnd_d, h.2.2.2]
  exact ⟨rfl, h.1.fr ((FX.rf x).I _ (Or.inr (Or.inl rfl))), h.2.1, by rw [gI_ne (by decide)]; exact h.2.2.1, gI_eq⟩
-- the class's place in the text
def At (f : Nat → Int32) : Nat → List Int32 → Prop
  | _, [] => True
  | q, v :: l => f q = v ∧ At f (q + 1) l
theorem At.app {f : Nat → Int32} : ∀ {l m : List Int32} {q : Nat}, At f q (l ++ m) ↔ At f q l ∧ At f (q + l.length) m := by
  intro l
  induction l with
  | nil => intro m q; exact ⟨fun z => ⟨trivial, z⟩, fun z => z.2⟩
  | cons v l ih =>
    intro m q
    show (f q = v ∧ At f (q + 1) (l ++ m)) ↔ (f q = v ∧ At f (q + 1) l) ∧ At f (q + (l.length + 1)) m
    rw [ih, show q + (l.length + 1) = q + 1 + l.length by omega, and_assoc]
theorem At.cg {f g : Nat → Int32} : ∀ {l : List Int32} {q : Nat}, At f q l → (∀ i, q ≤ i → i < q + l.length → g i = f i) → At g q l := by
  intro l
  induction l with
  | nil => intro q _ _; trivial
  | cons v l ih =>
    intro q h e
    refine ⟨(e q (Nat.le_refl q) (by simp)).trans h.1, ih h.2 (fun i h1 h2 => e i (by omega) ?_)⟩
    simp only [List.length_cons]
    omega
def CS (B : Nat → Nat) (n a q : Nat) (c : mS) : Prop := gI c iP_size = nI n ∧ (∀ i, i < n → gA c aP_bytes i = nI (B i)) ∧ a ≤ n ∧ gI c iP_at = nI a ∧ gI c iP_stepsSize = nI q
def FC (q : Nat) (c d : mS) : Prop := (∀ k, k ≠ iP_at → k ≠ iP_stepsSize → gI d k = gI c k) ∧ (∀ k, k ≠ aP_steps → ∀ i, gA d k i = gA c k i) ∧ (∀ i, i < q → gA d aP_steps i = gA c aP_steps i) ∧ ∀ k i, gL d k i = gL c k i
theorem FC.rf (q : Nat) (c : mS) : FC q c c := ⟨fun _ _ _ => rfl, fun _ _ _ => rfl, fun _ _ => rfl, fun _ _ => rfl⟩
theorem FC.tr {q q' : Nat} {c d e : mS} (h : FC q c d) (g : FC q' d e) (hq : q ≤ q') : FC q c e := ⟨fun k a b => (g.1 k a b).trans (h.1 k a b), fun k a i => (g.2.1 k a i).trans (h.2.1 k a i), fun i hi => (g.2.2.1 i (by omega)).trans (h.2.2.1 i hi), fun k i => (g.2.2.2 k i).trans (h.2.2.2 k i)⟩
theorem FC.at (q : Nat) (c : mS) (v : Int32) : FC q c (pI c iP_at v) := ⟨fun k a b => gI_ne a, fun _ _ _ => rfl, fun _ _ => rfl, fun _ _ => rfl⟩
theorem CS.go {B : Nat → Nat} {n a q : Nat} {c : mS} (h : CS B n a q c) (ha : a < n) : CS B n (a + 1) q (pI c iP_at (nI (a + 1))) := ⟨by rw [gI_ne (by decide)]; exact h.1, fun i hi => h.2.1 i hi, ha, gI_eq, by rw [gI_ne (by decide)]; exact h.2.2.2.2⟩
theorem nx_c {B : Nat → Nat} {n a q : Nat} {c : mS} (hB : Bk B n) (h : CS B n a q c) : fX8_next c = some (cb (B a)) := by
  have h3 := hB.1
  unfold fX8_next
  rw [h.1, h.2.2.2.1]
  have ha := h.2.2.1
  by_cases g : a < n
  · rw [if_neg (fun z => absurd ((nLe (by omega) (by omega)).mp z) (by omega)), cb_lt (hB.2.1 a g), ldA_n (by omega) (by omega), h.2.1 a g]
  · rw [if_pos ((nLe (by omega) (by omega)).mpr (by omega)), hB.2.2 a (by omega)]
    rfl
theorem ct_y {B : Nat → Nat} {n a q k : Nat} {c : mS} (hB : Bk B n) (h : CS B n a q c) (hk : k < 256) (e : B a = k) : fX8_takes (nI k) c = some (nI 1, pI c iP_at (nI (a + 1))) := by
  unfold fX8_takes
  rw [nx_c hB h, bO_s, if_pos ((cb_eq hk).mpr e), bnd_d, h.2.2.2.1, nA]
theorem ct_n {B : Nat → Nat} {n a q k : Nat} {c : mS} (hB : Bk B n) (h : CS B n a q c) (hk : k < 256) (e : B a ≠ k) : fX8_takes (nI k) c = some (nI 0, c) := by
  unfold fX8_takes
  rw [nx_c hB h, bO_s, if_neg (fun z => e ((cb_eq hk).mp z))]
theorem ad_c {B : Nat → Nat} {n a q : Nat} {c : mS} (h : CS B n a q c) (hq : q < 121) (v : Int32) : ∃ c', fX8_addStep v c = some c' ∧ CS B n a (q + 1) c' ∧ FC q c c' ∧ gA c' aP_steps q = v := by
  unfold fX8_addStep
  rw [h.2.2.2.2, if_neg (fun z => absurd ((nLe (by omega) (by omega)).mp z) (by omega)), stA_n hq (by omega), bnd_d, gI_pA, h.2.2.2.2, nA]
  refine ⟨_, rfl, ⟨?_, fun i hi => ?_, h.2.2.1, ?_, gI_eq⟩, ⟨fun k a b => ?_, fun k hk i => ?_, fun i hi => ?_, fun _ _ => rfl⟩, ?_⟩
  · rw [gI_ne (by decide), gI_pA]; exact h.1
  · rw [gA_pI, gA_ne (by decide)]; exact h.2.1 i hi
  · rw [gI_ne (by decide), gI_pA]; exact h.2.2.2.1
  · rw [gI_ne b, gI_pA]
  · rw [gA_pI, gA_ne hk]
  · rw [gA_pI, gA_eq, if_neg (by omega)]
  · rw [gA_pI, gA_eq, if_pos rfl]
