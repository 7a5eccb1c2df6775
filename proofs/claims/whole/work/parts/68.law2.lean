-- law: the reference's reading
abbrev Ev : Type := List Int32 × ((Nat → Int32) → Int32)
def enum (v : Nat) : Ev := ([nI v], fun _ => nI v)
def enam (b : Nat) : Ev := ([-nI b], fun ρ => ρ b)
def eun (s : Nat) (e : Ev) : Ev := (e.1 ++ [if s = 45 then -1 else -33], fun ρ => if s = 45 then -(e.2 ρ) else if e.2 ρ = 0 then nI 1 else nI 0)
def ebin (s : Nat) (e g : Ev) : Ev := (e.1 ++ g.1 ++ [-nI s], fun ρ => bop s (e.2 ρ) (g.2 ρ))
theorem lvl_inv : ∀ b, b < 257 → (lvl b = 0 → b = 124) ∧ (lvl b = 1 → b = 38) ∧ (lvl b = 2 → b = 60 ∨ b = 61 ∨ b = 62) ∧ (lvl b = 3 → b = 43 ∨ b = 45) ∧ (lvl b = 4 → b = 42 ∨ b = 47 ∨ b = 37) := by decide +kernel
def rl (f : Nat) : Nat → mS → Option (Int32 × mS)
  | 0 => (sccX11_either f).1
  | 1 => (sccX11_either f).2.1
  | 2 => (sccX11_either f).2.2.1
  | 3 => (sccX11_either f).2.2.2.1
  | 4 => (sccX11_either f).2.2.2.2.1
  | _ => (sccX11_either f).2.2.2.2.2
def lp (f k : Nat) : Nat → Int32 → mS → Option (Int32 × mS)
  | 0 => gX11_either_b5 (rl f 0) (rl f 1) (rl f 2) (rl f 3) (rl f 4) (rl f 5) k
  | 1 => gX11_both_b5 (rl f 0) (rl f 1) (rl f 2) (rl f 3) (rl f 4) (rl f 5) k
  | 2 => fun v s => bO (fX11_byteAt s) fun r4 => bnd r4 fun v5 => if 0 ≤ (gI s iX_fault) then some (v, s) else if v5 = (nI 60) then gX11_compared_b37 (rl f 0) (rl f 1) (rl f 2) (rl f 3) (rl f 4) (rl f 5) v v5 s else if v5 = (nI 61) then gX11_compared_b37 (rl f 0) (rl f 1) (rl f 2) (rl f 3) (rl f 4) (rl f 5) v v5 s else if v5 = (nI 62) then gX11_compared_b37 (rl f 0) (rl f 1) (rl f 2) (rl f 3) (rl f 4) (rl f 5) v v5 s else some (v, s)
  | 3 => gX11_sums_b5 (rl f 0) (rl f 1) (rl f 2) (rl f 3) (rl f 4) (rl f 5) k
  | _ => fun v s => bO (fX11_byteAt s) fun r4 => bnd r4 fun v5 => gX11_product_b10 (rl f 0) (rl f 1) (rl f 2) (rl f 3) (rl f 4) (rl f 5) k v v5 s
theorem rl_s (f : Nat) {l : Nat} (hl : l < 5) (x : mS) : rl (f + 1) l x = bP (rl f (l + 1) x) fun v s => lp f mFu l v s := by
  generalize hm : mFu = F
  rcases (show l = 0 ∨ l = 1 ∨ l = 2 ∨ l = 3 ∨ l = 4 by omega) with rfl | rfl | rfl | rfl | rfl
  · show gX11_either (rl f 0) (rl f 1) (rl f 2) (rl f 3) (rl f 4) (rl f 5) x = _
    unfold gX11_either
    rw [hm]
    rfl
  · show gX11_both (rl f 0) (rl f 1) (rl f 2) (rl f 3) (rl f 4) (rl f 5) x = _
    unfold gX11_both
    rw [hm]
    rfl
  · rfl
  · show gX11_sums (rl f 0) (rl f 1) (rl f 2) (rl f 3) (rl f 4) (rl f 5) x = _
    unfold gX11_sums
    rw [hm]
    rfl
  · show gX11_product (rl f 0) (rl f 1) (rl f 2) (rl f 3) (rl f 4) (rl f 5) x = _
    unfold gX11_product
    rw [hm]
    rfl
theorem lp2_d (f k : Nat) (v : Int32) (s : mS) : lp f k 2 v s = bO (fX11_byteAt s) fun r4 => bnd r4 fun v5 => if 0 ≤ (gI s iX_fault) then some (v, s) else if v5 = (nI 60) then gX11_compared_b37 (rl f 0) (rl f 1) (rl f 2) (rl f 3) (rl f 4) (rl f 5) v v5 s else if v5 = (nI 61) then gX11_compared_b37 (rl f 0) (rl f 1) (rl f 2) (rl f 3) (rl f 4) (rl f 5) v v5 s else if v5 = (nI 62) then gX11_compared_b37 (rl f 0) (rl f 1) (rl f 2) (rl f 3) (rl f 4) (rl f 5) v v5 s else some (v, s) := rfl
theorem one_s (f : Nat) (x : mS) : rl (f + 1) 5 x = gX11_one (rl f 0) (rl f 1) (rl f 2) (rl f 3) (rl f 4) (rl f 5) x := rfl
theorem lp_f {B : Nat → Nat} {n d l f k : Nat} {x : mS} (hB : Bk B n) (hl : l < 5) (h : Xf B n d x) (v : Int32) : lp f (k + 1) l v x = some (v, x) := by
  rcases (show l = 0 ∨ l = 1 ∨ l = 2 ∨ l = 3 ∨ l = 4 by omega) with rfl | rfl | rfl | rfl | rfl
  · show gX11_either_b5 _ _ _ _ _ _ (k + 1) v x = _
    unfold gX11_either_b5
    rw [tk_f hB h, bP_s, if_pos nI_0]
  · show gX11_both_b5 _ _ _ _ _ _ (k + 1) v x = _
    unfold gX11_both_b5
    rw [tk_f hB h, bP_s, if_pos nI_0]
  · rw [lp2_d, h.by hB, bO_s, bnd_d, if_pos (h.yf hB)]
  · show gX11_sums_b5 _ _ _ _ _ _ (k + 1) v x = _
    unfold gX11_sums_b5
    rw [if_pos (h.yf hB)]
  · show (bO (fX11_byteAt x) fun r4 => bnd r4 fun v5 => gX11_product_b10 _ _ _ _ _ _ (k + 1) v v5 x) = _
    rw [h.by hB, bO_s, bnd_d]
    unfold gX11_product_b10
    rw [if_pos (h.yf hB)]
theorem lp_n {B : Nat → Nat} {n b o l f k : Nat} {x : mS} (hB : Bk B n) (hl : l < 5) (h : Xa B n b o x) (hs : lvl (B b) ≠ l) (v : Int32) : lp f (k + 1) l v x = some (v, x) := by
  have ne : ∀ s, lvl s = l → ¬ B b = s := fun s e z => hs (by rw [z]; exact e)
  rcases (show l = 0 ∨ l = 1 ∨ l = 2 ∨ l = 3 ∨ l = 4 by omega) with rfl | rfl | rfl | rfl | rfl
  · show gX11_either_b5 _ _ _ _ _ _ (k + 1) v x = _
    unfold gX11_either_b5
    rw [tk_n hB h (by decide) (by decide) (ne 124 rfl), bP_s, if_pos nI_0]
  · show gX11_both_b5 _ _ _ _ _ _ (k + 1) v x = _
    unfold gX11_both_b5
    rw [tk_n hB h (by decide) (by decide) (ne 38 rfl), bP_s, if_pos nI_0]
  · rw [lp2_d, h.by hB, bO_s, bnd_d, if_neg h.nf, if_neg (fun z => ne 60 rfl ((xb_eq (by decide) (by decide)).mp z)), if_neg (fun z => ne 61 rfl ((xb_eq (by decide) (by decide)).mp z)), if_neg (fun z => ne 62 rfl ((xb_eq (by decide) (by decide)).mp z))]
  · show gX11_sums_b5 _ _ _ _ _ _ (k + 1) v x = _
    unfold gX11_sums_b5
    rw [if_neg h.nf, h.by hB, bO_s, if_neg (fun z => ne 43 rfl ((xb_eq (by decide) (by decide)).mp z)), bO_s, if_neg (fun z => ne 45 rfl ((xb_eq (by decide) (by decide)).mp z))]
  · show (bO (fX11_byteAt x) fun r4 => bnd r4 fun v5 => gX11_product_b10 _ _ _ _ _ _ (k + 1) v v5 x) = _
    rw [h.by hB, bO_s, bnd_d]
    unfold gX11_product_b10
    rw [if_neg h.nf, if_neg (fun z => ne 42 rfl ((xb_eq (by decide) (by decide)).mp z)), if_neg (fun z => ne 47 rfl ((xb_eq (by decide) (by decide)).mp z)), if_neg (fun z => ne 37 rfl ((xb_eq (by decide) (by decide)).mp z))]
theorem bop_124 (u v : Int32) : bop 124 u v = if u = 0 then (if v = 0 then nI 0 else nI 1) else nI 1 := rfl
theorem bop_38 (u v : Int32) : bop 38 u v = if u = 0 then nI 0 else if v = 0 then nI 0 else nI 1 := rfl
theorem bop_60 (u v : Int32) : bop 60 u v = if v ≤ u then nI 0 else nI 1 := rfl
theorem bop_61 (u v : Int32) : bop 61 u v = if u = v then nI 1 else nI 0 := rfl
theorem bop_62 (u v : Int32) : bop 62 u v = if u ≤ v then nI 0 else nI 1 := rfl
theorem bop_43 (u v : Int32) : bop 43 u v = u + v := rfl
theorem bop_45 (u v : Int32) : bop 45 u v = u - v := rfl
theorem bop_42 (u v : Int32) : bop 42 u v = u * v := rfl
theorem bop_47 (u v : Int32) : bop 47 u v = if v = 0 then nI 0 else u / v := rfl
theorem bop_37 (u v : Int32) : bop 37 u v = if v = 0 then nI 0 else u - u / v * v := rfl
theorem lp_y {B : Nat → Nat} {n b o l f k : Nat} {x : mS} (hB : Bk B n) (hl : l < 5) (h : Xa B n b o x) (hs : lvl (B b) = l) (h2 : l ≠ 2) (v : Int32) : lp f (k + 1) l v x = bP (rl f (l + 1) (pI x iX_at (nI (b + 1)))) fun w s => lp f k l (bop (B b) v w) s := by
  have iv := lvl_inv (B b) (hB.le b)
  rcases (show l = 0 ∨ l = 1 ∨ l = 3 ∨ l = 4 by omega) with rfl | rfl | rfl | rfl
  · have e := iv.1 hs
    show gX11_either_b5 _ _ _ _ _ _ (k + 1) v x = bP (rl f 1 _) fun w s => gX11_either_b5 _ _ _ _ _ _ k (bop (B b) v w) s
    rw [gX11_either_b5, tk_y hB h (by decide) (by decide) e, bP_s, if_neg (show ¬ nI 1 = 0 by decide), e]
    refine congrArg (bP _) (funext fun w => funext fun s => ?_)
    rw [bnd_d, bop_124]
    unfold gX11_either_b27 gX11_either_b32
    by_cases hv : v = 0
    · by_cases hw : w = 0
      · rw [if_pos hv, if_pos hw, if_pos hv, if_pos hw, bnd_d]
      · rw [if_pos hv, if_neg hw, if_pos hv, if_neg hw, bnd_d]
    · rw [if_neg hv, if_neg hv, bnd_d]
  · have e := iv.2.1 hs
    show gX11_both_b5 _ _ _ _ _ _ (k + 1) v x = bP (rl f 2 _) fun w s => gX11_both_b5 _ _ _ _ _ _ k (bop (B b) v w) s
    rw [gX11_both_b5, tk_y hB h (by decide) (by decide) e, bP_s, if_neg (show ¬ nI 1 = 0 by decide), e]
    refine congrArg (bP _) (funext fun w => funext fun s => ?_)
    rw [bnd_d, bop_38]
    unfold gX11_both_b31 gX11_both_b32
    by_cases hv : v = 0
    · rw [if_pos hv, if_pos hv, bnd_d]
    · by_cases hw : w = 0
      · rw [if_neg hv, if_pos hw, if_neg hv, if_pos hw, bnd_d]
      · rw [if_neg hv, if_neg hw, if_neg hv, if_neg hw, bnd_d]
  · show gX11_sums_b5 _ _ _ _ _ _ (k + 1) v x = bP (rl f 4 _) fun w s => gX11_sums_b5 _ _ _ _ _ _ k (bop (B b) v w) s
    rw [gX11_sums_b5, if_neg h.nf, h.by hB, bO_s, bO_s]
    unfold gX11_sums_b30 gX11_sums_b44 gX11_sums_b73
    rw [h.by hB, bO_s, h.2.2.1, nA]
    rcases iv.2.2.2.1 hs with e | e
    · rw [e, if_pos ((xb_eq (by decide) (by decide)).mpr rfl), if_pos ((xb_eq (by decide) (by decide)).mpr rfl), bnd_d, bnd_d]
      congr 1
    · rw [e, if_neg (fun z => absurd ((xb_eq (by decide) (by decide)).mp z) (by decide)), if_pos ((xb_eq (by decide) (by decide)).mpr rfl), if_neg (fun z => absurd ((xb_eq (by decide) (by decide)).mp z) (by decide)), bnd_d, bnd_d]
      congr 1
  · show (bO (fX11_byteAt x) fun r4 => bnd r4 fun v5 => gX11_product_b10 _ _ _ _ _ _ (k + 1) v v5 x) = bP (rl f 5 _) fun w s => bO (fX11_byteAt s) fun r4 => bnd r4 fun v5 => gX11_product_b10 _ _ _ _ _ _ k (bop (B b) v w) v5 s
    rw [h.by hB, bO_s, bnd_d, gX11_product_b10, if_neg h.nf]
    unfold gX11_product_b35 gX11_product_b85
    rw [h.2.2.1, nA]
    rcases iv.2.2.2.2 hs with e | e | e
    · rw [e, if_pos ((xb_eq (by decide) (by decide)).mpr rfl), bnd_d]
      refine congrArg (bP _) (funext fun w => funext fun s => ?_)
      rw [bnd_d, if_pos ((xb_eq (by decide) (by decide)).mpr rfl), bop_42, bnd_d]
    · rw [e, if_neg (fun z => absurd ((xb_eq (by decide) (by decide)).mp z) (by decide)), if_pos ((xb_eq (by decide) (by decide)).mpr rfl), bnd_d]
      refine congrArg (bP _) (funext fun w => funext fun s => ?_)
      rw [bnd_d, if_neg (fun z => absurd ((xb_eq (by decide) (by decide)).mp z) (by decide)), if_pos ((xb_eq (by decide) (by decide)).mpr rfl), bop_47]
      by_cases hw : w = 0
      · rw [if_pos hw, if_pos hw, bnd_d]
      · unfold dvI
        rw [if_neg hw, if_neg hw, if_neg hw]
        simp only [bnd_d]
    · rw [e, if_neg (fun z => absurd ((xb_eq (by decide) (by decide)).mp z) (by decide)), if_neg (fun z => absurd ((xb_eq (by decide) (by decide)).mp z) (by decide)), if_pos ((xb_eq (by decide) (by decide)).mpr rfl), bnd_d]
      refine congrArg (bP _) (funext fun w => funext fun s => ?_)
      rw [bnd_d, if_neg (fun z => absurd ((xb_eq (by decide) (by decide)).mp z) (by decide)), if_neg (fun z => absurd ((xb_eq (by decide) (by decide)).mp z) (by decide)), bop_37]
      by_cases hw : w = 0
      · rw [if_pos hw, if_pos hw, bnd_d]
      · unfold rmI
        rw [if_neg hw, if_neg hw, if_neg hw]
        simp only [bnd_d]
theorem lp_2 {B : Nat → Nat} {n b o f k : Nat} {x : mS} (hB : Bk B n) (h : Xa B n b o x) (hs : lvl (B b) = 2) (v : Int32) : lp f k 2 v x = bP (rl f 3 (pI x iX_at (nI (b + 1)))) fun w s => some (bop (B b) v w, s) := by
  have iv := lvl_inv (B b) (hB.le b)
  rw [lp2_d, h.by hB, bO_s, bnd_d, if_neg h.nf]
  unfold gX11_compared_b37 gX11_compared_b85
  rw [h.2.2.1, nA]
  rcases iv.2.2.1 hs with e | e | e
  · rw [e, if_pos ((xb_eq (by decide) (by decide)).mpr rfl), bnd_d]
    refine congrArg (bP _) (funext fun w => funext fun s => ?_)
    rw [bnd_d, if_pos ((xb_eq (by decide) (by decide)).mpr rfl), bop_60]
    split <;> rfl
  · rw [e, if_neg (fun z => absurd ((xb_eq (by decide) (by decide)).mp z) (by decide)), if_pos ((xb_eq (by decide) (by decide)).mpr rfl), bnd_d]
    refine congrArg (bP _) (funext fun w => funext fun s => ?_)
    rw [bnd_d, if_neg (fun z => absurd ((xb_eq (by decide) (by decide)).mp z) (by decide)), if_pos ((xb_eq (by decide) (by decide)).mpr rfl), bop_61]
    split <;> rfl
  · rw [e, if_neg (fun z => absurd ((xb_eq (by decide) (by decide)).mp z) (by decide)), if_neg (fun z => absurd ((xb_eq (by decide) (by decide)).mp z) (by decide)), if_pos ((xb_eq (by decide) (by decide)).mpr rfl), bnd_d]
    refine congrArg (bP _) (funext fun w => funext fun s => ?_)
    rw [bnd_d, if_neg (fun z => absurd ((xb_eq (by decide) (by decide)).mp z) (by decide)), if_neg (fun z => absurd ((xb_eq (by decide) (by decide)).mp z) (by decide)), bop_62]
    split <;> rfl
def RX (B : Nat → Nat) (n o : Nat) (r : Option Ev) (d : Nat) (x : mS) (v : Int32) (y : mS) : Prop := FX x y ∧ match r with
  | some e => v = e.2 (rho x) ∧ Xa B n d o y
  | none => Xf B n d y
def Rf (B : Nat → Nat) (n l o a : Nat) (r : Option Ev) (d : Nat) : Prop := ∀ f x, (6 - l) + 6 * (6 - o) ≤ f → Xa B n a o x → ∃ v y, rl f l x = some (v, y) ∧ RX B n o r d x v y
def RT (B : Nat → Nat) (n l o : Nat) (e : Ev) (b : Nat) (r : Option Ev) (d : Nat) : Prop := ∀ f k x v, (5 - l) + 6 * (6 - o) ≤ f → n - b < k → Xa B n b o x → v = e.2 (rho x) → ∃ w y, lp f k l v x = some (w, y) ∧ RX B n o r d x w y
theorem rf_lev {B : Nat → Nat} {n l o a b d : Nat} {e : Ev} {r : Option Ev} (hB : Bk B n) (hl : l < 5) (h : Rf B n (l + 1) o a (some e) b) (g : RT B n l o e b r d) : Rf B n l o a r d := by
  intro f x hf hx
  obtain ⟨f, rfl⟩ : ∃ f', f = f' + 1 := ⟨f - 1, by omega⟩
  obtain ⟨v, y, e1, e2, e3, e4⟩ := h f x (by omega) hx
  obtain ⟨w, z, d1, d2, d3⟩ := g f mFu y v (by omega) (show n - b < 6000 by have := hB.1; omega) e4 (by rw [e2.rho]; exact e3)
  rw [rl_s f hl, e1, bP_s, d1]
  refine ⟨w, z, rfl, e2.tr d2, ?_⟩
  rw [e2.rho] at d3
  exact d3
theorem rf_levf {B : Nat → Nat} {n l o a b : Nat} (hB : Bk B n) (hl : l < 5) (h : Rf B n (l + 1) o a none b) : Rf B n l o a none b := by
  intro f x hf hx
  obtain ⟨f, rfl⟩ : ∃ f', f = f' + 1 := ⟨f - 1, by omega⟩
  obtain ⟨v, y, e1, e2, e3⟩ := h f x (by omega) hx
  rw [rl_s f hl, e1, bP_s, mFu_s, lp_f hB hl e3]
  exact ⟨v, y, rfl, e2, e3⟩
theorem rt_stop {B : Nat → Nat} {n l o b : Nat} {e : Ev} (hB : Bk B n) (hl : l < 5) (hs : lvl (B b) ≠ l) : RT B n l o e b (some e) b := by
  intro f k x v hf hk hx hv
  obtain ⟨k, rfl⟩ : ∃ k', k = k' + 1 := ⟨k - 1, by omega⟩
  rw [lp_n hB hl hx hs]
  exact ⟨v, x, rfl, FX.rf x, hv, hx⟩
theorem rt_f {B : Nat → Nat} {n l o b d : Nat} {e : Ev} (hB : Bk B n) (hl : l < 5) (hs : lvl (B b) = l) (hb : b < n) (h : Rf B n (l + 1) o (b + 1) none d) : RT B n l o e b none d := by
  intro f k x v hf hk hx hv
  obtain ⟨w, y, e1, e2, e3⟩ := h f _ (by omega) (hx.go hb)
  have fr : FX x y := ((FX.rf x).I _ (Or.inl rfl)).tr e2
  by_cases h2 : l = 2
  · subst h2
    rw [lp_2 hB hx hs, e1, bP_s]
    exact ⟨_, y, rfl, fr, e3⟩
  · obtain ⟨k, rfl⟩ : ∃ k', k = k' + 2 := ⟨k - 2, by omega⟩
    rw [lp_y hB hl hx hs h2, e1, bP_s, lp_f hB hl e3]
    exact ⟨_, y, rfl, fr, e3⟩
theorem rt_1 {B : Nat → Nat} {n o b d : Nat} {e g : Ev} (hB : Bk B n) (hs : lvl (B b) = 2) (hb : b < n) (h : Rf B n 3 o (b + 1) (some g) d) : RT B n 2 o e b (some (ebin (B b) e g)) d := by
  intro f k x v hf hk hx hv
  obtain ⟨w, y, e1, e2, e3, e4⟩ := h f _ (by omega) (hx.go hb)
  have fr : FX x y := ((FX.rf x).I _ (Or.inl rfl)).tr e2
  rw [lp_2 hB hx hs, e1, bP_s]
  refine ⟨_, y, rfl, fr, ?_, e4⟩
  rw [hv, e3]
  rfl
theorem rt_s {B : Nat → Nat} {n l o b d d' : Nat} {e g : Ev} {r : Option Ev} (hB : Bk B n) (hl : l < 5) (hs : lvl (B b) = l) (h2 : l ≠ 2) (hb : b < n) (hd : b < d) (h : Rf B n (l + 1) o (b + 1) (some g) d) (t : RT B n l o (ebin (B b) e g) d r d') : RT B n l o e b r d' := by
  intro f k x v hf hk hx hv
  obtain ⟨w, y, e1, e2, e3, e4⟩ := h f _ (by omega) (hx.go hb)
  have fr : FX x y := ((FX.rf x).I _ (Or.inl rfl)).tr e2
  obtain ⟨k, rfl⟩ : ∃ k', k = k' + 1 := ⟨k - 1, by omega⟩
  rw [lp_y hB hl hx hs h2, e1, bP_s]
  obtain ⟨w', z, d1, d2, d3⟩ := t f k y (bop (B b) v w) hf (by omega) e4 (by
    rw [fr.rho, hv, e3]
    rfl)
  refine ⟨w', z, d1, fr.tr d2, ?_⟩
  rw [fr.rho] at d3
  exact d3
