-- law: every text is read alike
def Gd (B : Nat → Nat) (n l o a : Nat) (r : Option Ev) (d : Nat) : Prop := (a ≤ d ∧ d ≤ n) ∧ (∀ e, r = some e → a < d ∧ e.1.length ≤ d - a ∧ Xe e (d - a)) ∧ Rf B n l o a r d ∧ Cl B n l o a r d ∧ (l = 5 → Cl B n 6 o a r d)
theorem gd5 {B : Nat → Nat} {n o a d : Nat} {r : Option Ev} (h1 : a ≤ d) (h2 : d ≤ n) (h3 : ∀ e, r = some e → a < d ∧ e.1.length ≤ d - a ∧ Xe e (d - a)) (h : Rf B n 5 o a r d ∧ Cl B n 6 o a r d) : Gd B n 5 o a r d := ⟨⟨h1, h2⟩, h3, h.1, cl_up h.2, fun _ => h.2⟩
theorem ex_op {B : Nat → Nat} {n o a : Nat} (hB : Bk B n) (ha : a ≤ n) (ho : o ≤ 6) (ih : a < n → o < 6 → ∀ l, l ≤ 5 → ∃ r d, Gd B n l (o + 1) (a + 1) r d) : ∃ r d, Gd B n 5 o a r d := by
  by_cases hd : 48 ≤ B a ∧ B a ≤ 57
  · obtain ⟨v, d, h1, h2, h3, h4, h5⟩ := op_num (o := o) hB ha hd
    refine ⟨_, d, gd5 (by omega) h3 (fun e he => ?_) ⟨h4, h5⟩⟩
    obtain rfl := Option.some.inj he
    exact ⟨h2, by show 1 ≤ d - a; omega, xe_num h1 (by omega)⟩
  by_cases hN : nix (B a) < 6
  · obtain ⟨h1, h2, h3⟩ := op_nam (o := o) hB ha hN
    refine ⟨_, a + 1, gd5 (by omega) h1 (fun e he => ?_) ⟨h2, h3⟩⟩
    obtain rfl := Option.some.inj he
    exact ⟨by omega, by show 1 ≤ a + 1 - a; omega, xe_nam (hB.le a) hN (by omega)⟩
  by_cases hs : o = 6 ∨ (B a ≠ 33 ∧ B a ≠ 45 ∧ B a ≠ 40)
  · exact ⟨none, a, gd5 (Nat.le_refl a) ha (fun e he => nomatch he) (op_bad hB ha ho hd hN hs)⟩
  have ho6 : o < 6 := by omega
  have han : a < n := hB.lt (by omega)
  by_cases h40 : B a = 40
  · obtain ⟨r, d, ⟨b1, b2⟩, b3, b4, b5, -⟩ := ih han ho6 0 (by omega)
    cases r with
    | none => exact ⟨none, d, gd5 (by omega) b2 (fun e he => nomatch he) (op_par_f hB ho6 h40 b4 b5)⟩
    | some e =>
      obtain ⟨k1, k2, k3⟩ := b3 e rfl
      by_cases h41 : B d = 41
      · have hdn : d < n := hB.lt (by omega)
        refine ⟨some e, d + 1, gd5 (by omega) hdn (fun e' he => ?_) (op_par_y hB ho6 h40 h41 b4 b5)⟩
        obtain rfl := Option.some.inj he
        exact ⟨by omega, by omega, k3.mono (by omega)⟩
      · exact ⟨none, d, gd5 (by omega) b2 (fun e he => nomatch he) (op_par_n hB ho6 h40 h41 b4 b5)⟩
  · have h33 : B a = 33 ∨ B a = 45 := by omega
    obtain ⟨r, d, ⟨b1, b2⟩, b3, b4, -, b5⟩ := ih han ho6 5 (by omega)
    cases r with
    | none => exact ⟨none, d, gd5 (by omega) b2 (fun e he => nomatch he) (op_un_f hB ho6 h33 b4 (b5 rfl))⟩
    | some e =>
      obtain ⟨k1, k2, k3⟩ := b3 e rfl
      refine ⟨_, d, gd5 (by omega) b2 (fun e' he => ?_) (op_un_y hB ho6 h33 k2 b4 (b5 rfl))⟩
      obtain rfl := Option.some.inj he
      refine ⟨by omega, ?_, xe_un h33 (by omega) (by omega) k3⟩
      show (e.1 ++ [if B a = 45 then -1 else -33]).length ≤ _
      simp only [List.length_append, List.length_cons, List.length_nil]
      omega
theorem ex_tail {B : Nat → Nat} {n l o a : Nat} (hB : Bk B n) (hl : l < 5) (ih : ∀ b, a < b → b < n → ∃ r d, Gd B n (l + 1) o (b + 1) r d) : ∀ m b e, n - b ≤ m → a < b → b ≤ n → e.1.length ≤ b - a → Xe e (b - a) → ∃ r d, b ≤ d ∧ d ≤ n ∧ (∀ e', r = some e' → e'.1.length ≤ d - a ∧ Xe e' (d - a)) ∧ RT B n l o e b r d ∧ CT B n l o e b r d := by
  intro m
  induction m with
  | zero =>
    intro b e h1 h2 h3 h4 h5
    have hs : lvl (B b) ≠ l := by
      rw [hB.2.2 b (by omega)]
      intro z
      have : lvl 256 = 9 := by decide
      omega
    refine ⟨some e, b, Nat.le_refl b, h3, fun e' he => ?_, rt_stop hB hl hs, ct_stop hB hl hs⟩
    obtain rfl := Option.some.inj he
    exact ⟨h4, h5⟩
  | succ m IH =>
    intro b e h1 h2 h3 h4 h5
    by_cases hs : lvl (B b) = l
    · have hbn : b < n := hB.lt (lvl_le (B b) (hB.le b) (by omega)).1
      obtain ⟨r, d, ⟨b1, b2⟩, b3, b4, b5, -⟩ := ih b h2 hbn
      cases r with
      | none => exact ⟨none, d, by omega, b2, fun e' he => (nomatch he), rt_f hB hl hs hbn b4, ct_f hB hl hs hbn b5⟩
      | some g =>
        obtain ⟨k1, k2, k3⟩ := b3 g rfl
        have ln : (ebin (B b) e g).1.length = e.1.length + g.1.length + 1 := by
          show (e.1 ++ g.1 ++ [-nI (B b)]).length = _
          simp only [List.length_append, List.length_cons, List.length_nil]
        have xb' : Xe (ebin (B b) e g) (d - a) := xe_bin (hB.le b) (by omega) (l := b - a) (m := d - (b + 1)) (by omega) (by omega) (by omega) h5 k3
        by_cases h22 : l = 2
        · subst h22
          refine ⟨some (ebin (B b) e g), d, by omega, b2, fun e' he => ?_, rt_1 hB hs hbn b4, ct_1 hB hs hbn k1 k2 b5⟩
          obtain rfl := Option.some.inj he
          exact ⟨by rw [ln]; omega, xb'⟩
        · obtain ⟨r', d', i1, i2, i3, i4, i5⟩ := IH d (ebin (B b) e g) (by omega) (by omega) b2 (by rw [ln]; omega) xb'
          exact ⟨r', d', by omega, i2, i3, rt_s hB hl hs h22 hbn (by omega) b4 i4, ct_s hB hl hs h22 hbn k1 k2 b5 i5⟩
    · refine ⟨some e, b, Nat.le_refl b, h3, fun e' he => ?_, rt_stop hB hl hs, ct_stop hB hl hs⟩
      obtain rfl := Option.some.inj he
      exact ⟨h4, h5⟩
theorem ex_lev {B : Nat → Nat} {n o a : Nat} (hB : Bk B n) (ha : a ≤ n) (ho : o ≤ 6) (ih : ∀ a' o', a < a' → a' ≤ n → o' ≤ 6 → ∀ l, l ≤ 5 → ∃ r d, Gd B n l o' a' r d) : ∀ j l, l + j = 5 → ∃ r d, Gd B n l o a r d := by
  intro j
  induction j with
  | zero =>
    intro l hl
    obtain rfl : l = 5 := by omega
    exact ex_op hB ha ho (fun h1 h2 l hl => ih (a + 1) (o + 1) (by omega) (by omega) (by omega) l hl)
  | succ j IH =>
    intro l hl
    obtain ⟨r, d, ⟨b1, b2⟩, b3, b4, b5, -⟩ := IH (l + 1) (by omega)
    cases r with
    | none => exact ⟨none, d, ⟨b1, b2⟩, fun e he => (nomatch he), rf_levf hB (by omega) b4, cl_levf (by omega) b5, fun z => absurd z (by omega)⟩
    | some e =>
      obtain ⟨k1, k2, k3⟩ := b3 e rfl
      obtain ⟨r', d', i1, i2, i3, i4, i5⟩ := ex_tail (l := l) (o := o) (a := a) hB (by omega) (fun b h1 h2 => ih (b + 1) o (by omega) (by omega) ho (l + 1) (by omega)) (n - d) d e (Nat.le_refl _) k1 b2 k2 k3
      refine ⟨r', d', ⟨by omega, i2⟩, fun e' he => ?_, rf_lev hB (by omega) b4 i4, cl_lev hB (by omega) b5 k1 k2 i5, fun z => absurd z (by omega)⟩
      obtain ⟨q1, q2⟩ := i3 e' he
      exact ⟨by omega, q1, q2⟩
theorem ex_all {B : Nat → Nat} {n : Nat} (hB : Bk B n) : ∀ N a o, n - a ≤ N → a ≤ n → o ≤ 6 → ∀ l, l ≤ 5 → ∃ r d, Gd B n l o a r d := by
  intro N
  induction N with
  | zero =>
    intro a o h1 h2 h3 l hl
    exact ex_lev hB h2 h3 (fun a' o' q1 q2 => absurd q1 (by omega)) (5 - l) l (by omega)
  | succ N IH =>
    intro a o h1 h2 h3 l hl
    exact ex_lev hB h2 h3 (fun a' o' q1 q2 q3 l' hl' => IH a' o' (by omega) q2 q3 l' hl') (5 - l) l (by omega)
theorem ex_0 {B : Nat → Nat} {n a : Nat} (hB : Bk B n) (ha : a ≤ n) : ∃ r d, Gd B n 0 0 a r d := ex_all hB (n - a) a 0 (Nat.le_refl _) ha (by omega) 0 (by omega)
-- lines
theorem either_d (x : mS) : fX11_either x = rl 60 0 x := rfl
theorem level_d (c : mS) : fX8_readLevel (nI 0) (nI 0) c = cl 60 0 (nI 0) c := rfl
def CI (B : Nat → Nat) (n a : Nat) (st : Option (List Int32)) (d : Nat) : Prop := ∀ c q, CS B n a q c → q ≤ a → ∃ w c', fX8_readLine c = some (w, c') ∧ FC q c c' ∧ match st with
  | some s => w = nI 1 ∧ CS B n d (q + s.length) c' ∧ At (gA c' aP_steps) q s
  | none => w = nI 0 ∧ gI c' iP_at = nI d
theorem ci_1f {B : Nat → Nat} {n a d : Nat} (h : Cl B n 0 0 a none d) : CI B n a none d := by
  intro c q hc hq
  obtain ⟨w, c', e1, e2, e3, e4⟩ := h 60 c q (by omega) hc hq
  unfold fX8_readLine
  rw [level_d, e1, bP_s, e3, if_pos nI_0]
  exact ⟨_, c', rfl, e2, rfl, e4⟩
theorem ci_c {B : Nat → Nat} {n a b : Nat} {e : Ev} (hB : Bk B n) (h : Cl B n 0 0 a (some e) b) (hl : a < b ∧ e.1.length ≤ b - a) (hb : B b ≠ 63) : CI B n a (some (e.1 ++ [-2])) b := by
  intro c q hc hq
  have hn := hB.1
  obtain ⟨w, c', e1, e2, e3, e4, e5⟩ := h 60 c q (by omega) hc hq
  have hbn := e4.2.2.1
  obtain ⟨c2, l1, l2, l3, l4⟩ := ad_c e4 (by omega) (-2)
  unfold fX8_readLine
  rw [level_d, e1, bP_s, e3, if_neg (show ¬ nI 1 = 0 by decide), ct_n hB e4 (by decide) hb, bP_s, if_pos nI_0, l1, bO_s]
  refine ⟨_, c2, rfl, e2.tr l3 (by omega), rfl, ?_, ?_⟩
  · rw [List.length_append, ← Nat.add_assoc]; exact l2
  · exact At.app.mpr ⟨e5.cg fun i i1 i2 => l3.2.2.1 i (by omega), l4, trivial⟩
theorem ci_2f {B : Nat → Nat} {n a b d : Nat} {e : Ev} (hB : Bk B n) (h : Cl B n 0 0 a (some e) b) (hl : a < b ∧ e.1.length ≤ b - a) (hb : B b = 63) (g : Cl B n 0 0 (b + 1) none d) : CI B n a none d := by
  intro c q hc hq
  have hbn : b < n := hB.lt (by omega)
  obtain ⟨w, c', e1, e2, e3, e4, e5⟩ := h 60 c q (by omega) hc hq
  obtain ⟨w', c2, g1, g2, g3, g4⟩ := g 60 _ _ (by omega) (e4.go hbn) (by omega)
  unfold fX8_readLine
  rw [level_d, e1, bP_s, e3, if_neg (show ¬ nI 1 = 0 by decide), ct_y hB e4 (by decide) hb, bP_s, if_neg (show ¬ nI 1 = 0 by decide), level_d, g1, bP_s, g3, if_pos nI_0]
  exact ⟨_, c2, rfl, (e2.tr (FC.at q c' _) (Nat.le_refl q)).tr g2 (by omega), rfl, g4⟩
theorem ci_q {B : Nat → Nat} {n a b d : Nat} {e g : Ev} (hB : Bk B n) (h : Cl B n 0 0 a (some e) b) (hl : a < b ∧ e.1.length ≤ b - a) (hb : B b = 63) (k : Cl B n 0 0 (b + 1) (some g) d) (hl2 : b + 1 < d ∧ g.1.length ≤ d - (b + 1)) : CI B n a (some (e.1 ++ g.1 ++ [-3])) d := by
  intro c q hc hq
  have hn := hB.1
  have hbn : b < n := hB.lt (by omega)
  obtain ⟨w, c', e1, e2, e3, e4, e5⟩ := h 60 c q (by omega) hc hq
  obtain ⟨w', c2, g1, g2, g3, g4, g5⟩ := k 60 _ _ (by omega) (e4.go hbn) (by omega)
  have hdn := g4.2.2.1
  obtain ⟨c3, l1, l2, l3, l4⟩ := ad_c g4 (by omega) (-3)
  unfold fX8_readLine
  rw [level_d, e1, bP_s, e3, if_neg (show ¬ nI 1 = 0 by decide), ct_y hB e4 (by decide) hb, bP_s, if_neg (show ¬ nI 1 = 0 by decide), level_d, g1, bP_s, g3, if_neg (show ¬ nI 1 = 0 by decide), l1, bO_s]
  refine ⟨_, c3, rfl, ((e2.tr (FC.at q c' _) (Nat.le_refl q)).tr g2 (by omega)).tr l3 (by omega), rfl, ?_, ?_⟩
  · rw [List.length_append, List.length_append, ← Nat.add_assoc, ← Nat.add_assoc]; exact l2
  · refine At.app.mpr ⟨At.app.mpr ⟨e5.cg fun i i1 i2 => ?_, g5.cg fun i i1 i2 => l3.2.2.1 i (by omega)⟩, ?_, trivial⟩
    · rw [l3.2.2.1 i (by omega), g2.2.2.1 i (by omega)]
      rfl
    · rw [List.length_append, ← Nat.add_assoc]; exact l4
def up3 (y3 y4 : Int32) (o : Option Int32) : Int32 × Int32 := match o with
  | none => (y3, y4)
  | some v => if y3 = 0 then (nI 1, v) else (y3, y4)
def RI (B : Nat → Nat) (n a : Nat) (vf : Option ((Nat → Int32) → Option Int32)) (d : Nat) : Prop := ∀ k x y3 y4, Xa B n a 0 x → match vf with
  | some f => ∃ x', Xa B n d 0 x' ∧ FX x x' ∧ fX11_workOut_b33 (k + 1) y3 y4 (nI 1) x = fX11_workOut_b96 (fun u0 u1 u2 u3 => fX11_workOut_b33 k u0 u1 u2 u3) (up3 y3 y4 (f (rho x))).1 (up3 y3 y4 (f (rho x))).2 x'
  | none => ∃ x', Xf B n d x' ∧ FX x x' ∧ fX11_workOut_b33 (k + 1) y3 y4 (nI 1) x = fX11_workOut_b96 (fun u0 u1 u2 u3 => fX11_workOut_b33 k u0 u1 u2 u3) y3 y4 x'
theorem w74_f {B : Nat → Nat} {n d : Nat} {x : mS} {K33 : Int32 → Int32 → Int32 → mS → Option (Int32 × mS)} {y3 y4 y6 y7 : Int32} (hB : Bk B n) (h : Xf B n d x) : fX11_workOut_b74 K33 y3 y4 y6 y7 x = fX11_workOut_b96 K33 y3 y4 x := by
  unfold fX11_workOut_b74
  rw [if_pos (h.yf hB)]
theorem w74_a {B : Nat → Nat} {n d o : Nat} {x : mS} {K33 : Int32 → Int32 → Int32 → mS → Option (Int32 × mS)} {y3 y4 y6 y7 : Int32} (h : Xa B n d o x) : fX11_workOut_b74 K33 y3 y4 y6 y7 x = fX11_workOut_b96 K33 (up3 y3 y4 (if y7 = 0 then none else some y6)).1 (up3 y3 y4 (if y7 = 0 then none else some y6)).2 x := by
  unfold fX11_workOut_b74
  rw [if_neg h.nf]
  by_cases g : y7 = 0
  · rw [if_pos g, if_pos g]
    rfl
  · rw [if_neg g, if_neg g]
    show _ = fX11_workOut_b96 K33 (if y3 = 0 then (nI 1, y6) else (y3, y4)).1 (if y3 = 0 then (nI 1, y6) else (y3, y4)).2 x
    by_cases g3 : y3 = 0
    · rw [if_pos g3, if_pos g3, bnd_d, bnd_d]
    · rw [if_neg g3, if_neg g3]
theorem ri_1f {B : Nat → Nat} {n a d : Nat} (hB : Bk B n) (h : Rf B n 0 0 a none d) : RI B n a none d := by
  intro k x y3 y4 hx
  obtain ⟨v, y, e1, e2, e3⟩ := h 60 x (by omega) hx
  refine ⟨y, e3, e2, ?_⟩
  rw [fX11_workOut_b33, if_neg (show ¬ nI 1 = 0 by decide), either_d, e1, bP_s, bnd_d, bnd_d, tk_f hB e3, bP_s, if_pos nI_0, w74_f hB e3]
theorem ri_c {B : Nat → Nat} {n a b : Nat} {e : Ev} (hB : Bk B n) (h : Rf B n 0 0 a (some e) b) (hb : B b ≠ 63) : RI B n a (some (fun ρ => some (e.2 ρ))) b := by
  intro k x y3 y4 hx
  obtain ⟨v, y, e1, e2, e3, e4⟩ := h 60 x (by omega) hx
  refine ⟨y, e4, e2, ?_⟩
  rw [fX11_workOut_b33, if_neg (show ¬ nI 1 = 0 by decide), either_d, e1, bP_s, bnd_d, bnd_d, tk_n hB e4 (by decide) (by decide) hb, bP_s, if_pos nI_0, w74_a e4, if_neg (show ¬ nI 1 = 0 by decide), e3]
theorem ri_2f {B : Nat → Nat} {n a b d : Nat} {e : Ev} (hB : Bk B n) (h : Rf B n 0 0 a (some e) b) (hb : B b = 63) (g : Rf B n 0 0 (b + 1) none d) : RI B n a none d := by
  intro k x y3 y4 hx
  have hbn : b < n := hB.lt (by omega)
  obtain ⟨v, y, e1, e2, e3, e4⟩ := h 60 x (by omega) hx
  obtain ⟨w, z, g1, g2, g3⟩ := g 60 _ (by omega) (e4.go hbn)
  refine ⟨z, g3, (e2.I _ (Or.inl rfl)).tr g2, ?_⟩
  rw [fX11_workOut_b33, if_neg (show ¬ nI 1 = 0 by decide), either_d, e1, bP_s, bnd_d, bnd_d, tk_y hB e4 (by decide) (by decide) hb, bP_s, if_neg (show ¬ nI 1 = 0 by decide)]
  unfold fX11_workOut_b66
  by_cases q : v = 0
  · rw [if_pos q, bnd_d, either_d, g1, bP_s, bnd_d, w74_f hB g3]
  · rw [if_neg q, bnd_d, either_d, g1, bP_s, bnd_d, w74_f hB g3]
theorem ri_q {B : Nat → Nat} {n a b d : Nat} {e g : Ev} (hB : Bk B n) (h : Rf B n 0 0 a (some e) b) (hb : B b = 63) (k' : Rf B n 0 0 (b + 1) (some g) d) : RI B n a (some (fun ρ => if e.2 ρ = 0 then none else some (g.2 ρ))) d := by
  intro k x y3 y4 hx
  have hbn : b < n := hB.lt (by omega)
  obtain ⟨v, y, e1, e2, e3, e4⟩ := h 60 x (by omega) hx
  obtain ⟨w, z, g1, g2, g3, g4⟩ := k' 60 _ (by omega) (e4.go hbn)
  have fr : FX x (pI y iX_at (nI (b + 1))) := e2.I _ (Or.inl rfl)
  refine ⟨z, g4, fr.tr g2, ?_⟩
  rw [fX11_workOut_b33, if_neg (show ¬ nI 1 = 0 by decide), either_d, e1, bP_s, bnd_d, bnd_d, tk_y hB e4 (by decide) (by decide) hb, bP_s, if_neg (show ¬ nI 1 = 0 by decide)]
  unfold fX11_workOut_b66
  by_cases q : v = 0
  · rw [if_pos q, bnd_d, either_d, g1, bP_s, bnd_d, w74_a g4, if_pos nI_0]
    dsimp only
    rw [← e3, if_pos q]
  · rw [if_neg q, bnd_d, either_d, g1, bP_s, bnd_d, w74_a g4, if_neg (show ¬ nI 1 = 0 by decide), g3, fr.rho]
    dsimp only
    rw [← e3, if_neg q]
def XI (s : List Int32) (f : (Nat → Int32) → Option Int32) : Prop := ∀ i k K c, i + s.length ≤ K → K ≤ 121 → gI c iL_stepsSize = nI K → At (gA c aL_steps) i s → ∃ c', SL 0 c c' ∧ fX4_value_b4 (k + s.length) (nI 0) (nI i) c = match f (rhoC c) with
  | some v => some (v, c')
  | none => fX4_value_b4 k (nI 0) (nI (i + s.length)) c'
theorem xi_c {e : Ev} {len : Nat} (he : Xe e len) (hl : len ≤ 120) : XI (e.1 ++ [-2]) (fun ρ => some (e.2 ρ)) := by
  intro i k K c b hK eK at'
  have ln : (e.1 ++ [(-2 : Int32)]).length = e.1.length + 1 := by
    simp only [List.length_append, List.length_cons, List.length_nil]
  rw [ln] at b ⊢
  obtain ⟨a1, a2, -⟩ := At.app.mp at'
  obtain ⟨c', d1, d2, d3⟩ := he 0 i (k + 1) K c (by omega) (by omega) hK eK a1
  refine ⟨c', d2, ?_⟩
  rw [show k + (e.1.length + 1) = k + 1 + e.1.length by omega, d1, st_c (c := c') (by rw [d2.1]; exact eK) (by omega) hK (by rw [d2.2.1 _ (by decide)]; exact a2), d3]
theorem xi_q {e g : Ev} {len l2 : Nat} (he : Xe e len) (hl : len ≤ 120) (hg : Xe g l2) (hl2 : l2 + 2 ≤ 120) : XI (e.1 ++ g.1 ++ [-3]) (fun ρ => if e.2 ρ = 0 then none else some (g.2 ρ)) := by
  intro i k K c b hK eK at'
  have ln : (e.1 ++ g.1 ++ [(-3 : Int32)]).length = e.1.length + g.1.length + 1 := by
    simp only [List.length_append, List.length_cons, List.length_nil]
  rw [ln] at b ⊢
  obtain ⟨a0, a3, -⟩ := At.app.mp at'
  obtain ⟨a1, a2⟩ := At.app.mp a0
  rw [List.length_append, ← Nat.add_assoc] at a3
  obtain ⟨c1, d1, d2, d3⟩ := he 0 i (k + 1 + g.1.length) K c (by omega) (by omega) hK eK a1
  obtain ⟨c2, f1, f2, f3⟩ := hg 1 (i + e.1.length) (k + 1) K c1 (by omega) (by omega) hK (by rw [d2.1]; exact eK) (by rw [d2.2.1 _ (by decide)]; exact a2)
  refine ⟨c2, d2.tr f2 (by omega), ?_⟩
  rw [show k + (e.1.length + g.1.length + 1) = k + 1 + g.1.length + e.1.length by omega, d1, f1, st_q (c := c2) (by rw [f2.1, d2.1]; exact eK) (by omega) hK (by rw [f2.2.1 _ (by decide), d2.2.1 _ (by decide)]; exact a3), f2.2.2.1 0 (by omega), d3, f3, d2.rho]
  dsimp only
  by_cases q : e.2 (rhoC c) = 0
  · rw [if_pos q, if_pos q, show i + e.1.length + g.1.length + 1 = i + (e.1.length + g.1.length + 1) by omega]
  · rw [if_neg q, if_neg q]
/-- a line -/
theorem ex_line {B : Nat → Nat} {n a : Nat} (hB : Bk B n) (ha : a ≤ n) : (∃ d, d ≤ n ∧ CI B n a none d ∧ RI B n a none d) ∨ ∃ s f d, a < d ∧ d ≤ n ∧ s.length ≤ d - a + 1 ∧ CI B n a (some s) d ∧ RI B n a (some f) d ∧ XI s f := by
  have hn := hB.1
  obtain ⟨r, b, ⟨b1, b2⟩, b3, b4, b5, -⟩ := ex_0 hB ha
  cases r with
  | none => exact Or.inl ⟨b, b2, ci_1f b5, ri_1f hB b4⟩
  | some e =>
    obtain ⟨k1, k2, k3⟩ := b3 e rfl
    by_cases h63 : B b = 63
    · have hbn : b < n := hB.lt (by omega)
      obtain ⟨r, d, ⟨c1, c2⟩, c3, c4, c5, -⟩ := ex_0 (a := b + 1) hB (by omega)
      cases r with
      | none => exact Or.inl ⟨d, c2, ci_2f hB b5 ⟨k1, k2⟩ h63 c5, ri_2f hB b4 h63 c4⟩
      | some g =>
        obtain ⟨m1, m2, m3⟩ := c3 g rfl
        refine Or.inr ⟨_, _, d, by omega, c2, ?_, ci_q hB b5 ⟨k1, k2⟩ h63 c5 ⟨m1, m2⟩, ri_q hB b4 h63 c4, xi_q k3 (by omega) m3 (by omega)⟩
        simp only [List.length_append, List.length_cons, List.length_nil]
        omega
    · refine Or.inr ⟨_, _, b, k1, b2, ?_, ci_c hB b5 ⟨k1, k2⟩ h63, ri_c hB b4 h63, xi_c k3 (by omega)⟩
      simp only [List.length_append, List.length_cons, List.length_nil]
      omega
