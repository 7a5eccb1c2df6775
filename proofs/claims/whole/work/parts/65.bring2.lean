-- bring: the class's search
def Tt (H : Nat → Nat) (u w : Nat) : Nat := 169 * near (u / 169) (H (3 * w)) + 13 * near (u / 13 % 13) (H (3 * w + 1)) + near (u % 13) (H (3 * w + 2))
theorem Tt_lt {H : Nat → Nat} {u w : Nat} (hH : ∀ i, i < 24 → H i ≤ 12) (hu : u < 2197) (hw : w < 8) : Tt H u w < 2197 := by
  have h1 := near_le (u := u / 169) (t := 12) (by omega) (hH (3 * w) (by omega))
  have h2 := near_le (u := u / 13 % 13) (t := 12) (by omega) (hH (3 * w + 1) (by omega))
  have h3 := near_le (u := u % 13) (t := 12) (by omega) (hH (3 * w + 2) (by omega))
  unfold Tt
  omega
theorem pt0 {u : Nat} (hu : u < 2197) (s : mS) : fX2_part (nI u) (nI 0) s = some (nI (u / 169)) := by
  unfold fX2_part
  rw [if_pos nI_0, nDiv (by omega) (by omega)]
theorem pt1 {u : Nat} (hu : u < 2197) (s : mS) : fX2_part (nI u) (nI 1) s = some (nI (u / 13 % 13)) := by
  unfold fX2_part
  rw [if_neg (show ¬ nI 1 = 0 by decide), if_pos rfl, nDiv (by omega) (by omega), nRem (by omega) (by omega)]
theorem pt2 {u : Nat} (hu : u < 2197) (s : mS) : fX2_part (nI u) (nI 2) s = some (nI (u % 13)) := by
  unfold fX2_part
  rw [if_neg (show ¬ nI 2 = 0 by decide), if_neg (show ¬ nI 2 = nI 1 by decide), nRem (by omega) (by omega)]
theorem px0 {u : Nat} (hu : u < 2197) (s : mS) : fX11_inCode (nI u) (nI 0) s = some (nI (u / 169)) := pt0 hu s
theorem px1 {u : Nat} (hu : u < 2197) (s : mS) : fX11_inCode (nI u) (nI 1) s = some (nI (u / 13 % 13)) := pt1 hu s
theorem px2 {u : Nat} (hu : u < 2197) (s : mS) : fX11_inCode (nI u) (nI 2) s = some (nI (u % 13)) := pt2 hu s
def HC (W : Nat) (H : Nat → Nat) (c : mS) : Prop := gI c (iW_size 0) = nI W ∧ ∀ i, i < 24 → gA c (aW_hands 0) i = nI (H i)
def HX (W : Nat) (H : Nat → Nat) (x : mS) : Prop := gI x iX_writers = nI W ∧ ∀ i, i < 24 → gA x aX_may (32 + i) = nI (H i)
theorem typed_c {W : Nat} {H : Nat → Nat} {c : mS} (hH : ∀ i, i < 24 → H i ≤ 12) (h : HC W H c) {u w : Nat} (hu : u < 2197) (hw : w < 8) : fX0_typed 0 (nI u) (nI w) c = some (nI (Tt H u w)) := by
  have a0 := hH (3 * w) (by omega)
  have a1 := hH (3 * w + 1) (by omega)
  have a2 := hH (3 * w + 2) (by omega)
  unfold fX0_typed fX9_hand fX2_code
  rw [pt0 hu, bO_s, nM, nA, ldA_n (by omega) (by omega), h.2 _ (by omega), bO_s, Nat.add_zero, near_c (by omega) (by omega), bO_s, bnd_d, pt1 hu, bO_s, nA, ldA_n (by omega) (by omega), h.2 _ (by omega), bO_s, near_c (by omega) (by omega), bO_s, bnd_d, pt2 hu, bO_s, nA, ldA_n (by omega) (by omega), h.2 _ (by omega), bO_s, near_c (by omega) (by omega), bO_s, bnd_d, bO_s, nM, nM, nA, nA]
  rfl
theorem behind_x {W : Nat} {H : Nat → Nat} {x : mS} (hH : ∀ i, i < 24 → H i ≤ 12) (h : HX W H x) {u w : Nat} (hu : u < 2197) (hw : w < 8) : fX11_codeBehind (nI u) (nI w) x = some (nI (Tt H u w)) := by
  have a0 := hH (3 * w) (by omega)
  have a1 := hH (3 * w + 1) (by omega)
  have a2 := hH (3 * w + 2) (by omega)
  have e0 := h.2 (3 * w) (by omega)
  have e1 := h.2 (3 * w + 1) (by omega)
  have e2 := h.2 (3 * w + 2) (by omega)
  rw [← Nat.add_assoc] at e1 e2
  obtain ⟨f, hf⟩ : ∃ f, mFu = f + 4 := ⟨5996, rfl⟩
  unfold fX11_codeBehind
  rw [bnd_d, bnd_d, hf]
  unfold fX11_codeBehind_b5
  rw [if_neg (show ¬ nI 3 ≤ nI 0 by decide), px0 hu, bO_s]
  unfold fX11_handOf
  rw [nM, nA, nA, ldA_n (by omega) (by omega), Nat.add_zero, e0, bO_s, near_x (by omega) (by omega), bO_s, bnd_d, bnd_d]
  unfold fX11_codeBehind_b5
  rw [nA, nM, nA, if_neg (show ¬ nI 3 ≤ nI (0 + 1) by decide), px1 hu, bO_s]
  unfold fX11_handOf
  rw [nM, nA, nA, ldA_n (by omega) (by omega), e1, bO_s, near_x (by omega) (by omega), bO_s, bnd_d, bnd_d]
  unfold fX11_codeBehind_b5
  rw [nA, nM, nA, if_neg (show ¬ nI 3 ≤ nI (0 + 1 + 1) by decide), px2 hu, bO_s]
  unfold fX11_handOf
  rw [nM, nA, nA, ldA_n (by omega) (by omega), e2, bO_s, near_x (by omega) (by omega), bO_s, bnd_d, bnd_d]
  unfold fX11_codeBehind_b5
  rw [nA, nM, nA, if_pos (show nI 3 ≤ nI (0 + 1 + 1 + 1) by decide)]
  congr 2
  unfold Tt
  omega
def up (f : Nat → Nat) (n v : Nat) (i : Nat) : Nat := if i = n then v else f i
theorem up_n (f : Nat → Nat) (n v : Nat) : up f n v n = v := if_pos rfl
theorem up_o (f : Nat → Nat) {n i : Nat} (v : Nat) (h : i ≠ n) : up f n v i = f i := if_neg h
theorem bq_new {T : Nat → Nat → Nat} {W S F tail v : Nat} {Q ed : Nat → Nat} (h : BQ T W S F tail Q ed) (hF : F / 8 < tail) (hw : F % 8 < W) (hv : v < 2197) (hT : T (Q (F / 8)) (F % 8) = v) (hn : ∀ i, i < tail → Q i ≠ v) : BQ T W S (F + 1) (tail + 1) (up Q tail v) (up ed tail F) := by
  have t1 := h.t1
  refine ⟨by omega, ?_, fun i hi => ?_, fun i j hi hj e => ?_, fun i h0 hi => ?_, fun i h0 hi => ?_, fun i h0 hi => ?_, fun i h0 hi => ?_, fun i j h0 h1 hj => ?_, fun e he hm => ?_⟩
  · rw [up_o Q v (by omega)]; exact h.q0
  · by_cases g : i = tail
    · rw [g, up_n]; exact hv
    · rw [up_o Q v g]; exact h.qb i (by omega)
  · by_cases g : i = tail
    · by_cases g' : j = tail
      · omega
      · rw [g, up_n, up_o Q v g'] at e; exact absurd e.symm (hn j (by omega))
    · by_cases g' : j = tail
      · rw [g', up_n, up_o Q v g] at e; exact absurd e (hn i (by omega))
      · rw [up_o Q v g, up_o Q v g'] at e; exact h.inj i j (by omega) (by omega) e
  · by_cases g : i = tail
    · rw [g, up_n]; exact hF
    · rw [up_o ed F g]; exact h.e1 i h0 (by omega)
  · by_cases g : i = tail
    · rw [g, up_n]; exact hw
    · rw [up_o ed F g]; exact h.e2 i h0 (by omega)
  · by_cases g : i = tail
    · rw [g, up_n, up_n, up_o Q v (by omega)]; exact hT
    · have := h.e1 i h0 (by omega)
      rw [up_o ed F g, up_o Q v g, up_o Q v (by omega)]; exact h.e3 i h0 (by omega)
  · by_cases g : i = tail
    · rw [g, up_n]; omega
    · have := h.e4 i h0 (by omega)
      rw [up_o ed F g]; omega
  · by_cases g : j = tail
    · have := h.e4 i h0 (by omega)
      rw [g, up_n, up_o ed F (by omega)]; exact this
    · rw [up_o ed F g, up_o ed F (by omega)]; exact h.mono i j h0 h1 (by omega)
  · by_cases g : e = F
    · subst g
      refine ⟨by omega, tail, by omega, ?_, Or.inr (by rw [up_n]; exact Nat.le_refl _)⟩
      rw [up_n, up_o Q v (by omega)]; exact hT.symm
    · obtain ⟨a1, j, a2, a3, a4⟩ := h.ex e (by omega) hm
      refine ⟨by omega, j, by omega, ?_, ?_⟩
      · rw [up_o Q v (by omega), up_o Q v (by omega)]; exact a3
      · rw [up_o ed F (by omega)]; exact a4
theorem bq_old {T : Nat → Nat → Nat} {W S F tail : Nat} {Q ed : Nat → Nat} (h : BQ T W S F tail Q ed) (hF : F / 8 < tail) (hn : ∃ j, j < tail ∧ Q j = T (Q (F / 8)) (F % 8)) : BQ T W S (F + 1) tail Q ed := by
  refine ⟨h.t1, h.q0, h.qb, h.inj, h.e1, h.e2, h.e3, fun i h0 hi => ?_, h.mono, fun e he hm => ?_⟩
  · have := h.e4 i h0 hi; omega
  · by_cases g : e = F
    · subst g
      obtain ⟨j, j1, j2⟩ := hn
      refine ⟨hF, j, j1, j2, ?_⟩
      rcases Nat.eq_zero_or_pos j with z | z
      · exact Or.inl z
      · have := h.e4 j z j1; exact Or.inr (by omega)
    · exact h.ex e (by omega) hm
theorem bq_skip {T : Nat → Nat → Nat} {W S F F' tail : Nat} {Q ed : Nat → Nat} (h : BQ T W S F tail Q ed) (h1 : F ≤ F') (h2 : ∀ e, F ≤ e → e < F' → ¬ e % 8 < W) : BQ T W S F' tail Q ed := by
  refine ⟨h.t1, h.q0, h.qb, h.inj, h.e1, h.e2, h.e3, fun i h0 hi => ?_, h.mono, fun e he hm => ?_⟩
  · have := h.e4 i h0 hi; omega
  · by_cases g : e < F
    · exact h.ex e g hm
    · exact absurd hm (h2 e (by omega) he)
theorem bq_t {T : Nat → Nat → Nat} {W S F tail : Nat} {Q ed : Nat → Nat} (h : BQ T W S F tail Q ed) : tail ≤ 2197 := pig 2197 tail Q h.qb h.inj
theorem bq_t' {T : Nat → Nat → Nat} {W S F tail v : Nat} {Q ed : Nat → Nat} (h : BQ T W S F tail Q ed) (hv : v < 2197) (hn : ∀ i, i < tail → Q i ≠ v) : tail < 2197 := by
  have := pig 2197 (tail + 1) (up Q tail v) (fun i hi => by
    by_cases g : i = tail
    · rw [g, up_n]; exact hv
    · rw [up_o Q v g]; exact h.qb i (by omega)) (fun i j hi hj e => by
    by_cases g : i = tail
    · by_cases g' : j = tail
      · omega
      · rw [g, up_n, up_o Q v g'] at e; exact absurd e.symm (hn j (by omega))
    · by_cases g' : j = tail
      · rw [g', up_n, up_o Q v g] at e; exact absurd e (hn i (by omega))
      · rw [up_o Q v g, up_o Q v g'] at e; exact h.inj i j (by omega) (by omega) e)
  omega
/-- the search as the class's rows show it -/
def CQ (T : Nat → Nat → Nat) (W S F tail : Nat) (Q ed : Nat → Nat) (c : mS) : Prop := BQ T W S F tail Q ed ∧ (∀ i, i < tail → gA c aB_queue i = nI (Q i)) ∧ gA c aB_ways S = nI (8 * S) ∧ (∀ i, 0 < i → i < tail → gA c aB_ways (Q i) = nI (8 * Q (ed i / 8) + ed i % 8)) ∧ ∀ v, v < 2197 → (∀ i, i < tail → Q i ≠ v) → gA c aB_ways v = -1
theorem cq_in {T : Nat → Nat → Nat} {W S F tail : Nat} {Q ed : Nat → Nat} {c : mS} (h : CQ T W S F tail Q ed c) (hW : W ≤ 8) {i : Nat} (hi : i < tail) : ¬ gA c aB_ways (Q i) = -1 := by
  have nn : ∀ v, v < 2147483648 → ¬ nI v = -1 := fun v hv z => by
    have := nI_pos hv
    rw [z] at this
    exact this (by decide)
  rcases Nat.eq_zero_or_pos i with z | z
  · have hq := h.1.qb i hi
    rw [z] at hq ⊢
    rw [h.1.q0] at hq ⊢
    rw [h.2.2.1]
    exact nn _ (by omega)
  · have h1 := h.1.e1 i z hi
    have hq := h.1.qb _ (show ed i / 8 < tail by omega)
    rw [h.2.2.2.1 i z hi]
    exact nn _ (by omega)
theorem cq_out {T : Nat → Nat → Nat} {W S F tail : Nat} {Q ed : Nat → Nat} {c : mS} (h : CQ T W S F tail Q ed c) (hW : W ≤ 8) {v : Nat} (hv : v < 2197) : (gA c aB_ways v = -1 ∧ ∀ i, i < tail → Q i ≠ v) ∨ (¬ gA c aB_ways v = -1 ∧ ∃ i, i < tail ∧ Q i = v) := by
  by_cases g : ∃ i, i < tail ∧ Q i = v
  · obtain ⟨i, i1, i2⟩ := g
    exact Or.inr ⟨by rw [← i2]; exact cq_in h hW i1, i, i1, i2⟩
  · have g' : ∀ i, i < tail → Q i ≠ v := fun i hi z => g ⟨i, hi, z⟩
    exact Or.inl ⟨h.2.2.2.2 v hv g', g'⟩
def KC (W : Nat) (H : Nat → Nat) (c d : mS) : Prop := smC c d ∧ HC W H d ∧ gI d iB_goal = gI c iB_goal
theorem bi_loop {H : Nat → Nat} {W S head : Nat} {y1 y2 : Int32} {K36 : Nat → Int32 → Int32 → Int32 → Int32 → mS → Option (Int32 × mS)} (hH : ∀ i, i < 24 → H i ≤ 12) (hW : W ≤ 8) : ∀ (r k w tail : Nat) (Q ed : Nat → Nat) (c : mS), w + r = W → r < k → head < tail → CQ (Tt H) W S (8 * head + w) tail Q ed c → HC W H c → ∃ tail' Q' ed' c', fX0_fewest_b64 K36 k 0 y1 y2 (nI tail) (nI head) (nI w) c = K36 0 y1 y2 (nI tail') (nI (head + 1)) c' ∧ CQ (Tt H) W S (8 * (head + 1)) tail' Q' ed' c' ∧ KC W H c c' ∧ tail ≤ tail' := by
  intro r
  induction r with
  | zero =>
    intro k w tail Q ed c h1 h2 ht hq hc
    obtain ⟨k, rfl⟩ : ∃ k', k = k' + 1 := ⟨k - 1, by omega⟩
    rw [fX0_fewest_b64, hc.1, if_pos ((nLe (by omega) (by omega)).mpr (by omega)), bnd_d, nA]
    exact ⟨tail, Q, ed, c, rfl, ⟨bq_skip hq.1 (by omega) (fun e e1 e2 => by omega), hq.2⟩, ⟨smC.rf c, hc, rfl⟩, Nat.le_refl _⟩
  | succ r ih =>
    intro k w tail Q ed c h1 h2 ht hq hc
    obtain ⟨k, rfl⟩ : ∃ k', k = k' + 1 := ⟨k - 1, by omega⟩
    have hqh := hq.1.qb head ht
    have hv : Tt H (Q head) w < 2197 := Tt_lt hH hqh (by omega)
    have ht7 := bq_t hq.1
    have d8 : (8 * head + w) / 8 = head := by omega
    have m8 : (8 * head + w) % 8 = w := by omega
    rw [fX0_fewest_b64, hc.1, if_neg (fun z => absurd ((nLe (by omega) (by omega)).mp z) (by omega)), ldA_n (by omega) (by omega), hq.2.1 head ht, typed_c hH hc hqh (by omega), bO_s, bnd_d, ldA_n hv (by omega)]
    rcases cq_out hq hW hv with ⟨g1, g2⟩ | ⟨g1, g2⟩
    · have htl := bq_t' hq.1 hv g2
      have hS := hq.1.q0
      have t1 := hq.1.t1
      rw [if_pos g1, if_neg (fun z => absurd ((nLe (by omega) (by omega)).mp z) (by omega)), ldA_n (by omega) (by omega), hq.2.1 head ht, nM, nA, stA_n hv (by omega), stA_n htl (by omega), bnd_d, nA]
      unfold fX0_fewest_b139
      rw [bnd_d, nA]
      have hq' : CQ (Tt H) W S (8 * head + (w + 1)) (tail + 1) (up Q tail (Tt H (Q head) w)) (up ed tail (8 * head + w)) (pA (pA c aB_ways (Tt H (Q head) w) (nI (8 * Q head + w))) aB_queue tail (nI (Tt H (Q head) w))) := by
        have bn : BQ (Tt H) W S (8 * head + w + 1) (tail + 1) (up Q tail (Tt H (Q head) w)) (up ed tail (8 * head + w)) := bq_new hq.1 (by omega) (by omega) hv (by rw [d8, m8]) g2
        refine ⟨bn, fun i hi => ?_, ?_, fun i h0 hi => ?_, fun v hv' hn => ?_⟩
        · rw [gA_eq]
          by_cases e : i = tail
          · rw [if_pos e, e, up_n]
          · rw [if_neg e, up_o Q _ e, gA_ne (by decide)]; exact hq.2.1 i (by omega)
        · rw [gA_ne (by decide), gA_eq, if_neg (fun z => g2 0 (by omega) (hS.trans z))]; exact hq.2.2.1
        · rw [gA_ne (by decide), gA_eq]
          by_cases e : i = tail
          · rw [e, up_n, up_n, if_pos rfl, d8, m8, up_o Q _ (by omega)]
          · have := hq.1.e1 i h0 (by omega)
            rw [up_o Q _ e, up_o ed _ e, up_o Q _ (by omega), if_neg (g2 i (by omega))]
            exact hq.2.2.2.1 i h0 (by omega)
        · have hne : v ≠ Tt H (Q head) w := fun z => hn tail (by omega) (by rw [up_n]; exact z.symm)
          rw [gA_ne (by decide), gA_eq, if_neg hne]
          refine hq.2.2.2.2 v hv' (fun i hi => ?_)
          have := hn i (by omega)
          rw [up_o Q _ (by omega)] at this
          exact this
      have hc' : HC W H (pA (pA c aB_ways (Tt H (Q head) w) (nI (8 * Q head + w))) aB_queue tail (nI (Tt H (Q head) w))) := ⟨hc.1, fun i hi => by rw [gA_ne (by decide), gA_ne (by decide)]; exact hc.2 i hi⟩
      obtain ⟨tail', Q', ed', c', e1, e2, e3, e4⟩ := ih k (w + 1) (tail + 1) _ _ _ (by omega) (by omega) (by omega) hq' hc'
      exact ⟨tail', Q', ed', c', e1, e2, ⟨(((smC.rf c).pA _ _ _ (by decide)).pA _ _ _ (by decide)).tr e3.1, e3.2.1, e3.2.2⟩, by omega⟩
    · rw [if_neg g1]
      unfold fX0_fewest_b139
      rw [bnd_d, nA]
      have hq' : CQ (Tt H) W S (8 * head + w + 1) tail Q ed c := ⟨bq_old hq.1 (by omega) (by rw [d8, m8]; exact g2), hq.2⟩
      exact ih k (w + 1) tail Q ed c (by omega) (by omega) ht hq' hc
theorem bo_loop {H : Nat → Nat} {W S G : Nat} {y1 : Int32} (hH : ∀ i, i < 24 → H i ≤ 12) (hW : W ≤ 8) (hG : G < 2197) : ∀ (r k head tail : Nat) (Q ed : Nat → Nat) (c : mS), head + r = 2197 → r < k → head ≤ tail → CQ (Tt H) W S (8 * head) tail Q ed c → HC W H c → ∃ F' tail' Q' ed' c', fX0_fewest_b36 k 0 y1 (nI G) (nI tail) (nI head) c = fX0_fewest_b151 y1 (nI G) c' ∧ CQ (Tt H) W S F' tail' Q' ed' c' ∧ F' % 8 = 0 ∧ KC W H c c' ∧ ((∃ g, g < tail' ∧ Q' g = G) ∨ (8 * tail' ≤ F' ∧ ∀ i, i < tail' → Q' i ≠ G)) := by
  intro r
  induction r with
  | zero =>
    intro k head tail Q ed c h1 h2 ht hq hc
    obtain ⟨k, rfl⟩ : ∃ k', k = k' + 1 := ⟨k - 1, by omega⟩
    have ht7 := bq_t hq.1
    rw [fX0_fewest_b36, if_pos ((nLe (by omega) (by omega)).mpr (by omega))]
    refine ⟨8 * head, tail, Q, ed, c, rfl, hq, by omega, ⟨smC.rf c, hc, rfl⟩, ?_⟩
    rcases cq_out hq hW hG with ⟨g1, g2⟩ | ⟨g1, g2⟩
    · exact Or.inr ⟨by omega, g2⟩
    · exact Or.inl g2
  | succ r ih =>
    intro k head tail Q ed c h1 h2 ht hq hc
    obtain ⟨k, rfl⟩ : ∃ k', k = k' + 1 := ⟨k - 1, by omega⟩
    have ht7 := bq_t hq.1
    by_cases g : tail ≤ head
    · rw [fX0_fewest_b36, if_neg (fun z => absurd ((nLe (by omega) (by omega)).mp z) (by omega)), if_pos ((nLe (by omega) (by omega)).mpr g)]
      refine ⟨8 * head, tail, Q, ed, c, rfl, hq, by omega, ⟨smC.rf c, hc, rfl⟩, ?_⟩
      rcases cq_out hq hW hG with ⟨g1, g2⟩ | ⟨g1, g2⟩
      · exact Or.inr ⟨by omega, g2⟩
      · exact Or.inl g2
    · rw [fX0_fewest_b36, if_neg (fun z => absurd ((nLe (by omega) (by omega)).mp z) (by omega)), if_neg (fun z => g ((nLe (by omega) (by omega)).mp z)), ldA_n hG (by omega)]
      rcases cq_out hq hW hG with ⟨g1, g2⟩ | ⟨g1, g2⟩
      · rw [if_pos g1, bnd_d]
        obtain ⟨tail', Q', ed', c', e1, e2, e3, e4⟩ := bi_loop (S := S) (head := head) (y1 := y1) (y2 := nI G) (K36 := fun u0 u1 u2 u3 u4 u5 => fX0_fewest_b36 k u0 u1 u2 u3 u4 u5) hH hW W mFu 0 tail Q ed c (by omega) (show W < 6000 by omega) (by omega) hq hc
        rw [e1]
        obtain ⟨F', tail'', Q'', ed'', c'', d1, d2, d3, d4, d5⟩ := ih k (head + 1) tail' Q' ed' c' (by omega) (by omega) (by omega) e2 e3.2.1
        exact ⟨F', tail'', Q'', ed'', c'', d1, d2, d3, ⟨e3.1.tr d4.1, d4.2.1, d4.2.2.trans e3.2.2⟩, d5⟩
      · rw [if_neg g1]
        exact ⟨8 * head, tail, Q, ed, c, rfl, hq, by omega, ⟨smC.rf c, hc, rfl⟩, Or.inl g2⟩
theorem wfill_loop {d n : Nat} {v : Int32} (hd : d = 23) (hn : n ≤ 2197) : ∀ (m k i : Nat) (c : mS), i + m = n → m < k → ∃ c', fJ7_fill_53178_b5 n d k v (nI i) (nI n) c = some c' ∧ smC c c' ∧ (∀ q, gI c' q = gI c q) ∧ (∀ q, q ≠ d → ∀ j, gA c' q j = gA c q j) ∧ (∀ j, j < i → gA c' d j = gA c d j) ∧ ∀ j, i ≤ j → j < n → gA c' d j = v := by
  intro m
  induction m with
  | zero =>
    intro k i c h1 h2
    obtain ⟨k, rfl⟩ : ∃ k', k = k' + 1 := ⟨k - 1, by omega⟩
    rw [fJ7_fill_53178_b5, if_pos ((nLe (by omega) (by omega)).mpr (by omega))]
    exact ⟨c, rfl, smC.rf c, fun _ => rfl, fun _ _ _ => rfl, fun _ _ => rfl, fun j j1 j2 => absurd j1 (by omega)⟩
  | succ m ih =>
    intro k i c h1 h2
    obtain ⟨k, rfl⟩ : ∃ k', k = k' + 1 := ⟨k - 1, by omega⟩
    rw [fJ7_fill_53178_b5, if_neg (fun z => absurd ((nLe (by omega) (by omega)).mp z) (by omega)), stA_n (by omega) (by omega), bnd_d, nA]
    obtain ⟨c', e1, e2, e3, e4, e5, e6⟩ := ih k (i + 1) (pA c d i v) (by omega) (by omega)
    refine ⟨c', e1, ((smC.rf c).pA d i v (by rw [hd]; decide)).tr e2, fun q => e3 q, fun q hq j => ?_, fun j hj => ?_, fun j j1 j2 => ?_⟩
    · rw [e4 q hq, gA_ne hq]
    · rw [e5 j (by omega), gA_eq, if_neg (by omega)]
    · by_cases e : j = i
      · rw [e5 j (by omega), gA_eq, if_pos e]
      · exact e6 j (by omega) j2
theorem wl_loop {T : Nat → Nat → Nat} {W S F tail G g : Nat} {Q ed : Nat → Nat} {c : mS} (hW : W ≤ 8) (h : CQ T W S F tail Q ed c) (hg : g < tail) (hG : Q g = G) : ∀ (m k i : Nat), i + m = ln ed 2197 g → m < k → fX0_wayLength_b7 k (nI S) (nI i) (nI (Q (pa ed g i))) c = some (nI (ln ed 2197 g)) := by
  have ht := bq_t h.1
  have hl := ln_le h.1 ht g hg
  have hS : S < 2197 := by rw [← h.1.q0]; exact h.1.qb 0 h.1.t1
  intro m
  induction m with
  | zero =>
    intro k i h1 h2
    obtain ⟨k, rfl⟩ : ∃ k', k = k' + 1 := ⟨k - 1, by omega⟩
    obtain rfl : i = ln ed 2197 g := by omega
    rw [fX0_wayLength_b7, pa_end h.1 ht hg hG, h.1.q0, if_pos rfl]
  | succ m ih =>
    intro k i h1 h2
    obtain ⟨k, rfl⟩ : ∃ k', k = k' + 1 := ⟨k - 1, by omega⟩
    obtain ⟨a1, a2, a3⟩ := pa_ok h.1 ht hg hG i (by omega)
    have p0 := pa_pos h.1 ht hg hG (show i < ln ed 2197 g by omega)
    have hq := h.1.qb _ a1
    have b1 := h.1.e1 _ p0 a1
    have hq2 := h.1.qb _ (show ed (pa ed g i) / 8 < tail by omega)
    have hne : Q (pa ed g i) ≠ S := fun z => by
      have := h.1.inj _ 0 a1 h.1.t1 (z.trans h.1.q0.symm)
      omega
    rw [fX0_wayLength_b7, if_neg (nlit_ne (by omega) (by omega) hne), if_neg (fun z => absurd ((nLe (by omega) (by omega)).mp z) (by omega)), bnd_d, ldA_n hq (by omega), h.2.2.2.1 _ p0 a1, bnd_d, nA, nDiv (by omega) (by omega), show (8 * Q (ed (pa ed g i) / 8) + ed (pa ed g i) % 8) / 8 = Q (ed (pa ed g i) / 8) by omega]
    exact ih k (i + 1) (by omega) (by omega)
theorem ws_loop {T : Nat → Nat → Nat} {W S F tail G g B : Nat} {Q ed : Nat → Nat} {c : mS} (hW : W ≤ 8) (h : CQ T W S F tail Q ed c) (hg : g < tail) (hG : Q g = G) (hB : B < ln ed 2197 g) : ∀ (m k i : Nat), i + m = ln ed 2197 g - 1 - B → m < k → fX0_writerOfStep_b10 k (nI B) (nI (Q (pa ed g i))) (nI (ln ed 2197 g - 1 - i)) c = some (nI (ed (pa ed g (ln ed 2197 g - 1 - B)) % 8)) := by
  have ht := bq_t h.1
  have hl := ln_le h.1 ht g hg
  intro m
  induction m with
  | zero =>
    intro k i h1 h2
    obtain ⟨k, rfl⟩ : ∃ k', k = k' + 1 := ⟨k - 1, by omega⟩
    obtain rfl : i = ln ed 2197 g - 1 - B := by omega
    obtain ⟨a1, a2, a3⟩ := pa_ok h.1 ht hg hG (ln ed 2197 g - 1 - B) (by omega)
    have p0 := pa_pos h.1 ht hg hG (show ln ed 2197 g - 1 - B < ln ed 2197 g by omega)
    have hq := h.1.qb _ a1
    have b1 := h.1.e1 _ p0 a1
    have hq2 := h.1.qb _ (show ed (pa ed g (ln ed 2197 g - 1 - B)) / 8 < tail by omega)
    rw [fX0_writerOfStep_b10, if_pos ((nLe (by omega) (by omega)).mpr (by omega)), ldA_n hq (by omega), h.2.2.2.1 _ p0 a1, nRem (by omega) (by omega)]
    congr 2
    omega
  | succ m ih =>
    intro k i h1 h2
    obtain ⟨k, rfl⟩ : ∃ k', k = k' + 1 := ⟨k - 1, by omega⟩
    obtain ⟨a1, a2, a3⟩ := pa_ok h.1 ht hg hG i (by omega)
    have p0 := pa_pos h.1 ht hg hG (show i < ln ed 2197 g by omega)
    have hq := h.1.qb _ a1
    have b1 := h.1.e1 _ p0 a1
    have hq2 := h.1.qb _ (show ed (pa ed g i) / 8 < tail by omega)
    rw [fX0_writerOfStep_b10, if_neg (fun z => absurd ((nLe (by omega) (by omega)).mp z) (by omega)), ldA_n hq (by omega), h.2.2.2.1 _ p0 a1, bnd_d, bnd_d, nDiv (by omega) (by omega), show (8 * Q (ed (pa ed g i) / 8) + ed (pa ed g i) % 8) / 8 = Q (ed (pa ed g i) / 8) by omega, show ln ed 2197 g - 1 - i = (ln ed 2197 g - 1 - (i + 1)) + 1 by omega, dec_n (by omega)]
    exact ih k (i + 1) (by omega) (by omega)
