-- bring: ways, in the pure
/-- a way of k letters from v to G -/
def Ew (T : Nat → Nat → Nat) (W G : Nat) : Nat → Nat → Prop
  | 0, v => v = G
  | k + 1, v => ∃ w, w < W ∧ Ew T W G k (T v w)
/-- k is the fewest -/
def Lw (T : Nat → Nat → Nat) (W G k v : Nat) : Prop := Ew T W G k v ∧ ∀ j, j < k → ¬ Ew T W G j v
theorem Lw.step {T : Nat → Nat → Nat} {W G k v : Nat} (h : Lw T W G (k + 1) v) : ∃ w, w < W ∧ Lw T W G k (T v w) := by
  obtain ⟨⟨w, hw, h1⟩, h2⟩ := h
  exact ⟨w, hw, h1, fun j hj z => h2 (j + 1) (by omega) ⟨w, hw, z⟩⟩
theorem Lw.uniq {T : Nat → Nat → Nat} {W G k j v : Nat} (h : Lw T W G k v) (g : Lw T W G j v) : k = j := by
  rcases Nat.lt_trichotomy k j with z | z | z
  · exact absurd h.1 (g.2 k z)
  · exact z
  · exact absurd g.1 (h.2 j z)
theorem Ew.least {T : Nat → Nat → Nat} {W G v : Nat} : ∀ {k : Nat}, Ew T W G k v → ∃ j, j ≤ k ∧ Lw T W G j v := by
  intro k
  induction k using Nat.strongRecOn with
  | ind k ih =>
    intro h
    by_cases g : ∃ j, j < k ∧ Ew T W G j v
    · obtain ⟨j, h1, h2⟩ := g
      obtain ⟨i, i1, i2⟩ := ih j h1 h2
      exact ⟨i, by omega, i2⟩
    · exact ⟨k, Nat.le_refl k, h, fun j hj z => g ⟨j, hj, z⟩⟩
theorem pig : ∀ (N m : Nat) (f : Nat → Nat), (∀ i, i < m → f i < N) → (∀ i j, i < m → j < m → f i = f j → i = j) → m ≤ N := by
  intro N
  induction N with
  | zero =>
    intro m f h1 _
    rcases Nat.eq_zero_or_pos m with z | z
    · omega
    · exact absurd (h1 0 z) (by omega)
  | succ N ih =>
    intro m f h1 h2
    by_cases g : ∃ i, i < m ∧ f i = N
    · obtain ⟨i0, g1, g2⟩ := g
      have := ih (m - 1) (fun i => if i < i0 then f i else f (i + 1)) (fun i hi => by
        show (if i < i0 then f i else f (i + 1)) < N
        by_cases e : i < i0
        · rw [if_pos e]
          have a := h1 i (by omega)
          by_cases b : f i = N
          · have := h2 i i0 (by omega) g1 (by omega); omega
          · omega
        · rw [if_neg e]
          have a := h1 (i + 1) (by omega)
          by_cases b : f (i + 1) = N
          · have := h2 (i + 1) i0 (by omega) g1 (by omega); omega
          · omega) (fun i j hi hj hf => by
        change (if i < i0 then f i else f (i + 1)) = (if j < i0 then f j else f (j + 1)) at hf
        by_cases e : i < i0
        · by_cases e' : j < i0
          · rw [if_pos e, if_pos e'] at hf
            exact h2 i j (by omega) (by omega) hf
          · rw [if_pos e, if_neg e'] at hf
            have := h2 i (j + 1) (by omega) (by omega) hf
            omega
        · by_cases e' : j < i0
          · rw [if_neg e, if_pos e'] at hf
            have := h2 (i + 1) j (by omega) (by omega) hf
            omega
          · rw [if_neg e, if_neg e'] at hf
            have := h2 (i + 1) (j + 1) (by omega) (by omega) hf
            omega)
      omega
    · have := ih m f (fun i hi => by
        have a := h1 i hi
        by_cases b : f i = N
        · exact absurd ⟨i, hi, b⟩ g
        · omega) h2
      omega
/-- the class's search: Q the queue, ed the edge by which each came -/
def BQ (T : Nat → Nat → Nat) (W S F tail : Nat) (Q ed : Nat → Nat) : Prop := (1 ≤ tail) ∧ (Q 0 = S) ∧ (∀ i, i < tail → Q i < 2197) ∧ (∀ i j, i < tail → j < tail → Q i = Q j → i = j) ∧ (∀ i, 0 < i → i < tail → ed i / 8 < i) ∧ (∀ i, 0 < i → i < tail → ed i % 8 < W) ∧ (∀ i, 0 < i → i < tail → T (Q (ed i / 8)) (ed i % 8) = Q i) ∧ (∀ i, 0 < i → i < tail → ed i < F) ∧ (∀ i j, 0 < i → i < j → j < tail → ed i < ed j) ∧ (∀ e, e < F → e % 8 < W → e / 8 < tail ∧ ∃ j, j < tail ∧ Q j = T (Q (e / 8)) (e % 8) ∧ (j = 0 ∨ ed j ≤ e))
theorem BQ.t1 {T : Nat → Nat → Nat} {W S F tail : Nat} {Q ed : Nat → Nat} (h : BQ T W S F tail Q ed) : 1 ≤ tail := h.1
theorem BQ.q0 {T : Nat → Nat → Nat} {W S F tail : Nat} {Q ed : Nat → Nat} (h : BQ T W S F tail Q ed) : Q 0 = S := h.2.1
theorem BQ.qb {T : Nat → Nat → Nat} {W S F tail : Nat} {Q ed : Nat → Nat} (h : BQ T W S F tail Q ed) : ∀ i, i < tail → Q i < 2197 := h.2.2.1
theorem BQ.inj {T : Nat → Nat → Nat} {W S F tail : Nat} {Q ed : Nat → Nat} (h : BQ T W S F tail Q ed) : ∀ i j, i < tail → j < tail → Q i = Q j → i = j := h.2.2.2.1
theorem BQ.e1 {T : Nat → Nat → Nat} {W S F tail : Nat} {Q ed : Nat → Nat} (h : BQ T W S F tail Q ed) : ∀ i, 0 < i → i < tail → ed i / 8 < i := h.2.2.2.2.1
theorem BQ.e2 {T : Nat → Nat → Nat} {W S F tail : Nat} {Q ed : Nat → Nat} (h : BQ T W S F tail Q ed) : ∀ i, 0 < i → i < tail → ed i % 8 < W := h.2.2.2.2.2.1
theorem BQ.e3 {T : Nat → Nat → Nat} {W S F tail : Nat} {Q ed : Nat → Nat} (h : BQ T W S F tail Q ed) : ∀ i, 0 < i → i < tail → T (Q (ed i / 8)) (ed i % 8) = Q i := h.2.2.2.2.2.2.1
theorem BQ.e4 {T : Nat → Nat → Nat} {W S F tail : Nat} {Q ed : Nat → Nat} (h : BQ T W S F tail Q ed) : ∀ i, 0 < i → i < tail → ed i < F := h.2.2.2.2.2.2.2.1
theorem BQ.mono {T : Nat → Nat → Nat} {W S F tail : Nat} {Q ed : Nat → Nat} (h : BQ T W S F tail Q ed) : ∀ i j, 0 < i → i < j → j < tail → ed i < ed j := h.2.2.2.2.2.2.2.2.1
theorem BQ.ex {T : Nat → Nat → Nat} {W S F tail : Nat} {Q ed : Nat → Nat} (h : BQ T W S F tail Q ed) : ∀ e, e < F → e % 8 < W → e / 8 < tail ∧ ∃ j, j < tail ∧ Q j = T (Q (e / 8)) (e % 8) ∧ (j = 0 ∨ ed j ≤ e) := h.2.2.2.2.2.2.2.2.2
def ln (ed : Nat → Nat) : Nat → Nat → Nat
  | 0, _ => 0
  | f + 1, i => if i = 0 then 0 else ln ed f (ed i / 8) + 1
theorem ln_f {T : Nat → Nat → Nat} {W S F tail : Nat} {Q ed : Nat → Nat} (h : BQ T W S F tail Q ed) : ∀ f i, i ≤ f → i < tail → ln ed (f + 1) i = ln ed f i := by
  intro f
  induction f with
  | zero =>
    intro i hi _
    obtain rfl : i = 0 := by omega
    rfl
  | succ f ih =>
    intro i hi ht
    by_cases g : i = 0
    · subst g; rfl
    · have h1 := h.e1 i (by omega) ht
      show (if i = 0 then 0 else ln ed (f + 1) (ed i / 8) + 1) = (if i = 0 then 0 else ln ed f (ed i / 8) + 1)
      rw [if_neg g, if_neg g, ih (ed i / 8) (by omega) (by omega)]
theorem ln_s {T : Nat → Nat → Nat} {W S F tail : Nat} {Q ed : Nat → Nat} (h : BQ T W S F tail Q ed) (ht : tail ≤ 2197) {i : Nat} (hi : 0 < i) (hit : i < tail) : ln ed 2197 i = ln ed 2197 (ed i / 8) + 1 := by
  have h1 := h.e1 i hi hit
  rw [← ln_f h 2197 i (by omega) hit]
  show (if i = 0 then 0 else ln ed 2197 (ed i / 8) + 1) = _
  rw [if_neg (by omega)]
theorem ln_mono {T : Nat → Nat → Nat} {W S F tail : Nat} {Q ed : Nat → Nat} (h : BQ T W S F tail Q ed) (ht : tail ≤ 2197) : ∀ j i, i ≤ j → j < tail → ln ed 2197 i ≤ ln ed 2197 j := by
  intro j
  induction j using Nat.strongRecOn with
  | ind j ih =>
    intro i hij hj
    by_cases g : i = j
    · rw [g]; exact Nat.le_refl _
    · by_cases g0 : i = 0
      · subst g0
        have : ln ed 2197 0 = 0 := rfl
        omega
      · have a1 := h.e1 j (by omega) hj
        have a2 := h.mono i j (by omega) (by omega) hj
        have a3 := ih (ed j / 8) a1 (ed i / 8) (Nat.div_le_div_right (by omega)) (by omega)
        rw [ln_s h ht (show 0 < i by omega) (by omega), ln_s h ht (show 0 < j by omega) hj]
        omega
theorem ln_le {T : Nat → Nat → Nat} {W S F tail : Nat} {Q ed : Nat → Nat} (h : BQ T W S F tail Q ed) (ht : tail ≤ 2197) : ∀ i, i < tail → ln ed 2197 i ≤ i := by
  intro i
  induction i using Nat.strongRecOn with
  | ind i ih =>
    intro hi
    by_cases g : i = 0
    · subst g; exact Nat.le_refl 0
    · have a1 := h.e1 i (by omega) hi
      have a2 := ih (ed i / 8) a1 (by omega)
      rw [ln_s h ht (by omega) hi]
      omega
/-- no way is shorter than the one found -/
theorem bq_min {T : Nat → Nat → Nat} {W S F tail G g : Nat} {Q ed : Nat → Nat} (hW : W ≤ 8) (h : BQ T W S F tail Q ed) (ht : tail ≤ 2197) (hg : g < tail) (hG : Q g = G) (hF : F % 8 = 0) : ∀ m' i, i < tail → ln ed 2197 i + m' < ln ed 2197 g → ¬ Ew T W G m' (Q i) := by
  intro m'
  induction m' with
  | zero =>
    intro i hi hl hE
    have : i = g := h.inj i g hi hg (by rw [hG]; exact hE)
    subst this
    omega
  | succ m' ih =>
    intro i hi hl hE
    obtain ⟨w, hw, hE'⟩ := hE
    have g0 : 0 < g := by
      rcases Nat.eq_zero_or_pos g with z | z
      · subst z
        have : ln ed 2197 0 = 0 := rfl
        omega
      · exact z
    have a1 := h.e4 g g0 hg
    have a2 := h.e1 g g0 hg
    have a3 := ln_s h ht g0 hg
    have hi2 : 8 * i + w < F := by
      by_cases z : i ≤ ed g / 8
      · omega
      · have := ln_mono h ht i (ed g / 8) (by omega) hi
        omega
    obtain ⟨b1, j, b2, b3, b4⟩ := h.ex (8 * i + w) hi2 (by omega)
    rw [show (8 * i + w) / 8 = i by omega, show (8 * i + w) % 8 = w by omega] at b3
    refine ih j b2 ?_ (b3 ▸ hE')
    rcases b4 with rfl | b4
    · have : ln ed 2197 0 = 0 := rfl
      omega
    · by_cases j0 : j = 0
      · subst j0
        have : ln ed 2197 0 = 0 := rfl
        omega
      · have := ln_mono h ht i (ed j / 8) (by omega) hi
        rw [ln_s h ht (by omega) b2]
        omega
/-- the way back from g -/
def pa (ed : Nat → Nat) (g : Nat) : Nat → Nat
  | 0 => g
  | k + 1 => ed (pa ed g k) / 8
theorem pa_ok {T : Nat → Nat → Nat} {W S F tail G g : Nat} {Q ed : Nat → Nat} (h : BQ T W S F tail Q ed) (ht : tail ≤ 2197) (hg : g < tail) (hG : Q g = G) : ∀ k, k ≤ ln ed 2197 g → pa ed g k < tail ∧ ln ed 2197 (pa ed g k) + k = ln ed 2197 g ∧ Ew T W G k (Q (pa ed g k)) := by
  intro k
  induction k with
  | zero => intro _; exact ⟨hg, Nat.add_zero _, hG⟩
  | succ k ih =>
    intro hk
    obtain ⟨h1, h2, h3⟩ := ih (by omega)
    have p0 : 0 < pa ed g k := by
      rcases Nat.eq_zero_or_pos (pa ed g k) with z | z
      · rw [z] at h2
        have : ln ed 2197 0 = 0 := rfl
        omega
      · exact z
    have a1 := h.e1 _ p0 h1
    have a2 := ln_s h ht p0 h1
    refine ⟨?_, ?_, ed (pa ed g k) % 8, h.e2 _ p0 h1, ?_⟩
    · show ed (pa ed g k) / 8 < tail
      omega
    · show ln ed 2197 (ed (pa ed g k) / 8) + (k + 1) = _
      omega
    · show Ew T W G k (T (Q (ed (pa ed g k) / 8)) (ed (pa ed g k) % 8))
      rw [h.e3 _ p0 h1]
      exact h3
theorem pa_pos {T : Nat → Nat → Nat} {W S F tail G g : Nat} {Q ed : Nat → Nat} (h : BQ T W S F tail Q ed) (ht : tail ≤ 2197) (hg : g < tail) (hG : Q g = G) {k : Nat} (hk : k < ln ed 2197 g) : 0 < pa ed g k := by
  obtain ⟨h1, h2, h3⟩ := pa_ok h ht hg hG k (by omega)
  rcases Nat.eq_zero_or_pos (pa ed g k) with z | z
  · rw [z] at h2
    have : ln ed 2197 0 = 0 := rfl
    omega
  · exact z
theorem pa_end {T : Nat → Nat → Nat} {W S F tail G g : Nat} {Q ed : Nat → Nat} (h : BQ T W S F tail Q ed) (ht : tail ≤ 2197) (hg : g < tail) (hG : Q g = G) : pa ed g (ln ed 2197 g) = 0 := by
  obtain ⟨h1, h2, h3⟩ := pa_ok h ht hg hG _ (Nat.le_refl _)
  rcases Nat.eq_zero_or_pos (pa ed g (ln ed 2197 g)) with z | z
  · exact z
  · have := ln_s h ht z h1
    omega
/-- each node of the way is as far as the way says -/
theorem pa_L {T : Nat → Nat → Nat} {W S F tail G g : Nat} {Q ed : Nat → Nat} (hW : W ≤ 8) (h : BQ T W S F tail Q ed) (ht : tail ≤ 2197) (hg : g < tail) (hG : Q g = G) (hF : F % 8 = 0) {k : Nat} (hk : k ≤ ln ed 2197 g) : Lw T W G k (Q (pa ed g k)) := by
  obtain ⟨h1, h2, h3⟩ := pa_ok h ht hg hG k hk
  exact ⟨h3, fun j hj => bq_min hW h ht hg hG hF j _ h1 (by omega)⟩
/-- nothing before it in the queue is as near -/
theorem bq_first {T : Nat → Nat → Nat} {W S F tail G g : Nat} {Q ed : Nat → Nat} (hW : W ≤ 8) (h : BQ T W S F tail Q ed) (ht : tail ≤ 2197) (hg : g < tail) (hG : Q g = G) : ∀ k, k ≤ ln ed 2197 g → ∀ i, i < pa ed g k → ¬ Ew T W G k (Q i) := by
  intro k
  induction k with
  | zero =>
    intro _ i hi hE
    have hi' : i < g := hi
    have : i = g := h.inj i g (by omega) hg (by rw [hG]; exact hE)
    omega
  | succ k ih =>
    intro hk i hi hE
    obtain ⟨w, hw, hE'⟩ := hE
    obtain ⟨h1, h2, h3⟩ := pa_ok h ht hg hG k (by omega)
    have p0 := pa_pos h ht hg hG (show k < ln ed 2197 g by omega)
    have hi' : i < ed (pa ed g k) / 8 := hi
    have a4 := h.e4 _ p0 h1
    obtain ⟨b1, j, b2, b3, b4⟩ := h.ex (8 * i + w) (by omega) (by omega)
    rw [show (8 * i + w) / 8 = i by omega, show (8 * i + w) % 8 = w by omega] at b3
    refine ih (by omega) j ?_ (b3 ▸ hE')
    rcases b4 with rfl | b4
    · exact p0
    · rcases Nat.lt_trichotomy j (pa ed g k) with z | z | z
      · exact z
      · subst z; omega
      · have := h.mono _ j p0 z b2; omega
/-- the class's writer is the first that brings nearer -/
theorem bq_greedy {T : Nat → Nat → Nat} {W S F tail G g : Nat} {Q ed : Nat → Nat} (hW : W ≤ 8) (h : BQ T W S F tail Q ed) (ht : tail ≤ 2197) (hg : g < tail) (hG : Q g = G) {k : Nat} (hk : k < ln ed 2197 g) {w : Nat} (hw : w < ed (pa ed g k) % 8) : ¬ Ew T W G k (T (Q (pa ed g (k + 1))) w) := by
  obtain ⟨h1, h2, h3⟩ := pa_ok h ht hg hG k (by omega)
  have p0 := pa_pos h ht hg hG hk
  have a4 := h.e4 _ p0 h1
  have a2 := h.e2 _ p0 h1
  show ¬ Ew T W G k (T (Q (ed (pa ed g k) / 8)) w)
  intro hE
  obtain ⟨b1, j, b2, b3, b4⟩ := h.ex (8 * (ed (pa ed g k) / 8) + w) (by omega) (by omega)
  rw [show (8 * (ed (pa ed g k) / 8) + w) / 8 = ed (pa ed g k) / 8 by omega, show (8 * (ed (pa ed g k) / 8) + w) % 8 = w by omega] at b3
  refine bq_first hW h ht hg hG k (by omega) j ?_ (b3 ▸ hE)
  rcases b4 with rfl | b4
  · exact p0
  · rcases Nat.lt_trichotomy j (pa ed g k) with z | z | z
    · exact z
    · subst z; omega
    · have := h.mono _ j p0 z b2; omega
/-- what is not found is not there -/
theorem bq_none {T : Nat → Nat → Nat} {W S F tail G : Nat} {Q ed : Nat → Nat} (hW : W ≤ 8) (h : BQ T W S F tail Q ed) (hF : 8 * tail ≤ F) (hG : ∀ i, i < tail → Q i ≠ G) : ∀ k i, i < tail → ¬ Ew T W G k (Q i) := by
  intro k
  induction k with
  | zero => intro i hi hE; exact hG i hi hE
  | succ k ih =>
    intro i hi hE
    obtain ⟨w, hw, hE'⟩ := hE
    obtain ⟨b1, j, b2, b3, b4⟩ := h.ex (8 * i + w) (by omega) (by omega)
    rw [show (8 * i + w) / 8 = i by omega, show (8 * i + w) % 8 = w by omega] at b3
    exact ih j b2 (b3 ▸ hE')
