-- the relation between the class's state c and the reference's state x
/-- only what a grip's working out writes -/
def smL (c d : mS) : Prop := (∀ k, k ∉ [41, 42, 43, 44, 45, 46] → gI d k = gI c k) ∧ (∀ k, k ≠ 16 → ∀ i, gA d k i = gA c k i) ∧ ∀ k i, gL d k i = gL c k i
def smK (x y : mS) : Prop := (∀ k, k ∉ [6, 7, 8, 9, 10] → gI y k = gI x k) ∧ (∀ k, k ≠ 6 → ∀ i, gA y k i = gA x k i) ∧ ∀ k i, gL y k i = gL x k i
theorem smL.rf (c : mS) : smL c c := ⟨fun _ _ => rfl, fun _ _ _ => rfl, fun _ _ => rfl⟩
theorem smK.rf (c : mS) : smK c c := ⟨fun _ _ => rfl, fun _ _ _ => rfl, fun _ _ => rfl⟩
theorem smL.tr {a b c : mS} (h : smL a b) (g : smL b c) : smL a c := ⟨fun k hk => (g.1 k hk).trans (h.1 k hk), fun k hk i => (g.2.1 k hk i).trans (h.2.1 k hk i), fun k i => (g.2.2 k i).trans (h.2.2 k i)⟩
theorem smK.tr {a b c : mS} (h : smK a b) (g : smK b c) : smK a c := ⟨fun k hk => (g.1 k hk).trans (h.1 k hk), fun k hk i => (g.2.1 k hk i).trans (h.2.1 k hk i), fun k i => (g.2.2 k i).trans (h.2.2 k i)⟩
theorem smL.pI {c d : mS} (h : smL c d) (k : Nat) (v : Int32) (hk : k ∈ [41, 42, 43, 44, 45, 46]) : smL c (pI d k v) := by
  refine ⟨fun j hj => ?_, h.2.1, h.2.2⟩
  rw [gI_pI, if_neg (fun e : j = k => hj (e ▸ hk))]
  exact h.1 j hj
theorem smL.pA {c d : mS} (h : smL c d) (m : Nat) (v : Int32) : smL c (pA d 16 m v) := by
  refine ⟨h.1, fun j hj i => ?_, h.2.2⟩
  rw [gA_pA, if_neg (fun e => hj e.1)]
  exact h.2.1 j hj i
theorem smK.pI {c d : mS} (h : smK c d) (k : Nat) (v : Int32) (hk : k ∈ [6, 7, 8, 9, 10]) : smK c (pI d k v) := by
  refine ⟨fun j hj => ?_, h.2.1, h.2.2⟩
  rw [gI_pI, if_neg (fun e : j = k => hj (e ▸ hk))]
  exact h.1 j hj
theorem smK.pA {c d : mS} (h : smK c d) (m : Nat) (v : Int32) : smK c (pA d 6 m v) := by
  refine ⟨h.1, fun j hj i => ?_, h.2.2⟩
  rw [gA_pA, if_neg (fun e => hj e.1)]
  exact h.2.1 j hj i
/-- what the six names stand for, on both sides -/
def nmOk (c x : mS) : Prop := ∃ a t h u r m : Nat, a ≤ 99 ∧ t ≤ 12 ∧ h ≤ 2 ∧ u ≤ 12 ∧ r ≤ 9 ∧ m ≤ 7 ∧ gI c iL_age = nI a ∧ gI c iL_touch = nI t ∧ gI c iL_habit = nI h ∧ gI c iL_unlike = nI u ∧ gI c iL_ribbon = nI r ∧ gI c iL_machine = nI m ∧
  gA x aX_names 0 = nI a ∧ gA x aX_names 1 = nI t ∧ gA x aX_names 2 = nI h ∧ gA x aX_names 3 = nI u ∧ gA x aX_names 4 = nI r ∧ gA x aX_names 5 = nI m
/-- the law that stands, on both sides: the class's steps are worth what the reference's text is -/
def evOk (S : Nat → Int32) (k : Nat) (T : Nat → Int32) (n : Nat) : Prop := ∀ c x : mS, gA c aL_steps = S → gI c iL_stepsSize = nI k → gA x aX_text = T → gI x iX_textMany = nI n → nmOk c x → ∃ v c' x', fX4_value c = some (v, c') ∧ fX11_workOut (nI 0) (nI n) x = some (v, x') ∧ smL c c' ∧ smK x x'
def rN (c x : mS) : Prop :=
  (∃ n, n ≤ 8 ∧ gI c (iM_size 0) = nI n ∧ gI x iX_machines = nI n) ∧ (∃ w, w ≤ 8 ∧ gI c (iW_size 0) = nI w ∧ gI x iX_writers = nI w) ∧
  (∀ i, i < 24 → gA x aX_may i = gA c (aM_pulls 0) i ∧ ∃ v, v ≤ 12 ∧ gA c (aM_pulls 0) i = nI v) ∧
  (∀ i, i < 8 → gA x aX_may (24 + i) = gA c (aM_ages 0) i ∧ ∃ v, v ≤ 99 ∧ gA c (aM_ages 0) i = nI v) ∧
  (∀ i, i < 24 → gA x aX_may (32 + i) = gA c (aW_hands 0) i ∧ ∃ v, v ≤ 12 ∧ gA c (aW_hands 0) i = nI v) ∧
  (∀ i, i < 8 → gA x aX_may (56 + i) = gA c (aW_touches 0) i ∧ ∃ v, v ≤ 12 ∧ gA c (aW_touches 0) i = nI v) ∧
  (gA x aX_may 64 = gI c (iM_ribbon 0) ∧ ∃ v, v ≤ 9 ∧ gI c (iM_ribbon 0) = nI v)
/-- the place of a number told by mend -/
def plc (a b p t : Nat) : Prop := (b ≤ 2 ∧ a < 8 ∧ p = 3 * a + b ∧ t = 12) ∨ (b = 3 ∧ a < 8 ∧ p = 24 + a ∧ t = 99) ∨ (4 ≤ b ∧ b ≤ 6 ∧ a < 8 ∧ p = 32 + 3 * a + b - 4 ∧ t = 12) ∨ (b = 7 ∧ a < 8 ∧ p = 56 + a ∧ t = 12) ∨ (b = 8 ∧ a = 0 ∧ p = 64 ∧ t = 9)
def rH (c x : mS) : Prop := ∃ d k, d ≤ k ∧ k ≤ 40 ∧ gI c iH_done = nI d ∧ gI x iX_done = nI d ∧ gI c iH_kept = nI k ∧ gI x iX_keptMany = nI k ∧
  ∀ i, i < k → ∃ a b p t u v, plc a b p t ∧ u ≤ t ∧ v ≤ t ∧ gA c aH_numbers i = nI a ∧ gA c aH_whats i = nI b ∧ gA x aX_changeAt i = nI p ∧ gA c aH_olds i = nI u ∧ gA x aX_changeWas i = nI u ∧ gA c aH_news i = nI v ∧ gA x aX_changeIs i = nI v
def rT (c x : mS) : Prop := ∃ n, n ≤ 120 ∧ gI c iP_size = nI n ∧ gI x iX_tapeMany = nI n ∧ ∀ i, i < n → gA x aX_tape i = gA c aP_bytes i ∧ ∃ v, v ≤ 255 ∧ gA c aP_bytes i = nI v
def rL (c x : mS) : Prop := (gI c iL_told = 0 ∧ gI x iX_textMany = -1) ∨ (gI c iL_told = 1 ∧ ∃ n k, n ≤ 120 ∧ k ≤ 121 ∧ gI x iX_textMany = nI n ∧ gI c iL_stepsSize = nI k ∧ evOk (gA c aL_steps) k (gA x aX_text) n)
def rI (c x : mS) : Prop := (gI c iT_imageKept = 0 ∧ gI x iX_isKept = 0) ∨ (gI c iT_imageKept = 1 ∧ gI x iX_isKept = 1 ∧ (∃ n, n ≤ 8 ∧ gI c (iM_size 2) = nI n ∧ gI x iX_imageMachines = nI n ∧
    (∀ i, i < 3 * n → gA x aX_imageMay i = gA c (aM_pulls 2) i ∧ ∃ v, v ≤ 12 ∧ gA c (aM_pulls 2) i = nI v) ∧ (∀ i, i < n → gA x aX_imageMay (24 + i) = gA c (aM_ages 2) i ∧ ∃ v, v ≤ 99 ∧ gA c (aM_ages 2) i = nI v)) ∧
  (∃ w, w ≤ 8 ∧ gI c (iW_size 1) = nI w ∧ gI x iX_imageWriters = nI w ∧ ∀ i, i < 3 * w → gA x aX_imageMay (32 + i) = gA c (aW_hands 1) i ∧ ∃ v, v ≤ 12 ∧ gA c (aW_hands 1) i = nI v) ∧
  gA x aX_imageLed 0 = gI c (iG_letters 1) ∧ gA x aX_imageLed 1 = gI c (iG_cleanings 1) ∧ gA x aX_imageLed 2 = gI c (iG_learnings 1) ∧ gA x aX_imageLed 3 = gI c (iG_showed 1) ∧
  ((gI c (iG_latest 1) = -2 ∧ gI x iX_imageLatest = -1) ∨ ∃ m, m < 8 ∧ gI c (iG_latest 1) = nI m ∧ gI x iX_imageLatest = nI m))
def rU (c x : mS) : Prop := (∃ n, n ≤ 50 ∧ gI c iU_size = nI n ∧ gI x iX_bodies = nI n ∧ ∀ i, i < n → ∃ k, k ≤ 7 ∧ gA c aU_kinds i = nI k ∧ gA x aX_bodyKind i = nI k) ∧
  ∃ r, r ≤ 1000 ∧ gI c iU_ran = nI r ∧ gI x iX_ran = nI r ∧ ∀ i, i < r → i < 24 → gA x aX_trace i = gA c aU_traced i
/-- one shelf -/
def rS1 (c x : mS) (j : Nat) : Prop := (∃ m, m ≤ 60 ∧ gI c (iS_size j) = nI m ∧ gA x aX_many j = nI m) ∧ (∀ i, i < 60 → gL x lX_items (60 * j + i) = gL c (lS_cells j) i) ∧
  ((gI c (iS_sort j) = -1 ∧ gI c (iS_ghost j) = -1 ∧ gA x aX_shelf j = -1) ∨ (gI c (iS_sort j) = -1 ∧ ∃ n g, gI c iU_size = nI n ∧ g < n ∧ n ≤ 50 ∧ gI c (iS_ghost j) = nI g ∧ gA x aX_shelf j = nI g) ∨
   (∃ t, t ≤ 4 ∧ gI c (iS_sort j) = nI t ∧ gI c (iS_ghost j) = -1 ∧ gA x aX_shelf j = nI (50 + t) ∧ (t ≤ 1 → ∀ i, i < 60 → ∃ v : Int32, gL c (lS_cells j) i = v.toInt64)))
def rS (c x : mS) : Prop := ∀ j, j < 6 → rS1 c x j
def rG (c x : mS) : Prop := gA x aX_ledNow 0 = gI c (iG_letters 0) ∧ gA x aX_ledNow 1 = gI c (iG_cleanings 0) ∧ gA x aX_ledNow 2 = gI c (iG_learnings 0) ∧ gA x aX_ledNow 3 = gI c (iG_showed 0) ∧
  ((gI c (iG_latest 0) = -2 ∧ gI x iX_latest = -1) ∨ ∃ m, m < 8 ∧ gI c (iG_latest 0) = nI m ∧ gI x iX_latest = nI m)
def Rel (c x : mS) : Prop := rN c x ∧ rH c x ∧ rT c x ∧ rL c x ∧ rI c x ∧ rU c x ∧ rS c x ∧ rG c x
/-- the same but for what no later call reads -/
def smC (c d : mS) : Prop := (∀ k, k ∉ [2, 3, 5, 37, 38, 41, 42, 43, 44, 45, 46, 51] → gI d k = gI c k) ∧ (∀ k, k ∉ [1, 3, 4, 5, 7, 12, 14, 16, 23, 24, 25, 26] → ∀ i, gA d k i = gA c k i) ∧ ∀ k i, gL d k i = gL c k i
def smX (x y : mS) : Prop := (∀ k, k ∉ [iX_base, iX_at, iX_ends, iX_fault, iX_opened, iX_ribbon, iX_ownKind, iX_ownNumber] → gI y k = gI x k) ∧ (∀ k, k ∉ [aX_names, aX_pull, aX_age, aX_hadPull, aX_restFar, aX_restGets, aX_lettersTo] → ∀ i, gA y k i = gA x k i) ∧ ∀ k, k ≠ lX_carried → ∀ i, gL y k i = gL x k i
theorem smC.rf (c : mS) : smC c c := ⟨fun _ _ => rfl, fun _ _ _ => rfl, fun _ _ => rfl⟩
theorem smX.rf (c : mS) : smX c c := ⟨fun _ _ => rfl, fun _ _ _ => rfl, fun _ _ _ => rfl⟩
theorem smC.tr {a b c : mS} (h : smC a b) (g : smC b c) : smC a c := ⟨fun k hk => (g.1 k hk).trans (h.1 k hk), fun k hk i => (g.2.1 k hk i).trans (h.2.1 k hk i), fun k i => (g.2.2 k i).trans (h.2.2 k i)⟩
theorem smX.tr {a b c : mS} (h : smX a b) (g : smX b c) : smX a c := ⟨fun k hk => (g.1 k hk).trans (h.1 k hk), fun k hk i => (g.2.1 k hk i).trans (h.2.1 k hk i), fun k hk i => (g.2.2 k hk i).trans (h.2.2 k hk i)⟩
theorem smC.pI {c d : mS} (h : smC c d) (k : Nat) (v : Int32) (hk : k ∈ [2, 3, 5, 37, 38, 41, 42, 43, 44, 45, 46, 51]) : smC c (pI d k v) := by
  refine ⟨fun j hj => ?_, h.2.1, h.2.2⟩
  rw [gI_pI, if_neg (fun e : j = k => hj (e ▸ hk))]
  exact h.1 j hj
theorem smC.wA {c d : mS} (h : smC c d) (k : Nat) (g : Nat → Int32) (hk : k ∈ [1, 3, 4, 5, 7, 12, 14, 16, 23, 24, 25, 26]) : smC c (wA d k g) := by
  refine ⟨h.1, fun j hj i => ?_, h.2.2⟩
  rw [gA_wA, if_neg (fun e : j = k => hj (e ▸ hk))]
  exact h.2.1 j hj i
theorem smC.pA {c d : mS} (h : smC c d) (k m : Nat) (v : Int32) (hk : k ∈ [1, 3, 4, 5, 7, 12, 14, 16, 23, 24, 25, 26]) : smC c (pA d k m v) := h.wA k _ hk
theorem smX.pI {c d : mS} (h : smX c d) (k : Nat) (v : Int32) (hk : k ∈ [iX_base, iX_at, iX_ends, iX_fault, iX_opened, iX_ribbon, iX_ownKind, iX_ownNumber]) : smX c (pI d k v) := by
  refine ⟨fun j hj => ?_, h.2.1, h.2.2⟩
  rw [gI_pI, if_neg (fun e : j = k => hj (e ▸ hk))]
  exact h.1 j hj
theorem smX.wA {c d : mS} (h : smX c d) (k : Nat) (g : Nat → Int32) (hk : k ∈ [aX_names, aX_pull, aX_age, aX_hadPull, aX_restFar, aX_restGets, aX_lettersTo]) : smX c (wA d k g) := by
  refine ⟨h.1, fun j hj i => ?_, h.2.2⟩
  rw [gA_wA, if_neg (fun e : j = k => hj (e ▸ hk))]
  exact h.2.1 j hj i
theorem smX.pA {c d : mS} (h : smX c d) (k m : Nat) (v : Int32) (hk : k ∈ [aX_names, aX_pull, aX_age, aX_hadPull, aX_restFar, aX_restGets, aX_lettersTo]) : smX c (pA d k m v) := h.wA k _ hk
theorem smX.pL {c d : mS} (h : smX c d) (m : Nat) (v : Int64) : smX c (pL d lX_carried m v) := by
  refine ⟨h.1, h.2.1, fun j hj i => ?_⟩
  rw [gL_pL, if_neg (fun e => hj e.1)]
  exact h.2.2 j hj i
set_option maxHeartbeats 1000000 in
theorem Rel.sm {c x d y : mS} (h : Rel c x) (hc : smC c d) (hx : smX x y) : Rel d y := by
  obtain ⟨h1, h2, h3, h4, h5, h6, h7, h8⟩ := h
  have I : ∀ k, k ∉ [2, 3, 5, 37, 38, 41, 42, 43, 44, 45, 46, 51] → gI d k = gI c k := hc.1
  have X : ∀ k, k ∉ [iX_base, iX_at, iX_ends, iX_fault, iX_opened, iX_ribbon, iX_ownKind, iX_ownNumber] → gI y k = gI x k := hx.1
  have A : ∀ k, k ∉ [1, 3, 4, 5, 7, 12, 14, 16, 23, 24, 25, 26] → ∀ i, gA d k i = gA c k i := hc.2.1
  have B : ∀ k, k ∉ [aX_names, aX_pull, aX_age, aX_hadPull, aX_restFar, aX_restGets, aX_lettersTo] → ∀ i, gA y k i = gA x k i := hx.2.1
  have eA : ∀ k, k ∉ [1, 3, 4, 5, 7, 12, 14, 16, 23, 24, 25, 26] → gA d k = gA c k := fun k hk => funext (A k hk)
  have eB : ∀ k, k ∉ [aX_names, aX_pull, aX_age, aX_hadPull, aX_restFar, aX_restGets, aX_lettersTo] → gA y k = gA x k := fun k hk => funext (B k hk)
  have eL : ∀ k, gL d k = gL c k := fun k => funext (hc.2.2 k)
  have eM : gL y lX_items = gL x lX_items := funext (hx.2.2 _ (by decide))
  refine ⟨?_, ?_, ?_, ?_, ?_, ?_, ?_, ?_⟩
  · unfold rN at h1 ⊢
    rw [I (iM_size 0) (by decide), I (iW_size 0) (by decide), I (iM_ribbon 0) (by decide), X iX_machines (by decide), X iX_writers (by decide), eA (aM_pulls 0) (by decide), eA (aM_ages 0) (by decide), eA (aW_hands 0) (by decide), eA (aW_touches 0) (by decide), eB aX_may (by decide)]
    exact h1
  · unfold rH at h2 ⊢
    rw [I iH_done (by decide), I iH_kept (by decide), X iX_done (by decide), X iX_keptMany (by decide), eA aH_numbers (by decide), eA aH_whats (by decide), eA aH_olds (by decide), eA aH_news (by decide), eB aX_changeAt (by decide), eB aX_changeWas (by decide), eB aX_changeIs (by decide)]
    exact h2
  · unfold rT at h3 ⊢
    rw [I iP_size (by decide), X iX_tapeMany (by decide), eA aP_bytes (by decide), eB aX_tape (by decide)]
    exact h3
  · unfold rL at h4 ⊢
    rw [I iL_told (by decide), X iX_textMany (by decide), I iL_stepsSize (by decide), eA aL_steps (by decide), eB aX_text (by decide)]
    exact h4
  · unfold rI at h5 ⊢
    rw [I iT_imageKept (by decide), X iX_isKept (by decide), I (iM_size 2) (by decide), X iX_imageMachines (by decide), eB aX_imageMay (by decide), eA (aM_pulls 2) (by decide), eA (aM_ages 2) (by decide), I (iW_size 1) (by decide), X iX_imageWriters (by decide), eA (aW_hands 1) (by decide), eB aX_imageLed (by decide), I (iG_letters 1) (by decide), I (iG_cleanings 1) (by decide), I (iG_learnings 1) (by decide), I (iG_showed 1) (by decide), I (iG_latest 1) (by decide), X iX_imageLatest (by decide)]
    exact h5
  · unfold rU at h6 ⊢
    rw [I iU_size (by decide), X iX_bodies (by decide), eA aU_kinds (by decide), eB aX_bodyKind (by decide), I iU_ran (by decide), X iX_ran (by decide), eA aU_traced (by decide), eB aX_trace (by decide)]
    exact h6
  · intro j hj
    have h := h7 j hj
    unfold rS1 at h ⊢
    have z : ∀ k, 18 ≤ k → k ≤ 36 → k ∉ [2, 3, 5, 37, 38, 41, 42, 43, 44, 45, 46, 51] := by
      intro k h1 h2
      simp only [List.mem_cons, List.not_mem_nil, or_false]
      omega
    rw [I (iS_size j) (z _ (by show 18 ≤ 19 + 3 * j; omega) (by show 19 + 3 * j ≤ 36; omega)), eB aX_many (by decide), eM, eL, I (iS_sort j) (z _ (by show 18 ≤ 18 + 3 * j; omega) (by show 18 + 3 * j ≤ 36; omega)), I (iS_ghost j) (z _ (by show 18 ≤ 20 + 3 * j; omega) (by show 20 + 3 * j ≤ 36; omega)), eB aX_shelf (by decide), I iU_size (by decide)]
    exact h
  · unfold rG at h8 ⊢
    rw [eB aX_ledNow (by decide), I (iG_letters 0) (by decide), I (iG_cleanings 0) (by decide), I (iG_learnings 0) (by decide), I (iG_showed 0) (by decide), I (iG_latest 0) (by decide), X iX_latest (by decide)]
    exact h8
