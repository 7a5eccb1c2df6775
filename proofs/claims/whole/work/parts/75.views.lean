-- the heap pictures both states
theorem uq_I {l : List mLE} (h : mUq l = true) {i j a b c1 c2 x y : Nat} {f g : List (Nat ⊕ Nat)} (hi : l[i]? = some (.inl (c1, f))) (hj : l[j]? = some (.inl (c2, g))) (ha : f[a]? = some (.inr x)) (hb : g[b]? = some (.inr y)) (e : x = y) : i = j ∧ a = b := by
  have li := (List.getElem?_eq_some_iff.mp hi).1
  have lj := (List.getElem?_eq_some_iff.mp hj).1
  have la := (List.getElem?_eq_some_iff.mp ha).1
  have lb := (List.getElem?_eq_some_iff.mp hb).1
  unfold mUq at h
  have h1 := List.all_eq_true.mp (List.all_eq_true.mp h i (List.mem_range.mpr li)) j (List.mem_range.mpr lj)
  rw [hi, hj] at h1
  have h2 := List.all_eq_true.mp (List.all_eq_true.mp h1 a (List.mem_range.mpr la)) b (List.mem_range.mpr lb)
  rw [ha, hb] at h2
  subst e
  simpa using h2
theorem uq_A {l : List mLE} (h : mUq l = true) {i j n1 n2 x y : Nat} (hi : l[i]? = some (.inr (.inl (n1, x)))) (hj : l[j]? = some (.inr (.inl (n2, y)))) (e : x = y) : i = j := by
  have li := (List.getElem?_eq_some_iff.mp hi).1
  have lj := (List.getElem?_eq_some_iff.mp hj).1
  unfold mUq at h
  have h1 := List.all_eq_true.mp (List.all_eq_true.mp h i (List.mem_range.mpr li)) j (List.mem_range.mpr lj)
  rw [hi, hj] at h1
  subst e
  simpa using h1
theorem uq_L {l : List mLE} (h : mUq l = true) {i j n1 n2 x y : Nat} (hi : l[i]? = some (.inr (.inr (.inl (n1, x))))) (hj : l[j]? = some (.inr (.inr (.inl (n2, y))))) (e : x = y) : i = j := by
  have li := (List.getElem?_eq_some_iff.mp hi).1
  have lj := (List.getElem?_eq_some_iff.mp hj).1
  unfold mUq at h
  have h1 := List.all_eq_true.mp (List.all_eq_true.mp h i (List.mem_range.mpr li)) j (List.mem_range.mpr lj)
  rw [hi, hj] at h1
  subst e
  simpa using h1
theorem mFv_pI (s : mS) (id : Nat) (v : Int32) (x : Nat ⊕ Nat) : mFv (pI s id v) x = if x = .inr id then .int v else mFv s x := by
  cases x with
  | inl j => rw [if_neg (by simp)]; rfl
  | inr y =>
    by_cases e : y = id
    · subst e
      rw [if_pos rfl]
      show Value.int (va_up s.1 y v y) = _
      unfold va_up
      rw [if_pos rfl]
    · rw [if_neg (fun z => e (by injection z))]
      show Value.int (va_up s.1 id v y) = Value.int (s.1 y)
      unfold va_up
      rw [if_neg e]
theorem set_map {l : List mLE} {s t : mS} {q : Nat} {x : mLE} {y : mE} (hq : l[q]? = some x) (h1 : mCell t x = y) (h2 : ∀ i z, i ≠ q → l[i]? = some z → mCell t z = mCell s z) : (l.map (mCell s)).set q y = l.map (mCell t) := by
  apply List.ext_getElem?
  intro i
  rw [List.getElem?_set, List.getElem?_map, List.getElem?_map, List.length_map]
  by_cases e : q = i
  · subst e
    rw [if_pos rfl, if_pos (List.getElem?_eq_some_iff.mp hq).1, hq, ← h1]
    rfl
  · rw [if_neg e]
    cases hz : l[i]? with
    | none => rfl
    | some z => exact congrArg some (h2 i z (fun z => e z.symm) hz).symm
theorem set_I {l : List mLE} (h : mUq l = true) {s : mS} {q ci k id : Nat} {fs : List (Nat ⊕ Nat)} {v : Int32} (hq : l[q]? = some (.inl (ci, fs))) (hk : fs[k]? = some (.inr id)) : (l.map (mCell s)).set q (.inr (ci, (fs.map (mFv s)).set k (.int v))) = l.map (mCell (pI s id v)) := by
  refine set_map hq ?_ (fun i z hi hz => ?_)
  · show Sum.inr (ci, fs.map (mFv (pI s id v))) = _
    congr 2
    apply List.ext_getElem?
    intro b
    rw [List.getElem?_set, List.getElem?_map, List.getElem?_map, List.length_map]
    by_cases e : k = b
    · subst e
      rw [if_pos rfl, if_pos (List.getElem?_eq_some_iff.mp hk).1, hk]
      show some (mFv (pI s id v) (.inr id)) = _
      rw [mFv_pI, if_pos rfl]
    · rw [if_neg e]
      cases hb : fs[b]? with
      | none => rfl
      | some y =>
        show some (mFv (pI s id v) y) = some (mFv s y)
        rw [mFv_pI, if_neg]
        intro z
        rw [z] at hb
        exact e (uq_I h hq hq hk hb rfl).2
  · rcases z with ⟨c2, g⟩ | ⟨n, x⟩ | ⟨n, x⟩ | js
    · show Sum.inr (c2, g.map (mFv (pI s id v))) = Sum.inr (c2, g.map (mFv s))
      congr 2
      apply List.ext_getElem?
      intro b
      rw [List.getElem?_map, List.getElem?_map]
      cases hb : g[b]? with
      | none => rfl
      | some y =>
        show some (mFv (pI s id v) y) = some (mFv s y)
        rw [mFv_pI, if_neg]
        intro z
        rw [z] at hb
        exact hi (uq_I h hz hq hb hk rfl).1
    · rfl
    · rfl
    · rfl
theorem set_A {l : List mLE} (h : mUq l = true) {s : mS} {q n id : Nat} {g : Nat → Int32} (hq : l[q]? = some (.inr (.inl (n, id)))) : (l.map (mCell s)).set q (.inl (n, .inl g)) = l.map (mCell (wA s id g)) := by
  refine set_map hq ?_ (fun i z hi hz => ?_)
  · show Sum.inl (n, Sum.inl (va_up s.2.1 id g id)) = _
    unfold va_up
    rw [if_pos rfl]
  · rcases z with ⟨c2, f⟩ | ⟨n2, x⟩ | ⟨n2, x⟩ | js
    · rfl
    · show Sum.inl (n2, Sum.inl (va_up s.2.1 id g x)) = Sum.inl (n2, Sum.inl (s.2.1 x))
      unfold va_up
      rw [if_neg (fun e => hi (uq_A h hz hq e))]
    · rfl
    · rfl
theorem set_L {l : List mLE} (h : mUq l = true) {s : mS} {q n id : Nat} {g : Nat → Int64} (hq : l[q]? = some (.inr (.inr (.inl (n, id))))) : (l.map (mCell s)).set q (.inl (n, .inr (.inl g))) = l.map (mCell (wL s id g)) := by
  refine set_map hq ?_ (fun i z hi hz => ?_)
  · show Sum.inl (n, Sum.inr (Sum.inl (va_up s.2.2 id g id))) = _
    unfold va_up
    rw [if_pos rfl]
  · rcases z with ⟨c2, f⟩ | ⟨n2, x⟩ | ⟨n2, x⟩ | js
    · rfl
    · rfl
    · show Sum.inl (n2, Sum.inr (Sum.inl (va_up s.2.2 id g x))) = Sum.inl (n2, Sum.inr (Sum.inl (s.2.2 x)))
      unfold va_up
      rw [if_neg (fun e => hi (uq_L h hz hq e))]
    · rfl
theorem LCl_len : LCl.length = 53 := rfl
theorem LXl_len : LXl.length = 23 := rfl
theorem view_C (x : mS) : mView LC (fun s => hpO s x) := by
  have lt : ∀ {q y}, LC q = some y → q < LCl.length := fun h => (List.getElem?_eq_some_iff.mp h).1
  refine ⟨fun q y s hq => ?_, fun q ci fs k id s v hq hk => ?_, fun q n id s g hq => ?_, fun q n id s g hq => ?_⟩
  · show (LCl.map (mCell s) ++ LXl.map (mCell x))[q]? = _
    rw [List.getElem?_append_left (by rw [List.length_map]; exact lt hq), List.getElem?_map]
    have : LCl[q]? = some y := hq
    rw [this]
    rfl
  · show (LCl.map (mCell s) ++ LXl.map (mCell x)).set q _ = LCl.map (mCell (pI s id v)) ++ LXl.map (mCell x)
    rw [List.set_append, if_pos (by rw [List.length_map]; exact lt hq), set_I mUq_C hq hk]
  · show (LCl.map (mCell s) ++ LXl.map (mCell x)).set q _ = LCl.map (mCell (wA s id g)) ++ LXl.map (mCell x)
    rw [List.set_append, if_pos (by rw [List.length_map]; exact lt hq), set_A mUq_C hq]
  · show (LCl.map (mCell s) ++ LXl.map (mCell x)).set q _ = LCl.map (mCell (wL s id g)) ++ LXl.map (mCell x)
    rw [List.set_append, if_pos (by rw [List.length_map]; exact lt hq), set_L mUq_C hq]
theorem view_X (c : mS) : mView LX (fun s => hpO c s) := by
  have lt : ∀ {q y}, LX q = some y → 53 ≤ q ∧ LXl[q - 53]? = some y := fun {q y} h => by
    unfold LX at h
    by_cases e : q < 53
    · rw [if_pos e] at h; exact nomatch h
    · rw [if_neg e] at h; exact ⟨by omega, h⟩
  have ln : (LCl.map (mCell c)).length = 53 := by rw [List.length_map]; rfl
  refine ⟨fun q y s hq => ?_, fun q ci fs k id s v hq hk => ?_, fun q n id s g hq => ?_, fun q n id s g hq => ?_⟩
  · obtain ⟨h1, h2⟩ := lt hq
    show (LCl.map (mCell c) ++ LXl.map (mCell s))[q]? = _
    rw [List.getElem?_append_right (by rw [ln]; exact h1), List.getElem?_map, ln, h2]
    rfl
  · obtain ⟨h1, h2⟩ := lt hq
    show (LCl.map (mCell c) ++ LXl.map (mCell s)).set q _ = LCl.map (mCell c) ++ LXl.map (mCell (pI s id v))
    rw [List.set_append, if_neg (by rw [ln]; omega), ln, set_I mUq_X h2 hk]
  · obtain ⟨h1, h2⟩ := lt hq
    show (LCl.map (mCell c) ++ LXl.map (mCell s)).set q _ = LCl.map (mCell c) ++ LXl.map (mCell (wA s id g))
    rw [List.set_append, if_neg (by rw [ln]; omega), ln, set_A mUq_X h2]
  · obtain ⟨h1, h2⟩ := lt hq
    show (LCl.map (mCell c) ++ LXl.map (mCell s)).set q _ = LCl.map (mCell c) ++ LXl.map (mCell (wL s id g))
    rw [List.set_append, if_neg (by rw [ln]; omega), ln, set_L mUq_X h2]
theorem hpO_len (c x : mS) : (hpO c x).length = 76 := by
  show (LCl.map (mCell c) ++ LXl.map (mCell x)).length = 76
  rw [List.length_append, List.length_map, List.length_map]
  rfl
