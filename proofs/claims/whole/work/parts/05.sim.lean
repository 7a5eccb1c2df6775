-- the machine of the Statement follows the small one: cells, locals, and each instruction
def mv (a : Nat → Nat) (v : Value) : Value := match v with
  | .ref q => .ref (a q)
  | w => w
theorem mv_cat (a : Nat → Nat) (v : Value) : (mv a v).category = v.category := by cases v <;> rfl
def me (cy : Nat → ClassId) (a : Nat → Nat) (x : mE) : va_E := match x with
  | .inl (n, .inl f) => .inl (cy 0, n, .inl f)
  | .inl (n, .inr (.inl f)) => .inl (cy 1, n, .inr (.inl f))
  | .inl (n, .inr (.inr (.inl f))) => .inl (cy 3, n, .inr (.inr (.inl f)))
  | .inl (n, .inr (.inr (.inr (.inl f)))) => .inl (cy 3, n, .inr (.inr (.inr (.inl f))))
  | .inl (n, .inr (.inr (.inr (.inr f)))) => .inl (cy 2, n, .inr (.inr (.inr (.inr (fun i => (f i).map a)))))
  | .inr (ci, fs) => .inr (ci, fs.map (mv a))
def mw (cy : Nat → ClassId) (a : Nat → Nat) (h : List mE) : va_W := h.mapIdx (fun q x => (a q, me cy a x))
theorem mw_at {cy : Nat → ClassId} {a : Nat → Nat} {h : List mE} {q : Nat} {x : mE} (hq : h[q]? = some x) : (mw cy a h)[q]? = some (a q, me cy a x) := by
  unfold mw
  rw [List.getElem?_mapIdx, hq]
  rfl
theorem mw_of {cy : Nat → ClassId} {a : Nat → Nat} {h : List mE} {q : Nat} {e : Nat × va_E} (hq : (mw cy a h)[q]? = some e) : q < h.length ∧ e.1 = a q := by
  unfold mw at hq
  rw [List.getElem?_mapIdx] at hq
  cases hx : h[q]? with
  | none => rw [hx] at hq; cases hq
  | some x =>
    rw [hx] at hq
    cases hq
    exact ⟨(List.getElem?_eq_some_iff.mp hx).1, rfl⟩
theorem mw_set (cy : Nat → ClassId) (a : Nat → Nat) (h : List mE) (q : Nat) (x : mE) : (mw cy a h).set q (a q, me cy a x) = mw cy a (h.set q x) := by
  apply List.ext_getElem?
  intro i
  unfold mw
  rw [List.getElem?_mapIdx, List.getElem?_set, List.getElem?_set, List.getElem?_mapIdx, List.length_mapIdx]
  by_cases hi : q = i
  · subst hi
    by_cases hl : q < h.length
    · simp [hl]
    · simp [hl]
  · simp [hi]
/-- the cells are apart, and of a kind -/
def mInj (A : Nat → Prop) (a : Nat → Nat) (n : Nat) : Prop := (∀ i j, i < n → j < n → a i = a j → i = j) ∧ ∀ i, i < n → A (a i)
theorem mInj.D {A : Nat → Prop} {a : Nat → Nat} {n : Nat} {cy : Nat → ClassId} {h : List mE} (hi : mInj A a n) (hn : h.length = n) : va_D A (mw cy a h) := by
  refine ⟨fun i j p q hp hq e => ?_, fun k q hq => ?_⟩
  · obtain ⟨h1, h2⟩ := mw_of hp
    obtain ⟨h3, h4⟩ := mw_of hq
    exact hi.1 i j (by omega) (by omega) (by rw [← h2, ← h4, e])
  · obtain ⟨h1, h2⟩ := mw_of hq
    rw [h2]
    exact hi.2 k (by omega)
def mTy (cy : Nat → ClassId) : List (ClassId × FieldType) := [(cy 0, .int), (cy 1, .long), (cy 2, .object "TypewritersKnow$Shelf")]
/-- locals -/
def ml (a : Nat → Nat) (lv : mLv) : List (Nat × Value) := lv.map (fun q => (q.1, mv a q.2))
theorem ml_mem {a : Nat → Nat} {lv : mLv} {ls : Array Slot} {nL i : Nat} {v : Value} (hl : lv_has ls nL (ml a lv)) (h : (i, v) ∈ lv) : ls[i]? = some (.val (mv a v)) := hl.2.2 (i, mv a v) (List.mem_map.mpr ⟨(i, v), h, rfl⟩)
theorem ml_put {a : Nat → Nat} {lv : mLv} {i : Nat} {v : Value} : (i, mv a v) :: (ml a lv).filter (fun q => !(q.1 == i) && !(q.1 + 1 == i && q.2.category == 2)) = ml a (mPut lv i v) := by
  unfold ml mPut
  rw [List.map_cons, List.filter_map]
  congr 2
  apply List.filter_congr
  intro x _
  simp [Function.comp, mv_cat]
theorem ml_put2 {a : Nat → Nat} {lv : mLv} {i : Nat} {v : Value} : (i, mv a v) :: (ml a lv).filter (fun q => !(q.1 == i) && (!(q.1 == i + 1) && !(q.1 + 1 == i && q.2.category == 2))) = ml a (mPut2 lv i v) := by
  unfold ml mPut2
  rw [List.map_cons, List.filter_map]
  congr 2
  apply List.filter_congr
  intro x _
  simp [Function.comp, mv_cat]
theorem ml_args (a : Nat → Nat) (vs : List Value) : ∀ i, lv_args i (vs.map (mv a)) = ml a (lv_args i vs) := by
  induction vs with
  | nil => intro i; rfl
  | cons v vs ih =>
    intro i
    simp only [List.map_cons, lv_args, mv_cat]
    rw [ih]
    rfl
theorem lg_sl_mv (a : Nat → Nat) (vs : List Value) : (lg_sl (vs.map (mv a))).length = (lg_sl vs).length := by
  induction vs with
  | nil => rfl
  | cons v vs ih =>
    unfold lg_sl at ih ⊢
    simp only [List.map_cons, List.flatMap_cons, List.length_append, ih, mv_cat]
    split <;> rfl
theorem mSum_mv (a : Nat → Nat) (r : List Value) : ((r.map (mv a)).map fun v => v.category).sum = mSum r := by
  unfold mSum
  rw [List.map_map]
  congr 1
  apply List.map_congr_left
  intro v _
  exact mv_cat a v
def gt : List Cond := lw_tbl.filter goodWord
theorem gt_of {w : Cond} (h : w ∈ lw_tbl) (hg : goodWord w = true) : w ∈ gt := List.mem_filter.mpr ⟨h, hg⟩
theorem gt_good : GoodIn gt gt := fun w h => ⟨h, good_of_word (List.mem_filter.mp h).2⟩
theorem gt_lay {C : String} {T : u_T} {N : Nat} (h : ∀ w ∈ u_ws C T N, w ∈ lw_tbl) : ∀ w ∈ u_ws C T N, w ∈ gt := by
  intro w hw
  refine gt_of (h w hw) ?_
  obtain ⟨k, -, rfl⟩ := List.mem_map.mp hw
  unfold u_lay
  split <;> rfl
def mWs (y : mRec) : List Cond := Cond.code y.2.1 y.2.2.1 y.2.2.2.1 y.2.2.2.2.1 :: gt
theorem mWs_good {y : mRec} (hy : mRecOk y) : GoodIn gt (mWs y) := by
  intro w hw
  rcases List.mem_cons.mp hw with rfl | h
  · exact ⟨gt_of hy.1 rfl, Or.inl rfl⟩
  · exact gt_good w h
