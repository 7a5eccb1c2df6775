-- one instruction of the small machine is one of the Statement's
def mRm (d : Nat) : Room := { frames := d, cells := 0, slots := 0, locals := 40 * d + 40 }
def mA (a : Nat → Nat) (n sz : Nat) : Nat → Prop := fun q => (∃ k, k < n ∧ q = a k) ∨ sz ≤ q
/-- what is read and never written: arrays outside, two static fields, the one link to a nest mate -/
def mRoOk (ρ : mRo) (a : Nat → Nat) (A : Nat → Prop) (U : State) : Prop :=
  (∀ q n f, ρ q = some (n, f) → va_T .int (a q) n (fun j => .int (f j)) A U U.heap) ∧ va_Z "TypewritersKnow$Ghosts" "OWN" "[I" (.ref (a 1001)) A U U.heap ∧ va_Z "TypewritersKnow$Ghosts" "ABOVE" "[I" (.ref (a 1002)) A U U.heap ∧ va_Nw (.methodLinkNest RX10 351 yX3_perform RX10) U
theorem mRoOk.to {ρ : mRo} {a : Nat → Nat} {A B : Nat → Prop} {s U : State} {locs : List Loc} (h : mRoOk ρ a A s) (hS : va_S A s.heap U.heap locs) (hAB : ∀ q, q < s.heap.size → B q → A q) (hW : s.WarmedH U.vm) : mRoOk ρ a B U := by
  obtain ⟨h1, h2, h3, h4⟩ := h
  have z : ∀ {n : String} {v : Value}, va_Z "TypewritersKnow$Ghosts" n "[I" v A s s.heap → va_Z "TypewritersKnow$Ghosts" n "[I" v B U U.heap := by
    intro n v hz
    obtain ⟨cf, kf, fi, f, b, cell, g1, g2, g3, g4, g5, g6, g7, g8⟩ := va_Z.moved hW.alike (va_Z.kept hz hS.2.1)
    obtain ⟨cf', kf', fi', f', b', cell', q1, q2, q3, q4, q5, q6, q7, q8⟩ := hz
    by_cases hb : b < s.heap.size
    · exact ⟨cf, kf, fi, f, b, cell, g1, g2, g3, g4, g5, g6, g7, fun q => g8 (hAB b hb q)⟩
    · exfalso
      obtain ⟨k', hi', he⟩ := State.fieldFound?_setVm hW.alike q1
      have ek : kf = k' := congrArg (fun z => z.2.1) (Option.some.inj (g1.symm.trans hi'))
      have e2 : kf.statics = some b' := by rw [ek, he]; exact q4
      have e3 : b = b' := Option.some.inj (g4.symm.trans e2)
      exact hb (by rw [e3]; exact (Array.getElem?_eq_some_iff.mp q5).1)
  refine ⟨fun q n f hq => ?_, z h2, z h3, h4.warmM hW⟩
  obtain ⟨cell, g1, g2, g3, g4, g5, g6, g7⟩ := h1 q n f hq
  have g8 := (Array.getElem?_eq_some_iff.mp g1).1
  exact ⟨cell, by rw [hS.2.1 _ g8 g7]; exact g1, State.isArrayOf_alike hW.alike g2, g3, g4, g5, g6, fun z => g7 (hAB _ g8 z)⟩
def mPre (D : va_G) (cy : Nat → ClassId) (a : Nat → Nat) (ρ : mRo) (n : Nat) (as : List Value) (h : List mE) (sz : Nat) : Array Value → State → Prop :=
  va_Pc (as.map (mv a)) (fun U => U.heap.size = sz ∧ h.length = n ∧ va_P D vwCl (mw cy a h) U.heap ∧ va_K D vwCl (mTy cy) U ∧ (∀ i j, i < n → j < n → a i = a j → i = j) ∧ mRoOk ρ a (mA a n sz) U)
def mPost (D : va_G) (cy : Nat → ClassId) (a : Nat → Nat) (n sz : Nat) (P : mPo) : Array Value → State → Outcome → State → Prop := fun _ st oc t =>
  (∃ r h', oc = .returned (r.map (mv a)) ∧ h'.length = n ∧ P r h' ∧ va_P D vwCl (mw cy a h') t.heap) ∧ va_F (mA a n sz) st t
theorem mPre_blind {D : va_G} {cy : Nat → ClassId} {a : Nat → Nat} {ρ : mRo} {n : Nat} {as : List Value} {h : List mE} {sz : Nat} : FrameBlind (mPre D cy a ρ n as h sz) := by
  intro v U g mk q
  obtain ⟨q0, q1, q2, q3, q4, q5, q6, q7, q8, q9⟩ := q
  refine ⟨q0, q1, q2, q3, va_K.moved (u := U) (U := U.calling g mk v) (Vm.Alike.refl U.vm) q4, q5, ?_, ?_, ?_, ?_⟩
  · intro q n f hq
    exact va_T.moved (u := U) (U := U.calling g mk v) (Vm.Alike.refl U.vm) (q6 q n f hq)
  · exact va_Z.moved (u := U) (U := U.calling g mk v) (Vm.Alike.refl U.vm) q7
  · exact va_Z.moved (u := U) (U := U.calling g mk v) (Vm.Alike.refl U.vm) q8
  · exact va_Nw.same rfl (u := U) (U := U.calling g mk v) rfl q9
/-- every call of the small machine has its contract -/
def mCallOk (l : Launch) (D : va_G) (cy : Nat → ClassId) (a : Nat → Nat) (ρ : mRo) (n d : Nat) (C : Nat → List Value → List mE → mPo → Prop) : Prop :=
  ∀ j as h P, C j as h P → ∃ y, mTab[j]? = some y ∧ y.2.2.2.1 ≤ 20 ∧ ∀ sz, Met l y.2.1 (mWs y) (mRm d) (mPre D cy a ρ n as h sz) (mPost D cy a n sz P) 0 0 (mA a n sz)
section MST
variable {p : Program} {l : Launch} {e : Env} {R : Room} {s : State} {m : MethodId} {args : Array Value} {below : List Frame} {meth : Method} {c : Code} {H : Heap} {locs : List Loc} {cells slots : Nat} {Q : State → Prop}
variable {D : va_G} {cy : Nat → ClassId} {a : Nat → Nat} {ρ : mRo} {n d o nL : Nat} {A : Nat → Prop} {cc : ByteArray} {ls : Array Slot} {pc : Nat} {lv : mLv}
/-- behind a call -/
theorem m_call {P : mPo} {av : Array Value} {g0 rest : List Value} (hr : va_Run p l e R s m args below meth c H locs cells slots 0 0 (F0 m pc ls g0) (rest.map (mv a)) (mPost D cy a n H.size P av) (mA a n H.size)) (hS : va_S A s.heap H locs) (hA : ∀ q, mA a n H.size q → A q)
    (kk : ∀ (r : Option Value) (h' : List mE) (H1 : Heap) (locs1 : List Loc), P r h' → h'.length = n → va_P D vwCl (mw cy a h') H1 → va_S A s.heap H1 locs1 → W p l e R s m args below meth c H1 locs1 cells slots Q (F0 m (pc + 3) ls ((r.toList ++ rest).map (mv a)))) : W p l e R s m args below meth c H locs cells slots Q (F0 m pc ls g0) := by
  intro T hT X
  obtain ⟨v, st₀, t, T', L, h0, X', hL, e1, e2, ⟨⟨r, h', hv, hn, hp, hb⟩, hz, hk⟩, st⟩ := hr T hT X
  cases hv
  rw [h0] at hz hk
  obtain ⟨t2, a1, b1⟩ := kk r h' T'.heap (locs ++ L) hp hn (by rw [e1]; exact hb)
    ⟨Nat.le_trans hS.1 (by rw [e1]; exact hz), fun q h1 h2 => by rw [e1, hk q (Nat.lt_of_lt_of_le h1 hS.1) (fun z => h2 (hA q z))]; exact hS.2.1 q h1 h2, fun q hq => by
      rcases List.mem_append.mp hq with h | h
      · exact hS.2.2 q h
      · exact hA _ (hL q h)⟩ T' rfl X'
  refine ⟨t2, st t2 ?_, b1⟩
  have e3 : (r.map (mv a)).toList ++ rest.map (mv a) = (r.toList ++ rest).map (mv a) := by cases r <;> simp
  rw [e3]
  exact a1
end MST
