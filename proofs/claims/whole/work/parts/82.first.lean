-- the first states, and what the static rows hold (wip/gen/startgen.py)
def c0 : mS := (fun k => match k with
  | 1 => 5
  | 3 => 5
  | 5 => 5
  | 12 => -2
  | 17 => -2
  | 18 => -1
  | 20 => -1
  | 21 => -1
  | 23 => -1
  | 24 => -1
  | 26 => -1
  | 27 => -1
  | 29 => -1
  | 30 => -1
  | 32 => -1
  | 33 => -1
  | 35 => -1
  | _ => 0, fun _ _ => 0, fun _ _ => 0)
def x0 : mS := (fun k => match k with
  | 5 => -1
  | 12 => -1
  | _ => 0, fun k => match k with
  | 0 => upd (fun _ => 0) 64 5
  | 18 => shR
  | _ => fun _ => 0, fun _ _ => 0)
theorem may0 {i : Nat} (h : i ≠ 64) : gA x0 aX_may i = 0 := if_neg h
theorem rel0 : Rel c0 x0 := by
  have z0 : (0 : Int32) = nI 0 := by decide
  refine ⟨⟨⟨0, by omega, rfl, rfl⟩, ⟨0, by omega, rfl, rfl⟩, fun i hi => ⟨may0 (by omega), 0, by omega, rfl⟩, fun i hi => ⟨may0 (by omega), 0, by omega, rfl⟩, fun i hi => ⟨may0 (by omega), 0, by omega, rfl⟩, fun i hi => ⟨may0 (by omega), 0, by omega, rfl⟩, rfl, 5, by omega, rfl⟩, ⟨0, 0, by omega, by omega, rfl, rfl, rfl, rfl, fun i hi => absurd hi (by omega)⟩, ⟨0, by omega, rfl, rfl, fun i hi => absurd hi (by omega)⟩, Or.inl ⟨rfl, rfl⟩, Or.inl ⟨rfl, rfl⟩, ⟨⟨0, by omega, rfl, rfl, fun i hi => absurd hi (by omega)⟩, 0, by omega, rfl, rfl, fun i hi => absurd hi (by omega)⟩, fun j hj => ?_, ⟨rfl, rfl, rfl, rfl, Or.inl ⟨rfl, rfl⟩⟩⟩
  match j, hj with
  | 0, _ => exact ⟨⟨0, by omega, rfl, rfl⟩, fun i _ => rfl, Or.inl ⟨rfl, rfl, rfl⟩⟩
  | 1, _ => exact ⟨⟨0, by omega, rfl, rfl⟩, fun i _ => rfl, Or.inl ⟨rfl, rfl, rfl⟩⟩
  | 2, _ => exact ⟨⟨0, by omega, rfl, rfl⟩, fun i _ => rfl, Or.inl ⟨rfl, rfl, rfl⟩⟩
  | 3, _ => exact ⟨⟨0, by omega, rfl, rfl⟩, fun i _ => rfl, Or.inl ⟨rfl, rfl, rfl⟩⟩
  | 4, _ => exact ⟨⟨0, by omega, rfl, rfl⟩, fun i _ => rfl, Or.inl ⟨rfl, rfl, rfl⟩⟩
  | 5, _ => exact ⟨⟨0, by omega, rfl, rfl⟩, fun i _ => rfl, Or.inl ⟨rfl, rfl, rfl⟩⟩
  | n + 6, hj => omega
theorem shF_eq (a : Nat → Nat) : (fun i => (([21, 23, 25, 27, 29, 31] : List Nat)[i]?).map a) = shF a := by
  funext i
  match i with
  | 0 => rfl
  | 1 => rfl
  | 2 => rfl
  | 3 => rfl
  | 4 => rfl
  | 5 => rfl
  | n + 6 =>
    unfold shF va_up
    rw [if_neg (by omega), if_neg (by omega), if_neg (by omega), if_neg (by omega), if_neg (by omega), if_neg (by omega)]
    rfl
def mwF (cy : Nat → ClassId) (a : Nat → Nat) : Nat → List mE → va_W
  | _, [] => []
  | k, x :: h => (a k, me cy a x) :: mwF cy a (k + 1) h
theorem mwF_eq (cy : Nat → ClassId) (a : Nat → Nat) : ∀ (h : List mE) (k : Nat), h.mapIdx (fun q x => (a (q + k), me cy a x)) = mwF cy a k h := by
  intro h
  induction h with
  | nil => intro k; rfl
  | cons x h ih =>
    intro k
    rw [List.mapIdx_cons]
    show (a (0 + k), me cy a x) :: _ = (a k, me cy a x) :: mwF cy a (k + 1) h
    rw [← ih (k + 1), Nat.zero_add]
    congr 2
    funext q y
    rw [Nat.add_assoc, Nat.add_comm 1 k]
theorem mwF_app (cy : Nat → ClassId) (a : Nat → Nat) : ∀ (h1 h2 : List mE) (k : Nat), mwF cy a k (h1 ++ h2) = mwF cy a k h1 ++ mwF cy a (k + h1.length) h2 := by
  intro h1
  induction h1 with
  | nil => intro h2 k; rfl
  | cons x h ih =>
    intro h2 k
    show (a k, me cy a x) :: mwF cy a (k + 1) (h ++ h2) = (a k, me cy a x) :: (mwF cy a (k + 1) h ++ mwF cy a (k + (h.length + 1)) h2)
    rw [ih, show k + 1 + h.length = k + (h.length + 1) by omega]
set_option maxRecDepth 20000 in
set_option maxHeartbeats 2000000 in
theorem mw_hpC (cy : Nat → ClassId) (a : Nat → Nat) : mwF cy a 0 (LCl.map (mCell c0)) = cT cy a := by
  unfold cT
  rw [← shF_eq a]
  rfl
set_option maxRecDepth 20000 in
set_option maxHeartbeats 2000000 in
theorem mw_hpX (cy : Nat → ClassId) (a : Nat → Nat) : mwF cy a 53 (LXl.map (mCell x0)) = cX cy a := by
  unfold cX
  rfl
theorem mw_hp (cy : Nat → ClassId) (a : Nat → Nat) : mw cy a (hpO c0 x0) = cT cy a ++ cX cy a := by
  have h1 := mwF_eq cy a (hpO c0 x0) 0
  have h2 : mw cy a (hpO c0 x0) = mwF cy a 0 (hpO c0 x0) := h1
  have h3 : mwF cy a 0 (LCl.map (mCell c0) ++ LXl.map (mCell x0)) = mwF cy a 0 (LCl.map (mCell c0)) ++ mwF cy a 53 (LXl.map (mCell x0)) := mwF_app cy a _ _ 0
  rw [h2, ← mw_hpC, ← mw_hpX]
  exact h3
theorem mInst {ci : Nat} {r : vw_C} (h : vwCl[ci]? = some r) : Cond.instantiable r.1 r.2.2 ∈ lw_tbl := by
  match ci, h with
  | 0, h => cases h; exact (mm1 (List.mem_of_getElem? (i := 226) rfl))
  | 1, h => cases h; exact (mm1 (List.mem_of_getElem? (i := 145) rfl))
  | 2, h => cases h; exact (mm1 (List.mem_of_getElem? (i := 176) rfl))
  | 3, h => cases h; exact (mm1 (List.mem_of_getElem? (i := 99) rfl))
  | 4, h => cases h; exact (mm1 (List.mem_of_getElem? (i := 199) rfl))
  | 5, h => cases h; exact (mm1 (List.mem_of_getElem? (i := 26) rfl))
  | 6, h => cases h; exact (mm2 (List.mem_of_getElem? (i := 1) rfl))
  | 7, h => cases h; exact (mm1 (List.mem_of_getElem? (i := 73) rfl))
  | 8, h => cases h; exact (mm1 (List.mem_of_getElem? (i := 53) rfl))
  | 9, h => cases h; exact (mm1 (List.mem_of_getElem? (i := 18) rfl))
  | 10, h => cases h; exact (mm4 (List.mem_of_getElem? (i := 184) rfl))
  | _ + 11, h => simp [vwCl] at h
theorem aw_Q : Cond.arrayOver (.object "TypewritersKnow$Shelf") ∈ lw_tbl := (mm1 (List.mem_of_getElem? (i := 143) rfl))
theorem aw_OWN : Cond.laysStatic "TypewritersKnow$Ghosts" "OWN" "[I" ∈ lw_tbl := (mm4 (List.mem_of_getElem? (i := 103) rfl))
theorem aw_ABOVE : Cond.laysStatic "TypewritersKnow$Ghosts" "ABOVE" "[I" ∈ lw_tbl := (mm4 (List.mem_of_getElem? (i := 105) rfl))
theorem aw_ini : Cond.initialized "TypewritersKnow$Ghosts" ∈ lw_tbl := (mm1 (List.mem_of_getElem? (i := 7) rfl))
theorem aw_nest : Cond.methodLinkNest RX10 351 yX3_perform RX10 ∈ lw_tbl := (mm4 (List.mem_of_getElem? (i := 98) rfl))
set_option maxRecDepth 20000 in
theorem st_OWN {args : Array Value} {s : State} (hs : ∀ w ∈ flatC (Jvm.Cond.and given_1 narrow_1), w.before args s = true) (hA : ∀ q : Nat, q < s.heap.size → ¬ s.heap.size ≤ q) : ∃ t : Nat, (Term.static "TypewritersKnow$Ghosts" "OWN" "[I").eval args s none [] s = some (.ref t) ∧ va_T .int t 32 (fun j => .int (roOwn j)) (fun q => s.heap.size ≤ q) s s.heap := by
  refine va_Tof (N := 32) (by decide) (hs (.arrayOf (.static "TypewritersKnow$Ghosts" "OWN" "[I") .int) (by decide +kernel)) (va_eqt (z := 32) (hs (.eq (.length (.static "TypewritersKnow$Ghosts" "OWN" "[I")) (.int 32)) (by decide +kernel))) (fun j hj => ?_) hA
  match j, hj with
  | 0, _ => exact va_eqt (z := 1) (hs (.eq (.elem (.static "TypewritersKnow$Ghosts" "OWN" "[I") (.int 0)) (.int 1)) (by decide +kernel))
  | 1, _ => exact va_eqt (z := 10) (hs (.eq (.elem (.static "TypewritersKnow$Ghosts" "OWN" "[I") (.int 1)) (.int 10)) (by decide +kernel))
  | 2, _ => exact va_eqt (z := 11) (hs (.eq (.elem (.static "TypewritersKnow$Ghosts" "OWN" "[I") (.int 2)) (.int 11)) (by decide +kernel))
  | 3, _ => exact va_eqt (z := 2) (hs (.eq (.elem (.static "TypewritersKnow$Ghosts" "OWN" "[I") (.int 3)) (.int 2)) (by decide +kernel))
  | 4, _ => exact va_eqt (z := 20) (hs (.eq (.elem (.static "TypewritersKnow$Ghosts" "OWN" "[I") (.int 4)) (.int 20)) (by decide +kernel))
  | 5, _ => exact va_eqt (z := 0) (hs (.eq (.elem (.static "TypewritersKnow$Ghosts" "OWN" "[I") (.int 5)) (.int 0)) (by decide +kernel))
  | 6, _ => exact va_eqt (z := 0) (hs (.eq (.elem (.static "TypewritersKnow$Ghosts" "OWN" "[I") (.int 6)) (.int 0)) (by decide +kernel))
  | 7, _ => exact va_eqt (z := 0) (hs (.eq (.elem (.static "TypewritersKnow$Ghosts" "OWN" "[I") (.int 7)) (.int 0)) (by decide +kernel))
  | 8, _ => exact va_eqt (z := 0) (hs (.eq (.elem (.static "TypewritersKnow$Ghosts" "OWN" "[I") (.int 8)) (.int 0)) (by decide +kernel))
  | 9, _ => exact va_eqt (z := 30) (hs (.eq (.elem (.static "TypewritersKnow$Ghosts" "OWN" "[I") (.int 9)) (.int 30)) (by decide +kernel))
  | 10, _ => exact va_eqt (z := 0) (hs (.eq (.elem (.static "TypewritersKnow$Ghosts" "OWN" "[I") (.int 10)) (.int 0)) (by decide +kernel))
  | 11, _ => exact va_eqt (z := 0) (hs (.eq (.elem (.static "TypewritersKnow$Ghosts" "OWN" "[I") (.int 11)) (.int 0)) (by decide +kernel))
  | 12, _ => exact va_eqt (z := 0) (hs (.eq (.elem (.static "TypewritersKnow$Ghosts" "OWN" "[I") (.int 12)) (.int 0)) (by decide +kernel))
  | 13, _ => exact va_eqt (z := 41) (hs (.eq (.elem (.static "TypewritersKnow$Ghosts" "OWN" "[I") (.int 13)) (.int 41)) (by decide +kernel))
  | 14, _ => exact va_eqt (z := 40) (hs (.eq (.elem (.static "TypewritersKnow$Ghosts" "OWN" "[I") (.int 14)) (.int 40)) (by decide +kernel))
  | 15, _ => exact va_eqt (z := 0) (hs (.eq (.elem (.static "TypewritersKnow$Ghosts" "OWN" "[I") (.int 15)) (.int 0)) (by decide +kernel))
  | 16, _ => exact va_eqt (z := 0) (hs (.eq (.elem (.static "TypewritersKnow$Ghosts" "OWN" "[I") (.int 16)) (.int 0)) (by decide +kernel))
  | 17, _ => exact va_eqt (z := 0) (hs (.eq (.elem (.static "TypewritersKnow$Ghosts" "OWN" "[I") (.int 17)) (.int 0)) (by decide +kernel))
  | 18, _ => exact va_eqt (z := 50) (hs (.eq (.elem (.static "TypewritersKnow$Ghosts" "OWN" "[I") (.int 18)) (.int 50)) (by decide +kernel))
  | 19, _ => exact va_eqt (z := 0) (hs (.eq (.elem (.static "TypewritersKnow$Ghosts" "OWN" "[I") (.int 19)) (.int 0)) (by decide +kernel))
  | 20, _ => exact va_eqt (z := 0) (hs (.eq (.elem (.static "TypewritersKnow$Ghosts" "OWN" "[I") (.int 20)) (.int 0)) (by decide +kernel))
  | 21, _ => exact va_eqt (z := 0) (hs (.eq (.elem (.static "TypewritersKnow$Ghosts" "OWN" "[I") (.int 21)) (.int 0)) (by decide +kernel))
  | 22, _ => exact va_eqt (z := 0) (hs (.eq (.elem (.static "TypewritersKnow$Ghosts" "OWN" "[I") (.int 22)) (.int 0)) (by decide +kernel))
  | 23, _ => exact va_eqt (z := 60) (hs (.eq (.elem (.static "TypewritersKnow$Ghosts" "OWN" "[I") (.int 23)) (.int 60)) (by decide +kernel))
  | 24, _ => exact va_eqt (z := 70) (hs (.eq (.elem (.static "TypewritersKnow$Ghosts" "OWN" "[I") (.int 24)) (.int 70)) (by decide +kernel))
  | 25, _ => exact va_eqt (z := 0) (hs (.eq (.elem (.static "TypewritersKnow$Ghosts" "OWN" "[I") (.int 25)) (.int 0)) (by decide +kernel))
  | 26, _ => exact va_eqt (z := 0) (hs (.eq (.elem (.static "TypewritersKnow$Ghosts" "OWN" "[I") (.int 26)) (.int 0)) (by decide +kernel))
  | 27, _ => exact va_eqt (z := 0) (hs (.eq (.elem (.static "TypewritersKnow$Ghosts" "OWN" "[I") (.int 27)) (.int 0)) (by decide +kernel))
  | 28, _ => exact va_eqt (z := 0) (hs (.eq (.elem (.static "TypewritersKnow$Ghosts" "OWN" "[I") (.int 28)) (.int 0)) (by decide +kernel))
  | 29, _ => exact va_eqt (z := 80) (hs (.eq (.elem (.static "TypewritersKnow$Ghosts" "OWN" "[I") (.int 29)) (.int 80)) (by decide +kernel))
  | 30, _ => exact va_eqt (z := 0) (hs (.eq (.elem (.static "TypewritersKnow$Ghosts" "OWN" "[I") (.int 30)) (.int 0)) (by decide +kernel))
  | 31, _ => exact va_eqt (z := 81) (hs (.eq (.elem (.static "TypewritersKnow$Ghosts" "OWN" "[I") (.int 31)) (.int 81)) (by decide +kernel))
  | n + 32, hj => omega
set_option maxRecDepth 20000 in
theorem st_ABOVE {args : Array Value} {s : State} (hs : ∀ w ∈ flatC (Jvm.Cond.and given_1 narrow_1), w.before args s = true) (hA : ∀ q : Nat, q < s.heap.size → ¬ s.heap.size ≤ q) : ∃ t : Nat, (Term.static "TypewritersKnow$Ghosts" "ABOVE" "[I").eval args s none [] s = some (.ref t) ∧ va_T .int t 8 (fun j => .int (roAbove j)) (fun q => s.heap.size ≤ q) s s.heap := by
  refine va_Tof (N := 8) (by decide) (hs (.arrayOf (.static "TypewritersKnow$Ghosts" "ABOVE" "[I") .int) (by decide +kernel)) (va_eqt (z := 8) (hs (.eq (.length (.static "TypewritersKnow$Ghosts" "ABOVE" "[I")) (.int 8)) (by decide +kernel))) (fun j hj => ?_) hA
  match j, hj with
  | 0, _ => exact va_eqt (z := -1) (hs (.eq (.elem (.static "TypewritersKnow$Ghosts" "ABOVE" "[I") (.int 0)) (.int (-1))) (by decide +kernel))
  | 1, _ => exact va_eqt (z := 0) (hs (.eq (.elem (.static "TypewritersKnow$Ghosts" "ABOVE" "[I") (.int 1)) (.int 0)) (by decide +kernel))
  | 2, _ => exact va_eqt (z := 0) (hs (.eq (.elem (.static "TypewritersKnow$Ghosts" "ABOVE" "[I") (.int 2)) (.int 0)) (by decide +kernel))
  | 3, _ => exact va_eqt (z := 2) (hs (.eq (.elem (.static "TypewritersKnow$Ghosts" "ABOVE" "[I") (.int 3)) (.int 2)) (by decide +kernel))
  | 4, _ => exact va_eqt (z := 1) (hs (.eq (.elem (.static "TypewritersKnow$Ghosts" "ABOVE" "[I") (.int 4)) (.int 1)) (by decide +kernel))
  | 5, _ => exact va_eqt (z := 3) (hs (.eq (.elem (.static "TypewritersKnow$Ghosts" "ABOVE" "[I") (.int 5)) (.int 3)) (by decide +kernel))
  | 6, _ => exact va_eqt (z := 0) (hs (.eq (.elem (.static "TypewritersKnow$Ghosts" "ABOVE" "[I") (.int 6)) (.int 0)) (by decide +kernel))
  | 7, _ => exact va_eqt (z := 4) (hs (.eq (.elem (.static "TypewritersKnow$Ghosts" "ABOVE" "[I") (.int 7)) (.int 4)) (by decide +kernel))
  | n + 8, hj => omega
