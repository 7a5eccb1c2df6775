theorem bO_some {α β : Type} {o : Option α} {k : α → Option β} {res : β} (h : bO o k = some res) : ∃ x, o = some x ∧ k x = some res := by
  cases o with
  | none => cases h
  | some x => exact ⟨x, rfl, h⟩
theorem bP_some {α β : Type} {o : Option (α × mS)} {k : α → mS → Option β} {res : β} (h : bP o k = some res) : ∃ x s, o = some (x, s) ∧ k x s = some res := by
  cases o with
  | none => cases h
  | some x => exact ⟨x.1, x.2, rfl, h⟩
theorem rB_some {β : Type} {x : Int32} {k : Option β} {res : β} (h : rB x k = some res) : (x = 0 ∨ x = 1) ∧ k = some res := by
  unfold rB at h
  split at h
  · rename_i hx
    exact ⟨hx, h⟩
  · cases h
def roOwn (i : Nat) : Int32 := ([1, 10, 11, 2, 20, 0, 0, 0, 0, 30, 0, 0, 0, 41, 40, 0, 0, 0, 50, 0, 0, 0, 0, 60, 70, 0, 0, 0, 0, 80, 0, 81] : List Int32).getD i 0
def roAbove (i : Nat) : Int32 := ([-1, 0, 0, 2, 1, 3, 0, 4] : List Int32).getD i 0
def mRoC (ρ : mRo) : Prop := ρ 1001 = some (32, roOwn) ∧ ρ 1002 = some (8, roAbove)
section ROWS2
variable {ρ : mRo} {C : Nat → List Value → List mE → mPo → Prop} {o nL : Nat} {cc : ByteArray} {ret : Option FieldType} {P : mPo} {pc : Nat} {lv : mLv} {r : List Value} {h : List mE}
theorem e_tabI {x w : Int32} {dflt lo hi off : Int} {offs : Array Int} {len tgt : Nat} (hd : decode cc pc = .ok (.tableswitch dflt lo hi offs, len)) (hc : x = w) (h1 : ¬ w.toInt < lo ∧ ¬ hi < w.toInt ∧ offs[(w.toInt - lo).toNat]? = some off) (ht : (pc : Int) + off = (tgt : Int)) (kk : mG ρ C o nL cc ret P tgt lv r h) : mG ρ C o nL cc ret P pc lv (.int x :: r) h := by
  obtain ⟨n, kk⟩ := kk
  subst hc
  exact ⟨n + 1, lv, _, _, fun _ z => z, hd, x, r, rfl, fun z => absurd z (fun z => z.elim h1.1 h1.2.1), fun _ _ => ⟨off, tgt, h1.2.2, ht, kk⟩⟩
theorem e_tabD {x : Int32} {dflt lo hi : Int} {offs : Array Int} {len tgt : Nat} {ks : List Int32} (hd : decode cc pc = .ok (.tableswitch dflt lo hi offs, len)) (h0 : (pc : Int) + dflt = (tgt : Int) ∧ (List.range (hi - lo + 1).toNat).all (fun i => offs[i]? == some dflt || ks.any (fun k => k.toInt == lo + (i : Int))) = true) (hne : ∀ z ∈ ks, ¬ x = z) (kk : mG ρ C o nL cc ret P tgt lv r h) : mG ρ C o nL cc ret P pc lv (.int x :: r) h := by
  obtain ⟨n, kk⟩ := kk
  refine ⟨n + 1, lv, _, _, fun _ z => z, hd, x, r, rfl, fun _ => ⟨tgt, h0.1, kk⟩, fun h1 h2 => ⟨dflt, tgt, ?_, h0.1, kk⟩⟩
  have h3 := List.all_eq_true.mp h0.2 (x.toInt - lo).toNat (List.mem_range.mpr (by omega))
  simp only [Bool.or_eq_true] at h3
  rcases h3 with h3 | h3
  · simpa using h3
  · obtain ⟨k, hk, h4⟩ := List.any_eq_true.mp h3
    have h5 : k.toInt = x.toInt := by
      have h6 : k.toInt = lo + (((x.toInt - lo).toNat : Nat) : Int) := by simpa using h4
      omega
    exact absurd (Int32.toInt_inj.mp h5).symm (hne k hk)
theorem e_look {x w : Int32} {dflt : Int} {ps : Array (Int × Int)} {len tgt : Nat} (hd : decode cc pc = .ok (.lookupswitch dflt ps, len)) (hc : x = w) (h0 : (ps.toList.zip (ps.toList.drop 1)).all (fun (a, next) => a.1 < next.1) = true) (ht : (pc : Int) + Op.lookupswitch.offset ps.toList dflt w.toInt = (tgt : Int)) (kk : mG ρ C o nL cc ret P tgt lv r h) : mG ρ C o nL cc ret P pc lv (.int x :: r) h := by
  obtain ⟨n, kk⟩ := kk
  subst hc
  exact ⟨n + 1, lv, _, _, fun _ z => z, hd, h0, x, r, tgt, rfl, ht, kk⟩
theorem look_dflt {x : Int32} {dflt : Int} {ks : List Int32} (hne : ∀ z ∈ ks, ¬ x = z) : ∀ (ps : List (Int × Int)), ps.all (fun p => p.2 == dflt || ks.any (fun k => k.toInt == p.1)) = true → Op.lookupswitch.offset ps dflt x.toInt = dflt := by
  intro ps
  induction ps with
  | nil => intro _; rfl
  | cons p ps ih =>
    intro h
    rw [List.all_cons, Bool.and_eq_true] at h
    obtain ⟨a, b⟩ := p
    rw [Op.lookupswitch.offset_cons]
    split
    · rename_i hx
      simp only [Bool.or_eq_true] at h
      rcases h.1 with h1 | h1
      · simpa using h1
      · obtain ⟨k, hk, h4⟩ := List.any_eq_true.mp h1
        have h5 : k.toInt = a := by simpa using h4
        exact absurd (Int32.toInt_inj.mp (by rw [h5]; first | exact hx | exact hx.symm)).symm (hne k hk)
    · exact ih h.2
theorem e_lookD {x : Int32} {dflt : Int} {ps : Array (Int × Int)} {len tgt : Nat} {ks : List Int32} (hd : decode cc pc = .ok (.lookupswitch dflt ps, len)) (h0 : (ps.toList.zip (ps.toList.drop 1)).all (fun (a, next) => a.1 < next.1) = true) (h1 : (pc : Int) + dflt = (tgt : Int) ∧ ps.toList.all (fun p => p.2 == dflt || ks.any (fun k => k.toInt == p.1)) = true) (hne : ∀ z ∈ ks, ¬ x = z) (kk : mG ρ C o nL cc ret P tgt lv r h) : mG ρ C o nL cc ret P pc lv (.int x :: r) h := by
  obtain ⟨n, kk⟩ := kk
  exact ⟨n + 1, lv, _, _, fun _ z => z, hd, h0, x, r, tgt, rfl, by rw [look_dflt hne _ h1.2]; exact h1.1, kk⟩
end ROWS2
