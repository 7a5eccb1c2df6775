section MST3
variable {p : Program} {l : Launch} {e : Env} {R : Room} {s : State} {m : MethodId} {args : Array Value} {below : List Frame} {meth : Method} {c : Code} {cells slots : Nat} {Q : State → Prop}
variable {D : va_G} {cy : Nat → ClassId} {a : Nat → Nat} {ρ : mRo} {n d o nL : Nat} {A : Nat → Prop} {cc : ByteArray} {ret : Option FieldType} {C : Nat → List Value → List mE → mPo → Prop} {P : mPo}
/-- a run of the small machine is one of the Statement's -/
theorem m_run (hx : p.tables.exec = Jvm.exec) (hb : c.code = cc) (hml : c.maxLocals = nL) (hown : s.vm.findClass (mOwn o) = some m.cls) (hts : ∀ w ∈ gt, w.before args s = true) (hK : va_K D vwCl (mTy cy) s) (hi : mInj A a n) (hAa : ∀ q, s.heap.size ≤ q → A q) (hro : mRoOk ρ a A s)
    (hRf : d + 1 ≤ R.frames) (hRl : 40 * d + 80 ≤ R.locals) (hRc : cells ≤ R.cells ∧ slots ≤ R.slots) (hC : mCallOk l D cy a ρ n d C) (hE : mEndOk p l e R s m args below meth c cells slots Q D cy a n A cc ret P) :
    ∀ (k pc : Nat) (lv : mLv) (stk : List Value) (h : List mE), mEv ρ C o nL cc ret P k pc lv stk h → mGo p l e R s m args below meth c cells slots Q D cy a n nL A pc lv stk h := by
  intro k
  induction k with
  | zero => intro pc lv stk h hev; exact False.elim hev
  | succ k ih =>
    intro pc lv stk h hev
    obtain ⟨lv', i, len, hsub, hd, hs⟩ := hev
    intro H locs ls hn hP hS hl
    refine m_step hx hb hml hown hts hK hi hAa hro hRf hRl hRc hC hE ih hd hs H locs ls hn hP hS ⟨hl.1, hl.2.1, fun q hq => ?_⟩
    obtain ⟨q', hq', rfl⟩ := List.mem_map.mp hq
    exact hl.2.2 _ (List.mem_map.mpr ⟨q', hsub q' hq', rfl⟩)
end MST3
set_option maxHeartbeats 4000000 in
/-- every call of the small machine is a contract of the Statement's -/
theorem m_met (l : Launch) (D : va_G) (cy : Nat → ClassId) (a : Nat → Nat) (ρ : mRo) (n : Nat) : ∀ d, mCallOk l D cy a ρ n d (mC ρ d) := by
  intro d
  induction d with
  | zero => intro j as h P hc; exact False.elim hc
  | succ d ih =>
    intro j as h P hc
    obtain ⟨y, hy, hlg, hmax, k, hev⟩ := hc
    refine ⟨y, hy, hmax, fun sz => ?_⟩
    have hok := mTab_ok y (List.mem_of_getElem? hy)
    obtain ⟨o1, o2, o3, o4, o5, o6⟩ := id hok
    refine Met.ofW (cc := y.2.2.1) (maxL := y.2.2.2.1) (ret := y.2.2.2.2.1) o5 rfl ?_
    intro p e s m args below meth c s₁ B hml hv
    obtain ⟨rfl, hsz, hn, hP, hK, hinj, hro⟩ := hv
    have hx := B.exec
    have hb := B.bytes
    have hr := B.returns
    have hts0 := atoms_spec (ws := mWs y) B.pre
    have hts : ∀ w ∈ gt, w.before (as.map (mv a)).toArray s = true := fun w hw => hts0 w (List.mem_cons_of_mem _ hw)
    have hown : s.vm.findClass (mOwn y.1) = some m.cls := by rw [← o4]; exact findClass_of_methodNamed B.named
    have hlocks := B.notSynchronized
    subst hsz
    have hl := lv_entry (as.map (mv a)) (n := y.2.2.2.1) (by rw [lg_sl_mv]; exact hlg)
    rw [ml_args] at hl
    rw [lg_entry_eq]
    generalize (lg_sl (as.map (mv a)) ++ List.replicate (y.2.2.2.1 - (lg_sl (as.map (mv a))).length) Slot.unset).toArray = ls at hl ⊢
    have hi : mInj (mA a n s.heap.size) a n := ⟨hinj, fun i hi => Or.inl ⟨i, hi, rfl⟩⟩
    have hE : mEndOk p l e (headSpec (mWs y) (mRm (d + 1))).room s m (as.map (mv a)).toArray below meth c 0 0 (MQ below (mPost D cy a n s.heap.size P) (as.map (mv a)).toArray s 0 0 (mA a n s.heap.size)) D cy a n (mA a n s.heap.size) y.2.2.1 y.2.2.2.2.1 P := by
      refine ⟨?_, ?_, ?_⟩
      · intro pc x h H locs ls hd hro hPx hn hP hS
        have hq : ∀ t : State, t.heap = H → s.WarmedH t.vm → mPost D cy a n s.heap.size P (as.map (mv a)).toArray s (.returned (some (.int x))) t := fun t ht _ => ⟨⟨some (.int x), h, rfl, hn, hPx, by rw [ht]; exact hP⟩, hS.F ht⟩
        cases hret : y.2.2.2.2.1 with
        | none => rw [hret] at hro; exact False.elim hro
        | some ty =>
          rw [hret] at hro hr
          cases ty
          case int => exact W.iret hx hb hr hq hS.2.2 hd
          case boolean =>
            refine W.zret hx hb hr ?_ hq hS.2.2 hd
            rcases hro with hz | hz <;> rw [hz] <;> decide +kernel
          all_goals exact False.elim hro
      · intro pc x h H locs ls hd hro hPx hn hP hS
        rw [hro] at hr
        exact W.lret hx hb hr (fun t ht _ => ⟨⟨some (.long x), h, rfl, hn, hPx, by rw [ht]; exact hP⟩, hS.F ht⟩) hS.2.2 hd
      · intro pc h H locs ls hd hro hPx hn hP hS
        rw [hro] at hr
        exact W.vret hx hb hr (fun t ht _ => ⟨⟨none, h, rfl, hn, hPx, by rw [ht]; exact hP⟩, hS.F ht⟩) hS.2.2 hd
    exact m_run hx hb hml hown hts hK hi (fun q hq => Or.inr hq) hro (d := d) (Nat.le_refl _) (by show 40 * d + 80 ≤ 40 * (d + 1) + 40; omega) ⟨Nat.zero_le _, Nat.zero_le _⟩ ih hE k 0 _ _ h hev s.heap [] ls hn hP va_S.rf hl
