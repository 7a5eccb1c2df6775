/-! THE CLAIM OUT OF ONE WALK OF THE LAW'S BODY. Your part is whole_start (and what it stands on); all else here is the same for every law, but numbers. -/
def R_law : String := "TypewritersKnowLaw"
def lw_P (b : Addr) (xs : List Int32) (args : Array Value) (s : State) : Prop := args = #[.ref b] ∧ s.IntsAt b xs ∧ xs.length ≤ 3072 ∧ (Jvm.Cond.and given_1 narrow_1).before args s = true
def lw_Q (_ : Array Value) (s : State) (o : Outcome) (t : State) : Prop := o = .returned (some (.int 1)) ∧ Framed s o t [] 600000 7302250
def lw_Z (below : List Frame) (a : Array Value) (s : State) : State → Prop := fun t => ∃ o, t.status = .running ∧ Ended t below o ∧ lw_Q a s o t
/-- the law's own end, with 1 on the stack, nothing written that was there before, its room as the claim has it -/
theorem lw_ret {p : Program} {l : Launch} {e : Env} {s : State} {m : MethodId} {below : List Frame} {meth : Method} {c : Code} {b : Nat} (hx : p.tables.exec = Jvm.exec) (hb : c.code = code) (hr : meth.sig.returnType = ret) (hlocks : meth.locks = false) {pc : Nat} {H : Heap} {ls : Array Slot} (hdg : decode code pc = .ok (.ireturn, 1)) : W p l e room_1 s m #[Value.ref b] below meth c H [] 600000 7302250 (lw_Z below #[Value.ref b] s) (F0 m pc ls [.int 1]) := by
  intro T hT X
  obtain ⟨fs, hret, hrun, hended, hW, hframe⟩ := X.leave (v := some (.int 1)) (hlocks := hlocks) (fun h => by rw [hr] at h; cases h)
  have hmeth' : T.vm.method? m = some meth := X.method'
  refine ⟨T.setFrames fs, ?_, .returned (some (.int 1)), hrun, hended, rfl, ⟨_, rfl⟩, hW, hframe⟩
  jvm_step X.here [X.here.top, hx, hb, hdg, hmeth', hr, ret, narrow_b1]
  (try refine ⟨rfl, ?_⟩); (try refine ⟨rfl, ?_⟩)
  first | (intro acts; rw [hret _ acts rfl rfl rfl]) | rw [hret _ _ rfl rfl rfl]
  exact Steps.refl _
/-- what holds at the law's entry: the machine, the code, the tables' words (any of lw_tbl by 'hts w (by decide +kernel)'), the script of L ints xs at the cell b, what the Statement gives of the start (any of its parts by flat_of_before) -/
def lw_At (p : Program) (s : State) (m : MethodId) (meth : Method) (c : Code) (b L : Nat) (xs : Nat → Int32) : Prop :=
  p.tables.exec = Jvm.exec ∧ c.code = code ∧ meth.sig.returnType = ret ∧ c.maxLocals = 4 ∧ s.vm.findClass R_law = some m.cls ∧ (∀ w ∈ lw_tbl, w.before #[Value.ref b] s = true) ∧ va_X b L xs s s.heap ∧ b < s.heap.size ∧ meth.locks = false ∧ (Jvm.Cond.and given_1 narrow_1).before #[Value.ref b] s = true
-- ===== YOUR PART BEGINS =====
def lwRo (L : Nat) (xs : Nat → Int32) : mRo := fun q => if q = 1000 then some (L, xs) else if q = 1001 then some (32, roOwn) else if q = 1002 then some (8, roAbove) else none
def lwA (q : Nat) (u : Nat → Nat) (q' : Nat) (u' : Nat → Nat) (b t1 t2 : Nat) : Nat → Nat := fun i => if i < 53 then ad 0 q u i else if i < 76 then ad 53 q' u' i else if i = 1000 then b else if i = 1001 then t1 else t2
set_option maxRecDepth 20000 in
set_option maxHeartbeats 2000000 in
theorem lw_world (cy : Nat → ClassId) (q : Nat) (u : Nat → Nat) (q' : Nat) (u' : Nat → Nat) (b t1 t2 : Nat) : cT cy (ad 0 q u) ++ cX cy (ad 53 q' u') = mw cy (lwA q u q' u' b t1 t2) (hpO c0 x0) := by
  rw [mw_hp]
  rfl
set_option maxHeartbeats 4000000 in
set_option maxRecDepth 20000 in
/-- THE LAW, from its entry -/
theorem whole_start {p : Program} {e : Env} {s : State} {m : MethodId} {below : List Frame} {meth : Method} {c : Code} (l : Launch) {b L : Nat} {xs : Nat → Int32} (hL : L ≤ 3072) (C0 : lw_At p s m meth c b L xs) : W p l e room_1 s m #[Value.ref b] below meth c s.heap [] 0 0 (lw_Z below #[Value.ref b] s) (entryFrame m ([Value.ref b] : List Value).toArray 4) := by
  obtain ⟨hx, hb, hr, hml, hown, hts0, hX, hbl, hlocks, hgv⟩ := id C0
  have hts : ∀ w ∈ gt, w.before #[Value.ref b] s = true := fun w h => hts0 w (List.mem_filter.mp h).1
  have hownL : s.vm.findClass (mOwn 12) = some m.cls := hown
  have hs := flat_of_before _ hgv
  have hA0 : ∀ q : Nat, q < s.heap.size → ¬ s.heap.size ≤ q := fun q h => Nat.not_le.mpr h
  -- the classes
  have hcl : ∀ k : Nat, ∃ (cC : ClassId) (iS : Nat → Nat), ∀ r : vw_C, vwCl[k]? = some r → u_Kn s r.1 r.2.1 r.2.2 cC iS := by
    intro k
    cases hk : vwCl[k]? with
    | none => exact ⟨m.cls, fun _ => 0, fun r h => nomatch h⟩
    | some r =>
      obtain ⟨cC, iS, h⟩ := u_known (C := r.1) (T := r.2.1) (N := r.2.2) (n := r.2.2) hts0 (mCls_ok hk).1 (hts0 _ (mInst hk))
      refine ⟨cC, iS, fun r' h' => ?_⟩
      obtain rfl := Option.some.inj h'
      exact h
  obtain ⟨D, hDk⟩ : ∃ D : va_G, ∀ (k : Nat) (r : vw_C), vwCl[k]? = some r → u_Kn s r.1 r.2.1 r.2.2 (D.1 k) (D.2 k) := ⟨(fun k => (hcl k).choose, fun k => (hcl k).choose_spec.choose), fun k r h => (hcl k).choose_spec.choose_spec r h⟩
  -- the rows' classes
  obtain ⟨cI, kI, mI', i1, i2, i3⟩ := Cond.arrayClass_spec (hts0 _ aw_I)
  obtain ⟨cJ, kJ, mJ', j1, j2, j3⟩ := Cond.arrayClass_spec (hts0 _ aw_J)
  obtain ⟨mQ, cQ, kQ, q1, -, q3, q4, q5⟩ := Cond.arrayOver_spec (hts0 _ aw_Q)
  obtain ⟨cy, y0, y1, y2⟩ : ∃ cy : Nat → ClassId, cy 0 = cI ∧ cy 1 = cJ ∧ cy 2 = cQ := ⟨fun i => match i with | 0 => cI | 1 => cJ | _ => cQ, rfl, rfl, rfl⟩
  have hK : va_K D vwCl (mTy cy) s := by
    refine ⟨hDk, fun k r hk => ?_⟩
    unfold mTy at hk
    rw [y0, y1, y2] at hk
    match k, hk with
    | 0, hk => cases hk; exact ⟨fun n z => ⟨fun k h => (by cases h), kI, i2, mI', i3⟩, i1⟩
    | 1, hk => cases hk; exact ⟨fun n z => ⟨fun k h => (by cases h), kJ, j2, mJ', j3⟩, j1⟩
    | 2, hk => cases hk; exact ⟨fun n z => ⟨fun k h => (by cases h), kQ, q3, mQ, q4⟩, kQ, mQ, q3, q4, q1, q5⟩
    | n + 3, hk => simp at hk
  have hao : va_AO "TypewritersKnow$Shelf" s := va_AO.of (hts0 _ aw_Q)
  have B : mkB p s m #[Value.ref b] c D cy (fun q => s.heap.size ≤ q) code 12 4 := ⟨hx, hb, hml, hownL, hts, hK, fun _ h => h, hao⟩
  have hW0 : Wd D (fun q => s.heap.size ≤ q) s [] s.heap [] := ⟨fun k q h => by simp at h, ⟨fun i j p q h => by simp at h, fun k q h => by simp at h⟩, va_S.rf⟩
  have hl := lv_entry ([.ref b]) (n := 4) (Nat.le_of_ble_eq_true rfl)
  rw [lg_entry_eq]
  generalize (lg_sl ([.ref b]) ++ List.replicate (4 - (lg_sl ([.ref b])).length) Slot.unset).toArray = ls at hl ⊢
  have hl : lv_has ls 4 [(0, .ref b)] := hl
  refine mk_obj (pc := 0) (idx := 7) (idx2 := 9) (rest := []) B hW0 (k_X10 l D cy) rfl tyX10 tyX10_ok (fun j hj => by rcases (show j = 0 ∨ j = 1 ∨ j = 2 ∨ j = 3 ∨ j = 4 ∨ j = 5 ∨ j = 6 ∨ j = 7 ∨ j = 8 ∨ j = 9 ∨ j = 10 ∨ j = 11 ∨ j = 12 ∨ j = 13 ∨ j = 14 ∨ j = 15 by omega) with rfl | rfl | rfl | rfl | rfl | rfl | rfl | rfl | rfl | rfl | rfl | rfl | rfl | rfl | rfl | rfl <;> rfl) (mm1 (List.mem_of_getElem? (i := 17) rfl)) (mm1 (List.mem_of_getElem? (i := 18) rfl)) (mm1 (List.mem_of_getElem? (i := 1) rfl)) (mm1 (List.mem_of_getElem? (i := 21) rfl)) rfl rfl (mm1 (List.mem_of_getElem? (i := 19) rfl)) (mm1 (List.mem_of_getElem? (i := 20) rfl)) (by decide +kernel) (Nat.le_of_ble_eq_true rfl) (Nat.le_of_ble_eq_true rfl) hl.1 (Nat.le_of_ble_eq_true rfl) (Nat.le_of_ble_eq_true rfl) (Nat.le_of_ble_eq_true rfl) (by decide +kernel) (by decide +kernel) (by decide +kernel) (fun q u H locs hW => ?_)
  refine lv_astore_n (lv' := [(1, .ref q), (0, .ref b)]) (k := 1) (pc := 7) hx hb (by decide +kernel) rfl hl (by decide) rfl (fun ls hl => ?_)
  refine mk_obj (pc := 8) (idx := 10) (idx2 := 12) (rest := []) B hW (k_X11 l D cy) rfl tyX11 tyX11_ok (fun j hj => by rcases (show j = 0 ∨ j = 1 ∨ j = 2 ∨ j = 3 ∨ j = 4 ∨ j = 5 ∨ j = 6 ∨ j = 7 ∨ j = 8 ∨ j = 9 ∨ j = 10 ∨ j = 11 ∨ j = 12 ∨ j = 13 ∨ j = 14 ∨ j = 15 ∨ j = 16 ∨ j = 17 ∨ j = 18 ∨ j = 19 ∨ j = 20 ∨ j = 21 ∨ j = 22 ∨ j = 23 ∨ j = 24 ∨ j = 25 ∨ j = 26 ∨ j = 27 ∨ j = 28 ∨ j = 29 ∨ j = 30 ∨ j = 31 ∨ j = 32 ∨ j = 33 ∨ j = 34 ∨ j = 35 ∨ j = 36 ∨ j = 37 ∨ j = 38 ∨ j = 39 ∨ j = 40 ∨ j = 41 ∨ j = 42 by omega) with rfl | rfl | rfl | rfl | rfl | rfl | rfl | rfl | rfl | rfl | rfl | rfl | rfl | rfl | rfl | rfl | rfl | rfl | rfl | rfl | rfl | rfl | rfl | rfl | rfl | rfl | rfl | rfl | rfl | rfl | rfl | rfl | rfl | rfl | rfl | rfl | rfl | rfl | rfl | rfl | rfl | rfl | rfl <;> rfl) (mm4 (List.mem_of_getElem? (i := 183) rfl)) (mm4 (List.mem_of_getElem? (i := 184) rfl)) (mm1 (List.mem_of_getElem? (i := 11) rfl)) (mm4 (List.mem_of_getElem? (i := 187) rfl)) rfl rfl (mm4 (List.mem_of_getElem? (i := 185) rfl)) (mm4 (List.mem_of_getElem? (i := 186) rfl)) (by decide +kernel) (Nat.le_of_ble_eq_true rfl) (Nat.le_of_ble_eq_true rfl) hl.1 (Nat.le_of_ble_eq_true rfl) (Nat.le_of_ble_eq_true rfl) (Nat.le_of_ble_eq_true rfl) (by decide +kernel) (by decide +kernel) (by decide +kernel) (fun q' u' H locs hW => ?_)
  refine lv_astore_n (lv' := [(2, .ref q'), (1, .ref q), (0, .ref b)]) (k := 2) (pc := 15) hx hb (by decide +kernel) rfl hl (by decide) rfl (fun ls hl => ?_)
  refine lv_iconst (n := 0) (pc := 16) (v := nI 0) hx hb (by decide +kernel) (by decide) ?_
  refine lv_istore_n (lv' := [(3, .int (nI 0)), (2, .ref q'), (1, .ref q), (0, .ref b)]) (k := 3) (pc := 17) hx hb (by decide +kernel) rfl hl (by decide) rfl (fun ls hl => ?_)
  -- what is read alone
  obtain ⟨t1, o1, o2⟩ := st_OWN hs hA0
  obtain ⟨t2, a1, a2⟩ := st_ABOVE hs hA0
  have hW : Wd D (fun q => s.heap.size ≤ q) s (mw cy (lwA q u q' u' b t1 t2) (hpO c0 x0)) H locs := by
    rw [← lw_world cy q u q' u' b t1 t2]
    exact hW
  have ea : lwA q u q' u' b t1 t2 1000 = b ∧ lwA q u q' u' b t1 t2 1001 = t1 ∧ lwA q u q' u' b t1 t2 1002 = t2 ∧ lwA q u q' u' b t1 t2 0 = q ∧ lwA q u q' u' b t1 t2 53 = q' := ⟨rfl, rfl, rfl, rfl, rfl⟩
  generalize lwA q u q' u' b t1 t2 = a at hW ea
  obtain ⟨eb, e1, e2, eq, eq'⟩ := ea
  have hro : mRoOk (lwRo L xs) a (fun q => s.heap.size ≤ q) s := by
    refine ⟨fun k n f hk => ?_, ?_, ?_, va_tabs (A := #[Value.ref b]) rfl rfl (hts0 _ aw_nest)⟩
    · unfold lwRo at hk
      by_cases k0 : k = 1000
      · rw [if_pos k0] at hk
        obtain ⟨rfl, rfl⟩ := Prod.mk.inj (Option.some.inj hk)
        rw [k0, eb]
        obtain ⟨scr, s1, s2, s3, s4, s5⟩ := hX
        exact ⟨scr, s1, s2, s3, by omega, by rw [s4], s5, hA0 _ hbl⟩
      · rw [if_neg k0] at hk
        by_cases k1 : k = 1001
        · rw [if_pos k1] at hk
          obtain ⟨rfl, rfl⟩ := Prod.mk.inj (Option.some.inj hk)
          rw [k1, e1]; exact o2
        · rw [if_neg k1] at hk
          by_cases k2 : k = 1002
          · rw [if_pos k2] at hk
            obtain ⟨rfl, rfl⟩ := Prod.mk.inj (Option.some.inj hk)
            rw [k2, e2]; exact a2
          · rw [if_neg k2] at hk; exact nomatch hk
    · rw [e1]; exact va_Zof (hts0 _ aw_OWN) (hts0 _ aw_ini) o1 hA0
    · rw [e2]; exact va_Zof (hts0 _ aw_ABOVE) (hts0 _ aw_ini) a1 hA0
  have cell : ∀ i, i < 76 → ∃ z, (mw cy a (hpO c0 x0))[i]? = some (a i, z) := by
    intro i hi
    have h1 : i < (hpO c0 x0).length := by rw [hpO_len]; exact hi
    exact ⟨_, mw_at (List.getElem?_eq_getElem h1)⟩
  have hi : mInj (fun q => s.heap.size ≤ q) a 76 := by
    refine ⟨fun i j h1 h2 e => ?_, fun i h1 => ?_⟩
    · obtain ⟨x1, z1⟩ := cell i h1
      obtain ⟨x2, z2⟩ := cell j h2
      exact hW.2.1.1 i j _ _ z1 z2 e
    · obtain ⟨x1, z1⟩ := cell i h1
      exact hW.2.1.2 i _ z1
  obtain ⟨n, hev⟩ := law_go (ρ := lwRo L xs) (L := L) (xs := xs) rfl ⟨rfl, rfl⟩ hL L 0 c0 x0 (by omega) (by omega) rel0
  have hE : mEndOk p l e room_1 s m #[Value.ref b] below meth c 600000 7302250 (lw_Z below #[Value.ref b] s) D cy a 76 (fun q => s.heap.size ≤ q) code ret lwP := by
    refine ⟨fun pc x h H locs ls hd _ hP _ _ hS => ?_, fun _ _ _ _ _ _ _ h => (nomatch h), fun _ _ _ _ _ _ h => (nomatch h)⟩
    have hx1 : x = 1 := by
      have := Option.some.inj (show some (Value.int x) = some (Value.int 1) from hP)
      exact Value.int.inj this
    subst hx1
    exact va_forget (fun q hq => hS.2.2 q hq) (lw_ret hx hb hr hlocks hd)
  refine W.widen (k := 600000) (n := 7302250) (Nat.le_of_ble_eq_true rfl) (Nat.le_of_ble_eq_true rfl) ?_
  refine m_run (o := 12) (d := 250) hx hb hml hownL hts hK hi (fun _ h => h) hro (Nat.le_of_ble_eq_true rfl) (Nat.le_of_ble_eq_true rfl) ⟨Nat.le_refl _, Nat.le_refl _⟩ (m_met l D cy a (lwRo L xs) 76 250) hE n 18 (lwL 0) [] (hpO c0 x0) hev H locs ls (hpO_len c0 x0) hW.1 hW.2.2 ?_
  have hl2 := lv_sub hl [3, 2, 1, 0] rfl
  show lv_has ls 4 [(0, .ref (a 1000)), (1, .ref (a 0)), (2, .ref (a 53)), (3, .int (nI 0))]
  rw [eb, eq, eq']
  exact hl2
-- ===== YOUR PART ENDS =====
set_option maxHeartbeats 4000000 in
theorem lw_walk (l : Launch) (b : Addr) (xs : List Int32) : MetFree l x (headSpec (Jvm.Cond.code x code maxLocals ret :: tables_1) room_1) (lw_P b xs) (fun _ _ _ _ _ => True) lw_Q := by
  refine MetFree.of_bodyS (code := code) (maxLocals := maxLocals) (ret := ret) (by decide) ?_ ?_
  · intro args s m h hn
    obtain ⟨meth, c, h1, h2, h3, h4, h5, h6, -, -⟩ := Cond.code_spec hn (atoms_spec (ws := Jvm.Cond.code x code maxLocals ret :: tables_1) h _ List.mem_cons_self)
    exact ⟨meth, c, h1, h2, h3, h4, h5, h6⟩
  · intro p e s m args below meth c s₁ B hml0 hP _
    obtain ⟨rfl, hx, hbd, hgv⟩ := hP
    obtain ⟨scr, harrAt, hlist, hof, hsmall⟩ := hx
    obtain ⟨hcb, hkn, -, -⟩ := State.arrayAt?_spec harrAt
    have hown : s.vm.findClass R_law = some m.cls := findClass_of_methodNamed B.named
    have hts0 : ∀ c ∈ (Jvm.Cond.code x code maxLocals ret :: tables_1), c.before #[Value.ref b] s = true := atoms_spec (ws := Jvm.Cond.code x code maxLocals ret :: tables_1) B.pre
    have hts : ∀ w ∈ lw_tbl, w.before #[Value.ref b] s = true := k2_hts_sels lw_privs (fun w hw => hts0 w (List.mem_cons_of_mem _ hw)) lw_privs_ok
    have hml : c.maxLocals = 4 := B.maxLocals_eq (hts0 _ List.mem_cons_self)
    have X₀ : Stand p l e room_1 s m #[Value.ref b] below meth c s₁ [] 0 0 := Stand.of_body B
    have hh0 : s₁.heap = s.heap := by rw [B.state]; rfl
    have hsz : scr.slots.size = xs.length := by rw [← Array.length_toList, hlist, List.length_map]
    have hval : ∀ j : Nat, j < xs.length → scr.slots[j]? = some (.int (xs.getD j 0)) := fun j hj => by
      rw [← Array.getElem?_toList, hlist]
      simp [hj]
    have hbl : b < s.heap.size := (Array.getElem?_eq_some_iff.mp hcb).1
    have hX : va_X b xs.length (fun j => xs.getD j 0) s s.heap := ⟨scr, hcb, hof, hkn, hsz, hval⟩
    have K : W p l e room_1 s m #[Value.ref b] below meth c s₁.heap [] 0 0 (lw_Z below #[Value.ref b] s) (entryFrame m ([Value.ref b] : List Value).toArray 4) := by
      rw [hh0]
      exact whole_start l hbd ⟨B.exec, B.bytes, B.returns, hml, hown, hts, hX, hbl, B.notSynchronized, hgv⟩
    obtain ⟨t, a1, o, b1, b2, b3⟩ := K s₁ rfl X₀
    exact ⟨t, o, a1, b1, b2, b3⟩
theorem lw_pre_spec {args : Array Value} {s : State} (h : (Jvm.Cond.and given_1 narrow_1).before args s = true) (hr : rest_1_c.before args s = true) : ∃ (b : Addr) (xs : List Int32), lw_P b xs args s := by
  have hs := flat_of_before _ h
  have hq := flat_of_before _ hr
  have hc : (Cond.count 1).before args s = true := hs _ (by decide +kernel)
  have harr : (Cond.arrayOf (.arg 0) .int).before args s = true := hs _ (by decide +kernel)
  have hle : (Cond.le (.length (.arg 0)) (.int 3072)).before args s = true := hs _ (by decide +kernel)
  have hlen : (Cond.isInt (.length (.arg 0))).before args s = true := hq _ (by decide +kernel)
  have hall : (Cond.all (.arg 0) (.isInt (.elem (.arg 0) (.index 0)))).before args s = true := hq _ (by decide +kernel)
  obtain ⟨b, xs, hb, hx⟩ := State.ints_of_pre rfl harr hlen hall
  have hsm : xs.length < 2 ^ 31 := hx.choose_spec.2.2.2
  have hev : (Term.length (.arg 0)).eval args s none [] s = some (.int xs.length.toInt32) := hx.length_eval hb
  have hv := Cond.le_ints hev (show (Term.int 3072).eval args s none [] s = some (.int 3072) from rfl)
  have hd : xs.length.toInt32 ≤ 3072 := by
    simpa [Cond.before, Cond.holds, hv] using hle
  have hN : xs.length ≤ 3072 := (Int32.ofNat_le_ofNat hsm (by decide)).mp (show Int32.ofNat xs.length ≤ Int32.ofNat 3072 from hd)
  exact ⟨b, xs, Cond.one_arg hc (show args[0]? = some (.ref b) from hb), hx, hN, h⟩
theorem lw_comes (l : Launch) : Comes l x (Jvm.Cond.code x code maxLocals ret :: tables_1) room_1 (fun tb e args s => Calls_1 tb e args s ∧ rest_1 tb e args s ∧ Pre_1 tb e args s)
    (fun _ _ args s o t => lw_Q args s o t) := by
  intro p e ha hc hk s m args below hf hfit hheap happ hpre
  obtain ⟨b, xs, hP⟩ := lw_pre_spec hpre.2.2 hpre.2.1
  obtain ⟨k, o, h1, h2, h3, hQ⟩ := lw_walk l b xs p e ha hc hk s m args below hf ((Spec.applies_iff_loose hf).mp happ).1 hP trivial
  exact ⟨k, o, h1, h2, h3, hQ⟩
theorem lw_frame {s t : State} {o : Outcome} {args : Array Value} (h : Framed s o t [] 600000 7302250) :
    Framed s o t (fieldLocs frame_1_writes args s ++ arrayLocs frame_1_arrays args s ++ staticLocs frame_1_statics s) 600000 7302250 := h
theorem lw_limb (L : Cond) (hL : ∀ (args : Array Value) (s t : State), L.after args s (.returned (some (.int 1))) t = true) :
    ArmFor flags0 classFile x code maxLocals ret World_1 tables_1 room_1 Calls_1 rest_1 Pre_1
      (fun tb e a s o t => postC L tb e a s o t ∧ Framed s o t (fieldLocs frame_1_writes a s ++ arrayLocs frame_1_arrays a s ++ staticLocs frame_1_statics s) 600000 7302250) := by
  intro l _ _ _ p e ha hc hk s m args below hf hfit hheap happ hpre
  obtain ⟨k, o, h1, h2, h3, rfl, hF⟩ := lw_comes l p e ha hc hk s m args below hf hfit hheap happ hpre
  exact ⟨k, _, h1, h2, h3, hL args s _, lw_frame hF⟩
theorem i_vc : Claimed_1_1 ∧ Claimed_1_2 := ⟨lw_limb limb_1_1 (fun args s t => by simp [limb_1_1, Cond.after, Cond.holds, Cond.value]), lw_limb limb_1_2 (fun args s t => Cond.after_iff.mpr (by
  first | (rw [show limb_1_2 = Cond.eq .result (.int 1) from rfl, Cond.eq_ints (x := 1) (y := 1) rfl rfl]; simp; done) | (simp [limb_1_2, Cond.value, Term.eval]; done)))⟩
