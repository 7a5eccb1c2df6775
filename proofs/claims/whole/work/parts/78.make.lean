-- making: the steps of constructors
def mkB (p : Program) (s : State) (m : MethodId) (args : Array Value) (c : Code) (D : va_G) (cy : Nat → ClassId) (A : Nat → Prop) (cc : ByteArray) (o nL : Nat) : Prop := p.tables.exec = Jvm.exec ∧ c.code = cc ∧ c.maxLocals = nL ∧ s.vm.findClass (mOwn o) = some m.cls ∧ (∀ w ∈ gt, w.before args s = true) ∧ va_K D vwCl (mTy cy) s ∧ (∀ q, s.heap.size ≤ q → A q) ∧ va_AO "TypewritersKnow$Shelf" s
def Wd (D : va_G) (A : Nat → Prop) (s : State) (ws : va_W) (H : Heap) (locs : List Loc) : Prop := va_P D vwCl ws H ∧ va_D A ws ∧ va_S A s.heap H locs
theorem cy_eqI {D : va_G} {cy : Nat → ClassId} {s : State} {cA : ClassId} (hK : va_K D vwCl (mTy cy ++ [(cA, .int)]) s) : cA = cy 0 := by
  have h1 : s.vm.findClass ("[" ++ FieldType.int.toString) = some (cy 0) := (hK.2 0 (cy 0, .int) rfl).2
  have h2 : s.vm.findClass ("[" ++ FieldType.int.toString) = some cA := (hK.2 3 (cA, .int) rfl).2
  exact Option.some.inj (h2.symm.trans h1)
theorem cy_eqJ {D : va_G} {cy : Nat → ClassId} {s : State} {cA : ClassId} (hK : va_K D vwCl (mTy cy ++ [(cA, .long)]) s) : cA = cy 1 := by
  have h1 : s.vm.findClass ("[" ++ FieldType.long.toString) = some (cy 1) := (hK.2 1 (cy 1, .long) rfl).2
  have h2 : s.vm.findClass ("[" ++ FieldType.long.toString) = some cA := (hK.2 3 (cA, .long) rfl).2
  exact Option.some.inj (h2.symm.trans h1)
theorem cy_eqQ {D : va_G} {cy : Nat → ClassId} {s : State} {cA : ClassId} (hK : va_K D vwCl (mTy cy ++ [(cA, .object "TypewritersKnow$Shelf")]) s) : cA = cy 2 := by
  obtain ⟨_, _, _, _, _, h1⟩ := (hK.2 2 (cy 2, .object "TypewritersKnow$Shelf") rfl).2
  obtain ⟨_, _, _, _, _, h2⟩ := (hK.2 3 (cA, .object "TypewritersKnow$Shelf") rfl).2
  exact Option.some.inj (h2.symm.trans h1)
def kPre (D : va_G) (cy : Nat → ClassId) (ci : Nat) (fs0 : List Value) (q sz : Nat) : Array Value → State → Prop := va_Pc [.ref q] (fun U => U.heap.size = sz ∧ va_P D vwCl [(q, .inr (ci, fs0))] U.heap ∧ va_K D vwCl (mTy cy) U ∧ va_AO "TypewritersKnow$Shelf" U)
def kPost (D : va_G) (ci : Nat) (fs0 : List Value) (cf : Nat → (Nat → Nat) → va_W) (q sz : Nat) : Array Value → State → Outcome → State → Prop := va_Qv (fun _ : Nat → Nat => True) (fun u t => va_P D vwCl (cf q u) t.heap ∧ va_D (va_A [(q, .inr (ci, fs0))] sz) (cf q u)) (va_A [(q, .inr (ci, fs0))] sz)
def kMet (l : Launch) (D : va_G) (cy : Nat → ClassId) (y : MethodName) (bytes : ByteArray) (nL : Nat) (rm : Room) (ci : Nat) (fs0 : List Value) (cf : Nat → (Nat → Nat) → va_W) : Prop := ∀ q sz, Met l y (Cond.code y bytes nL none :: gt) rm (kPre D cy ci fs0 q sz) (kPost D ci fs0 cf q sz) rm.cells rm.slots (va_A [(q, .inr (ci, fs0))] sz)
theorem kPre_blind {D : va_G} {cy : Nat → ClassId} {ci : Nat} {fs0 : List Value} {q sz : Nat} : FrameBlind (kPre D cy ci fs0 q sz) := by
  intro v U g mk z
  obtain ⟨q0, q1, qP, qK, qO⟩ := z
  exact ⟨q0, q1, qP, va_K.moved (u := U) (U := U.calling g mk v) (Vm.Alike.refl U.vm) qK, va_AO.moved (u := U) (U := U.calling g mk v) (Vm.Alike.refl U.vm) qO⟩
set_option maxHeartbeats 1000000 in
theorem k_of {l : Launch} {D : va_G} {cy : Nat → ClassId} {y : MethodName} {bytes : ByteArray} {nL o : Nat} {rm : Room} {ci : Nat} {fs0 : List Value} {cf : Nat → (Nat → Nat) → va_W} (hpl : plainName y.cls = true) (hyo : y.cls = mOwn o) (hyn : y.name = "<init>") (hnl : 1 ≤ nL)
    (core : ∀ (q : Nat) (p : Program) (e : Env) (s : State) (m : MethodId) (below : List Frame) (meth : Method) (c : Code) (ls : Array Slot), meth.name = "<init>" → mkB p s m #[.ref q] c D cy (va_A [(q, .inr (ci, fs0))] s.heap.size) bytes o nL → meth.sig.returnType = none → meth.locks = false → lv_has ls nL [(0, .ref q)] → Wd D (va_A [(q, .inr (ci, fs0))] s.heap.size) s [(q, .inr (ci, fs0))] s.heap [] →
      W p l e rm s m #[.ref q] below meth c s.heap [] 0 0 (MQ below (kPost D ci fs0 cf q s.heap.size) #[.ref q] s rm.cells rm.slots (va_A [(q, .inr (ci, fs0))] s.heap.size)) (F0 m 0 ls [])) : kMet l D cy y bytes nL rm ci fs0 cf := by
  intro q sz
  refine Met.ofW (cc := bytes) (maxL := nL) (ret := none) hpl rfl ?_
  intro p e s m args below meth c s₁ B hml hv
  obtain ⟨rfl, hsz, hP, hK, hao⟩ := hv
  have hts0 := atoms_spec (ws := Cond.code y bytes nL none :: gt) B.pre
  have hts : ∀ w ∈ gt, w.before [Value.ref q].toArray s = true := fun w hw => hts0 w (List.mem_cons_of_mem _ hw)
  have hown : s.vm.findClass (mOwn o) = some m.cls := by rw [← hyo]; exact findClass_of_methodNamed B.named
  have hin : meth.name = "<init>" := (name_of_methodNamed B.named B.method).1.trans hyn
  subst hsz
  have hl := lv_entry ([.ref q]) (n := nL) (by show 1 ≤ nL; exact hnl)
  rw [lg_entry_eq]
  generalize (lg_sl ([.ref q]) ++ List.replicate (nL - (lg_sl ([.ref q])).length) Slot.unset).toArray = ls at hl ⊢
  have hD : va_D (va_A [(q, .inr (ci, fs0))] s.heap.size) [(q, .inr (ci, fs0))] := by
    refine ⟨fun i j a b hi hj _ => ?_, fun k a hk => va_A.in hk⟩
    have h1 : i < 1 := (List.getElem?_eq_some_iff.mp hi).1
    have h2 : j < 1 := (List.getElem?_eq_some_iff.mp hj).1
    omega
  exact core q p e s m below meth c ls hin ⟨B.exec, B.bytes, hml, hown, hts, hK, fun _ h => Or.inr h, hao⟩ B.returns B.notSynchronized hl ⟨hP, hD, va_S.rf⟩
section MK
variable {p : Program} {l : Launch} {e : Env} {R : Room} {s : State} {m : MethodId} {args : Array Value} {below : List Frame} {meth : Method} {c : Code} {H : Heap} {locs : List Loc} {cells slots : Nat} {Q : State → Prop}
variable {D : va_G} {cy : Nat → ClassId} {A : Nat → Prop} {cc : ByteArray} {o nL pc : Nat} {ls : Array Slot} {rest : List Value} {ws : va_W}
theorem k_end {ci q : Nat} {fs0 : List Value} {cf : Nat → (Nat → Nat) → va_W} (u : Nat → Nat) (hx : p.tables.exec = Jvm.exec) (hb : c.code = cc) (hr : meth.sig.returnType = none) (hlk : meth.locks = false) (hW : Wd D (va_A [(q, .inr (ci, fs0))] s.heap.size) s (cf q u) H locs) (hd : decode cc pc = .ok (.return_, 1)) : W p l e R s m #[.ref q] below meth c H locs cells slots (MQ below (kPost D ci fs0 cf q s.heap.size) #[.ref q] s cells slots (va_A [(q, .inr (ci, fs0))] s.heap.size)) (F0 m pc ls []) :=
  W.vret hx hb hr (fun t ht _ => ⟨⟨u, rfl, trivial, by rw [ht]; exact hW.1, hW.2.1⟩, hW.2.2.F ht⟩) hW.2.2.2.2 hd hlk
theorem mk_arrI (B : mkB p s m args c D cy A cc o nL) (hin : meth.name = "<init>") {h0 ci k idx N : Nat} {n : Int32} {fs : List Value} (hW : Wd D A s ((h0, .inr (ci, fs)) :: ws) H locs) (hn : n = nI N) (hN : N ≤ 3000) (hcells : cells + 1 ≤ R.cells) (hslots : slots + N ≤ R.slots) (hz : mLook (mFldT o) idx = some (ci, k)) {cC : vw_C} (hc : vwCl[ci]? = some cC) (hty : (cC.2.1 k).2.2.1 = "[I") (hfin : (cC.2.1 k).2.2.2 = true) (hdecl : (cC.2.1 k).1 = mOwn o) (hkl : k < fs.length) (hw : Cond.arrayClass .int ∈ lw_tbl) (hd1 : decode cc pc = .ok (.newarray .int, 2)) (hd2 : decode cc (pc + 2) = .ok (.putfield idx, 3))
    (kk : ∀ q H1 locs1, Wd D A s ((h0, .inr (ci, fs.set k (.ref q))) :: (ws ++ [(q, .inl (cy 0, N, .inl (fun _ => 0)))])) H1 locs1 → W p l e R s m args below meth c H1 locs1 (cells + 1) (slots + N) Q (F0 m (pc + 5) ls rest)) : W p l e R s m args below meth c H locs cells slots Q (F0 m pc ls (.int n :: .ref h0 :: rest)) := by
  obtain ⟨hx, hb, hml, hown, hts, hK, hA, hao⟩ := B
  obtain ⟨hP, hD, hS⟩ := hW
  obtain ⟨C0, g1, g2, g3⟩ := mFld_ok hz
  obtain rfl : cC = C0 := Option.some.inj (hc.symm.trans g1)
  obtain ⟨c1, ty0, c2, c3⟩ := mCls_ok hc
  refine va_newa (atype := .int) (N' := N) (a0 := (N, .inl fun _ => 0)) (ty := .int) hx hb (hts _ (gt_of hw rfl)) rfl hK hP hD hS hA (fun _ => rfl) (by rw [hn]; exact nNeg (by omega)) (by rw [hn]; exact nI_clamp (by omega)) (by show N * 4 ≤ _; omega) hcells hslots hd1 (fun q cA H1 hK1 hP1 hD1 hS1 => ?_)
  obtain rfl := cy_eqI hK1
  exact va_putF (ty := .array .int) (v := .ref q) hx hb hts (gt_lay c1) ty0 c2 c3 hown hK hP1 hD1 hS1 0 rfl hc k g2 (hts _ (gt_of g3 rfl)) (fun _ h9 => h9) hfin hin hdecl (by rw [hty]; decide +kernel) rfl rfl hkl hd2 (fun H2 locs2 a1 a2 a3 => kk q H2 locs2 ⟨a1, a2, a3⟩)
theorem mk_arrJ (B : mkB p s m args c D cy A cc o nL) (hin : meth.name = "<init>") {h0 ci k idx N : Nat} {n : Int32} {fs : List Value} (hW : Wd D A s ((h0, .inr (ci, fs)) :: ws) H locs) (hn : n = nI N) (hN : N ≤ 3000) (hcells : cells + 1 ≤ R.cells) (hslots : slots + N ≤ R.slots) (hz : mLook (mFldT o) idx = some (ci, k)) {cC : vw_C} (hc : vwCl[ci]? = some cC) (hty : (cC.2.1 k).2.2.1 = "[J") (hfin : (cC.2.1 k).2.2.2 = true) (hdecl : (cC.2.1 k).1 = mOwn o) (hkl : k < fs.length) (hw : Cond.arrayClass .long ∈ lw_tbl) (hd1 : decode cc pc = .ok (.newarray .long, 2)) (hd2 : decode cc (pc + 2) = .ok (.putfield idx, 3))
    (kk : ∀ q H1 locs1, Wd D A s ((h0, .inr (ci, fs.set k (.ref q))) :: (ws ++ [(q, .inl (cy 1, N, .inr (.inl (fun _ => 0))))])) H1 locs1 → W p l e R s m args below meth c H1 locs1 (cells + 1) (slots + N) Q (F0 m (pc + 5) ls rest)) : W p l e R s m args below meth c H locs cells slots Q (F0 m pc ls (.int n :: .ref h0 :: rest)) := by
  obtain ⟨hx, hb, hml, hown, hts, hK, hA, hao⟩ := B
  obtain ⟨hP, hD, hS⟩ := hW
  obtain ⟨C0, g1, g2, g3⟩ := mFld_ok hz
  obtain rfl : cC = C0 := Option.some.inj (hc.symm.trans g1)
  obtain ⟨c1, ty0, c2, c3⟩ := mCls_ok hc
  refine va_newa (atype := .long) (N' := N) (a0 := (N, .inr (.inl fun _ => 0))) (ty := .long) hx hb (hts _ (gt_of hw rfl)) rfl hK hP hD hS hA (fun _ => rfl) (by rw [hn]; exact nNeg (by omega)) (by rw [hn]; exact nI_clamp (by omega)) (by show N * 8 ≤ _; omega) hcells hslots hd1 (fun q cA H1 hK1 hP1 hD1 hS1 => ?_)
  obtain rfl := cy_eqJ hK1
  exact va_putF (ty := .array .long) (v := .ref q) hx hb hts (gt_lay c1) ty0 c2 c3 hown hK hP1 hD1 hS1 0 rfl hc k g2 (hts _ (gt_of g3 rfl)) (fun _ h9 => h9) hfin hin hdecl (by rw [hty]; decide +kernel) rfl rfl hkl hd2 (fun H2 locs2 a1 a2 a3 => kk q H2 locs2 ⟨a1, a2, a3⟩)
/-- a new row of shelves, all empty, and its field -/
theorem mk_arrQ (B : mkB p s m args c D cy A cc o nL) (hin : meth.name = "<init>") {h0 ci k idx ic N : Nat} {n : Int32} {fs : List Value} (hW : Wd D A s ((h0, .inr (ci, fs)) :: ws) H locs) (hn : n = nI N) (hN : N ≤ 3000) (hcells : cells + 1 ≤ R.cells) (hslots : slots + N ≤ R.slots) (hz : mLook (mFldT o) idx = some (ci, k)) {cC : vw_C} (hc : vwCl[ci]? = some cC) (hty : (cC.2.1 k).2.2.1 = "[LTypewritersKnow$Shelf;") (hfin : (cC.2.1 k).2.2.2 = true) (hdecl : (cC.2.1 k).1 = mOwn o) (hkl : k < fs.length) (hw : Cond.classLink (mOwn o) ic "TypewritersKnow$Shelf" ∈ lw_tbl) (hd1 : decode cc pc = .ok (.anewarray ic, 3)) (hd2 : decode cc (pc + 3) = .ok (.putfield idx, 3))
    (kk : ∀ q H1 locs1, Wd D A s ((h0, .inr (ci, fs.set k (.ref q))) :: (ws ++ [(q, .inl (cy 2, N, .inr (.inr (.inr (.inr (fun _ => none))))))])) H1 locs1 → W p l e R s m args below meth c H1 locs1 (cells + 1) (slots + N) Q (F0 m (pc + 6) ls rest)) : W p l e R s m args below meth c H locs cells slots Q (F0 m pc ls (.int n :: .ref h0 :: rest)) := by
  obtain ⟨hx, hb, hml, hown, hts, hK, hA, hao⟩ := B
  obtain ⟨hP, hD, hS⟩ := hW
  obtain ⟨C0, g1, g2, g3⟩ := mFld_ok hz
  obtain rfl : cC = C0 := Option.some.inj (hc.symm.trans g1)
  obtain ⟨c1, ty0, c2, c3⟩ := mCls_ok hc
  refine va_newq (N' := N) (C := "TypewritersKnow$Shelf") hx hb hown (hts _ (gt_of hw rfl)) hao hK hP hD hS hA (by rw [hn]; exact nNeg (by omega)) (by rw [hn]; exact nI_clamp (by omega)) (by omega) hcells hslots hd1 (fun q cA H1 hK1 hP1 hD1 hS1 => ?_)
  obtain rfl := cy_eqQ hK1
  exact va_putF (ty := .array (.object "TypewritersKnow$Shelf")) (v := .ref q) hx hb hts (gt_lay c1) ty0 c2 c3 hown hK hP1 hD1 hS1 0 rfl hc k g2 (hts _ (gt_of g3 rfl)) (fun _ h9 => h9) hfin hin hdecl (by rw [hty]; decide +kernel) rfl rfl hkl hd2 (fun H2 locs2 a1 a2 a3 => kk q H2 locs2 ⟨a1, a2, a3⟩)
/-- an int field -/
theorem mk_int (B : mkB p s m args c D cy A cc o nL) {h0 ci k idx : Nat} {v : Int32} {fs : List Value} (hW : Wd D A s ((h0, .inr (ci, fs)) :: ws) H locs) (hz : mLook (mFldT o) idx = some (ci, k)) {cC : vw_C} (hc : vwCl[ci]? = some cC) (hty : (cC.2.1 k).2.2.1 = "I") (hfin : (cC.2.1 k).2.2.2 = false) (hkl : k < fs.length) (hd2 : decode cc pc = .ok (.putfield idx, 3))
    (kk : ∀ H1 locs1, Wd D A s ((h0, .inr (ci, fs.set k (.int v))) :: ws) H1 locs1 → W p l e R s m args below meth c H1 locs1 cells slots Q (F0 m (pc + 3) ls rest)) : W p l e R s m args below meth c H locs cells slots Q (F0 m pc ls (.int v :: .ref h0 :: rest)) := by
  obtain ⟨hx, hb, hml, hown, hts, hK, hA, hao⟩ := B
  obtain ⟨hP, hD, hS⟩ := hW
  obtain ⟨C0, g1, g2, g3⟩ := mFld_ok hz
  obtain rfl : cC = C0 := Option.some.inj (hc.symm.trans g1)
  obtain ⟨c1, ty0, c2, c3⟩ := mCls_ok hc
  exact va_put (ty := .int) (v := .int v) hx hb hts (gt_lay c1) ty0 c2 c3 hown hK hP hD hS 0 rfl hc k g2 (hts _ (gt_of g3 rfl)) (fun _ h9 => h9) hfin (by rw [hty]; decide +kernel) rfl rfl hkl hd2 (fun H2 locs2 a1 a2 a3 => kk H2 locs2 ⟨a1, a2, a3⟩)
/-- a field that holds an object, once for all -/
theorem mk_ref (B : mkB p s m args c D cy A cc o nL) (hin : meth.name = "<init>") {h0 ci k idx q : Nat} {fs : List Value} {C : String} (hW : Wd D A s ((h0, .inr (ci, fs)) :: ws) H locs) (hz : mLook (mFldT o) idx = some (ci, k)) {cC : vw_C} (hc : vwCl[ci]? = some cC) (hty : parseFieldDescriptor (cC.2.1 k).2.2.1 = some (.object C)) (hfin : (cC.2.1 k).2.2.2 = true) (hdecl : (cC.2.1 k).1 = mOwn o) (hkl : k < fs.length) (hd2 : decode cc pc = .ok (.putfield idx, 3))
    (kk : ∀ H1 locs1, Wd D A s ((h0, .inr (ci, fs.set k (.ref q))) :: ws) H1 locs1 → W p l e R s m args below meth c H1 locs1 cells slots Q (F0 m (pc + 3) ls rest)) : W p l e R s m args below meth c H locs cells slots Q (F0 m pc ls (.ref q :: .ref h0 :: rest)) := by
  obtain ⟨hx, hb, hml, hown, hts, hK, hA, hao⟩ := B
  obtain ⟨hP, hD, hS⟩ := hW
  obtain ⟨C0, g1, g2, g3⟩ := mFld_ok hz
  obtain rfl : cC = C0 := Option.some.inj (hc.symm.trans g1)
  obtain ⟨c1, ty0, c2, c3⟩ := mCls_ok hc
  exact va_putF (ty := .object C) (v := .ref q) hx hb hts (gt_lay c1) ty0 c2 c3 hown hK hP hD hS 0 rfl hc k g2 (hts _ (gt_of g3 rfl)) (fun _ h9 => h9) hfin hin hdecl hty rfl rfl hkl hd2 (fun H2 locs2 a1 a2 a3 => kk H2 locs2 ⟨a1, a2, a3⟩)
/-- Object's own constructor -/
theorem mk_top (B : mkB p s m args c D cy A cc o nL) {h0 idx : Nat} (hl : lv_has ls nL [(0, .ref h0)]) (hlk : Cond.methodLink (mOwn o) idx objectInit ∈ lw_tbl) (him : Cond.instanceMethod objectInit ∈ lw_tbl) (hco : Cond.code objectInit ⟨#[0xb1]⟩ 1 none ∈ lw_tbl) (hf : 1 ≤ R.frames) (hlo : 12 ≤ R.locals) (hd1 : decode cc 0 = .ok (.aload_n 0, 1)) (hd2 : decode cc 1 = .ok (.invokespecial idx, 3)) (kk : W p l e R s m args below meth c H locs cells slots Q (F0 m 4 ls [])) : W p l e R s m args below meth c H locs cells slots Q (F0 m 0 ls []) := by
  obtain ⟨hx, hb, hml, hown, hts, hK, hA, hao⟩ := B
  refine lv_aload_n hx hb hd1 rfl (lv_at hl 0 rfl) ?_
  refine W.objInit hx hb hown (hts _ (gt_of hlk rfl)) (hts _ (gt_of him rfl)) (hts _ (gt_of hco rfl)) rfl (by rw [hml]; exact hl.1) rfl hd2 hf hlo ?_
  exact W.eq (g2 := F0 m 4 ls []) rfl kk
set_option maxHeartbeats 2000000 in
/-- new, dup, the constructor's call -/
theorem mk_obj (B : mkB p s m args c D cy A cc o nL) (hW : Wd D A s ws H locs) {ci idx idx2 N nL2 : Nat} {C : String} {T : u_T} {y : MethodName} {bytes : ByteArray} {rm : Room} {fs0 : List Value} {cf : Nat → (Nat → Nat) → va_W} (hM : kMet l D cy y bytes nL2 rm ci fs0 cf) (hc : vwCl[ci]? = some (C, T, N)) (ty : Nat → FieldType) (hty : ∀ k, k < N → parseFieldDescriptor (T k).2.2.1 = some (ty k)) (hfs : ∀ j, j < N → defaultValue (ty j) = vp_V fs0 j)
    (hcl : Cond.classLink (mOwn o) idx C ∈ lw_tbl) (hinst : Cond.instantiable C N ∈ lw_tbl) (hini : Cond.initialized C ∈ lw_tbl) (hcode : Cond.code y bytes nL2 none ∈ lw_tbl) (hyc : y.cls = C) (hy1 : y.name = "<init>") (hlk : Cond.methodLink (mOwn o) idx2 y ∈ lw_tbl) (him : Cond.instanceMethod y ∈ lw_tbl) (hdd : y.cls ≠ "java/lang/invoke/MethodHandle" ∧ y.cls ≠ "java/lang/invoke/VarHandle" ∧ (parseMethodDescriptor y.desc).map (fun d => d.parameters.length) = some 0)
    (hRf : rm.frames + 1 ≤ R.frames) (hRl : 8 + (nL2 + 11) + rm.locals ≤ R.locals) (hsz : ls.size = nL) (hsum : mSum (.ref 0 :: rest) ≤ 8) (hcells : cells + 1 + rm.cells ≤ R.cells) (hslots : slots + N + rm.slots ≤ R.slots) (hd1 : decode cc pc = .ok (.new idx, 3)) (hd2 : decode cc (pc + 3) = .ok (.dup, 1)) (hd3 : decode cc (pc + 4) = .ok (.invokespecial idx2, 3))
    (kk : ∀ q u H1 locs1, Wd D A s (ws ++ cf q u) H1 locs1 → W p l e R s m args below meth c H1 locs1 (cells + 1 + rm.cells) (slots + N + rm.slots) Q (F0 m (pc + 7) ls (.ref q :: rest))) : W p l e R s m args below meth c H locs cells slots Q (F0 m pc ls rest) := by
  obtain ⟨hx, hb, hml, hown, hts, hK, hA, hao⟩ := B
  obtain ⟨hP, hD, hS⟩ := hW
  obtain ⟨c1, -⟩ := mCls_ok hc
  refine va_new (ci := ci) (fs := fs0) (C := C) (T := T) (N := N) hx hb hts (gt_lay c1) ty hty hown (hts _ (gt_of hcl rfl)) (hts _ (gt_of hinst rfl)) (hts _ (gt_of hini rfl)) hK hP hD hS hA hc hfs (by omega) (by omega) hd1 (fun q H1 hP1 hD1 hS1 => ?_)
  refine lv_dup hx hb hd2 rfl ?_
  have hlast : (ws ++ [(q, Sum.inr (ci, fs0))])[ws.length]? = some (q, Sum.inr (ci, fs0)) := by simp
  have hPc : va_P D vwCl [(q, .inr (ci, fs0))] H1 := by
    intro k x hk
    have h1 : k < 1 := (List.getElem?_eq_some_iff.mp hk).1
    obtain rfl : k = 0 := by omega
    cases hk
    exact hP1 ws.length _ hlast
  have hFc : ∀ q', va_A [(q, .inr (ci, fs0))] H1.size q' → A q' := by
    intro q' hq
    rcases hq with ⟨k, ex, hk⟩ | hq
    · have h1 : k < 1 := (List.getElem?_eq_some_iff.mp hk).1
      obtain rfl : k = 0 := by omega
      cases hk
      exact hD1.2 ws.length _ hlast
    · exact hA q' (Nat.le_trans hS1.1 hq)
  have hG : GoodIn gt (Cond.code y bytes nL2 none :: gt) := by
    intro w hw
    rcases List.mem_cons.mp hw with rfl | h
    · exact ⟨gt_of hcode rfl, Or.inl rfl⟩
    · exact gt_good w h
  refine va_callv (va_runI (nL := nL) (As := []) (b := q) (rest := .ref q :: rest) ⟨hx, hb, hml, hown, hts⟩ (hM q H1.size) (cwI 0 hts hG rfl rfl rfl (hts (.initialized y.cls) (by rw [hyc]; exact gt_of hini rfl)) (hts _ (gt_of hlk rfl)) (hts _ (gt_of him rfl)) hy1 hdd ⟨hRf, hRl⟩) ⟨kPre_blind, fun U hU hWU => ⟨rfl, by rw [hU], by rw [hU]; exact hPc, va_K.moved hWU.alike hK, va_AO.moved hWU.alike hao⟩⟩ rfl rfl hsz rfl (lv_room hsum) hd3 ⟨by omega, by omega⟩) hS1 (fun q' _ h => hFc q' h) hFc (fun u t H2 locs2 ht hvm _ hB hz1 hk1 hS2 => ?_)
  obtain ⟨hP2, hD2⟩ := hB
  rw [ht] at hP2
  have apart : ∀ (k : Nat) (x : Nat × va_E), ws[k]? = some x → x.1 < H1.size ∧ ¬ va_A [(q, .inr (ci, fs0))] H1.size x.1 := by
    intro k x hk
    have hlt : k < ws.length := (List.getElem?_eq_some_iff.mp hk).1
    have hk' : (ws ++ [(q, Sum.inr (ci, fs0))])[k]? = some x := by rw [List.getElem?_append_left hlt]; exact hk
    have hl := (hP1 k x hk').lt
    refine ⟨hl, fun hz => ?_⟩
    rcases hz with ⟨j, ex, hj⟩ | hz
    · have h1 : j < 1 := (List.getElem?_eq_some_iff.mp hj).1
      obtain rfl : j = 0 := by omega
      have hj' : (q, Sum.inr (ci, fs0)) = (x.1, ex) := Option.some.inj hj
      have := hD1.1 k ws.length x _ hk' hlast (by rw [(Prod.mk.inj hj').1])
      omega
    · omega
  refine kk q u H2 locs2 ⟨(va_P.kept (fun k x hk => hP1 k x (by rw [List.getElem?_append_left ((List.getElem?_eq_some_iff.mp hk).1)]; exact hk)) (fun k x hk => hk1 x.1 (apart k x hk).1 (apart k x hk).2)).app hP2, va_D.app ⟨fun i j a b hi hj e => hD1.1 i j a b (by rw [List.getElem?_append_left ((List.getElem?_eq_some_iff.mp hi).1)]; exact hi) (by rw [List.getElem?_append_left ((List.getElem?_eq_some_iff.mp hj).1)]; exact hj) e, fun k a hk => hD1.2 k a (by rw [List.getElem?_append_left ((List.getElem?_eq_some_iff.mp hk).1)]; exact hk)⟩ (hD2.weaken fun k a _ h => hFc a.1 h) (fun i j a b hi hj e => (apart i a hi).2 (by rw [e]; exact hD2.2 j b hj)), hS2⟩
end MK
