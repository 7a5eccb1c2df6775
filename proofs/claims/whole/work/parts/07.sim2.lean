section MST2
variable {p : Program} {l : Launch} {e : Env} {R : Room} {s : State} {m : MethodId} {args : Array Value} {below : List Frame} {meth : Method} {c : Code} {cells slots : Nat} {Q : State → Prop}
variable {D : va_G} {cy : Nat → ClassId} {a : Nat → Nat} {ρ : mRo} {n d o nL : Nat} {A : Nat → Prop} {cc : ByteArray} {ret : Option FieldType} {C : Nat → List Value → List mE → mPo → Prop} {P : mPo}
/-- what is wanted of the machine behind a place -/
def mGo (p : Program) (l : Launch) (e : Env) (R : Room) (s : State) (m : MethodId) (args : Array Value) (below : List Frame) (meth : Method) (c : Code) (cells slots : Nat) (Q : State → Prop) (D : va_G) (cy : Nat → ClassId) (a : Nat → Nat) (n nL : Nat) (A : Nat → Prop) (pc : Nat) (lv : mLv) (stk : List Value) (h : List mE) : Prop :=
  ∀ (H : Heap) (locs : List Loc) (ls : Array Slot), h.length = n → va_P D vwCl (mw cy a h) H → va_S A s.heap H locs → lv_has ls nL (ml a lv) → W p l e R s m args below meth c H locs cells slots Q (F0 m pc ls (stk.map (mv a)))
/-- what a method's end is: the three returns -/
def mEndOk (p : Program) (l : Launch) (e : Env) (R : Room) (s : State) (m : MethodId) (args : Array Value) (below : List Frame) (meth : Method) (c : Code) (cells slots : Nat) (Q : State → Prop) (D : va_G) (cy : Nat → ClassId) (a : Nat → Nat) (n : Nat) (A : Nat → Prop) (cc : ByteArray) (ret : Option FieldType) (P : mPo) : Prop :=
  (∀ (pc : Nat) (x : Int32) (h : List mE) (H : Heap) (locs : List Loc) (ls : Array Slot), decode cc pc = .ok (.ireturn, 1) → mRetOk ret x → P (some (.int x)) h → h.length = n → va_P D vwCl (mw cy a h) H → va_S A s.heap H locs → W p l e R s m args below meth c H locs cells slots Q (F0 m pc ls [.int x])) ∧
  (∀ (pc : Nat) (x : Int64) (h : List mE) (H : Heap) (locs : List Loc) (ls : Array Slot), decode cc pc = .ok (.lreturn, 1) → ret = some .long → P (some (.long x)) h → h.length = n → va_P D vwCl (mw cy a h) H → va_S A s.heap H locs → W p l e R s m args below meth c H locs cells slots Q (F0 m pc ls [.long x])) ∧
  (∀ (pc : Nat) (h : List mE) (H : Heap) (locs : List Loc) (ls : Array Slot), decode cc pc = .ok (.return_, 1) → ret = none → P none h → h.length = n → va_P D vwCl (mw cy a h) H → va_S A s.heap H locs → W p l e R s m args below meth c H locs cells slots Q (F0 m pc ls []))
set_option maxHeartbeats 8000000 in
set_option maxRecDepth 100000 in
theorem m_step (hx : p.tables.exec = Jvm.exec) (hb : c.code = cc) (hml : c.maxLocals = nL) (hown : s.vm.findClass (mOwn o) = some m.cls) (hts : ∀ w ∈ gt, w.before args s = true) (hK : va_K D vwCl (mTy cy) s) (hi : mInj A a n) (hAa : ∀ q, s.heap.size ≤ q → A q) (hro : mRoOk ρ a A s)
    (hRf : d + 1 ≤ R.frames) (hRl : 40 * d + 80 ≤ R.locals) (hRc : cells ≤ R.cells ∧ slots ≤ R.slots) (hC : mCallOk l D cy a ρ n d C) (hE : mEndOk p l e R s m args below meth c cells slots Q D cy a n A cc ret P) {K : Nat → mLv → List Value → List mE → Prop}
    (hk : ∀ pc lv stk h, K pc lv stk h → mGo p l e R s m args below meth c cells slots Q D cy a n nL A pc lv stk h) {i : Instr} {len pc : Nat} {lv : mLv} {stk : List Value} {h : List mE} (hd : decode cc pc = .ok (i, len)) (hs : mStp ρ C o nL ret i len pc lv stk h K P) :
    mGo p l e R s m args below meth c cells slots Q D cy a n nL A pc lv stk h := by
  intro H locs ls hn hP hS hl
  have hD : va_D A (mw cy a h) := hi.D hn
  cases i
  case aload_n k => obtain ⟨rfl, q, h1, h2⟩ := hs; exact lv_aload_n hx hb hd rfl (ml_mem hl h1) (hk _ _ _ _ h2 H locs ls hn hP hS hl)
  case aload k => obtain ⟨rfl, q, h1, h2⟩ := hs; exact lv_aload hx hb hd (ml_mem hl h1) (hk _ _ _ _ h2 H locs ls hn hP hS hl)
  case iload_n k => obtain ⟨rfl, q, h1, h2⟩ := hs; exact lv_iload_n hx hb hd rfl (ml_mem hl h1) (hk _ _ _ _ h2 H locs ls hn hP hS hl)
  case iload k => obtain ⟨rfl, q, h1, h2⟩ := hs; exact lv_iload hx hb hd (ml_mem hl h1) (hk _ _ _ _ h2 H locs ls hn hP hS hl)
  case lload_n k => obtain ⟨rfl, q, h1, h2⟩ := hs; exact lv_lload_n hx hb hd rfl (ml_mem hl h1) (hk _ _ _ _ h2 H locs ls hn hP hS hl)
  case lload k => obtain ⟨rfl, q, h1, h2⟩ := hs; exact lv_lload hx hb hd (ml_mem hl h1) (hk _ _ _ _ h2 H locs ls hn hP hS hl)
  case istore_n k => obtain ⟨rfl, h0, x, r, rfl, h2⟩ := hs; exact lv_istore_n hx hb hd rfl hl h0 (ml_put (v := .int x)) (fun ls hl => hk _ _ _ _ h2 H locs ls hn hP hS hl)
  case istore k => obtain ⟨rfl, h0, x, r, rfl, h2⟩ := hs; exact lv_istore hx hb hd hl h0 (ml_put (v := .int x)) (fun ls hl => hk _ _ _ _ h2 H locs ls hn hP hS hl)
  case astore_n k => obtain ⟨rfl, h0, x, r, rfl, h2⟩ := hs; exact lv_astore_n hx hb hd rfl hl h0 (ml_put (v := .ref x)) (fun ls hl => hk _ _ _ _ h2 H locs ls hn hP hS hl)
  case astore k => obtain ⟨rfl, h0, x, r, rfl, h2⟩ := hs; exact lv_astore hx hb hd hl h0 (ml_put (v := .ref x)) (fun ls hl => hk _ _ _ _ h2 H locs ls hn hP hS hl)
  case lstore_n k => obtain ⟨rfl, h0, x, r, rfl, h2⟩ := hs; exact lv_lstore_n hx hb hd rfl hl h0 (ml_put2 (v := .long x)) (fun ls hl => hk _ _ _ _ h2 H locs ls hn hP hS hl)
  case lstore k => obtain ⟨rfl, h0, x, r, rfl, h2⟩ := hs; exact lv_lstore hx hb hd hl h0 (ml_put2 (v := .long x)) (fun ls hl => hk _ _ _ _ h2 H locs ls hn hP hS hl)
  case iinc k z =>
    obtain ⟨rfl, x, h1, h2⟩ := hs
    have h3 : (k, Value.int x) ∈ ml a lv := List.mem_map.mpr ⟨(k, .int x), h1, rfl⟩
    obtain ⟨k0, hk0⟩ := List.getElem?_of_mem h3
    have h4 : k < nL := by
      have := lv_lt (ml_mem hl h1)
      rw [hl.1] at this
      exact this
    exact lv_iinc hx hb hd hl hk0 rfl h4 (ml_put (v := .int (x + Int32.ofInt z))) (fun ls hl => hk _ _ _ _ h2 H locs ls hn hP hS hl)
  case iconst z => obtain ⟨rfl, h2⟩ := hs; exact lv_iconst hx hb hd rfl (hk _ _ _ _ h2 H locs ls hn hP hS hl)
  case bipush z => obtain ⟨rfl, h2⟩ := hs; exact lv_bipush hx hb hd rfl (hk _ _ _ _ h2 H locs ls hn hP hS hl)
  case sipush z => obtain ⟨rfl, h2⟩ := hs; exact lv_sipush hx hb hd rfl (hk _ _ _ _ h2 H locs ls hn hP hS hl)
  case lconst z => obtain ⟨rfl, h2⟩ := hs; exact lv_lconst hx hb hd rfl (hk _ _ _ _ h2 H locs ls hn hP hS hl)
  case ldc z => obtain ⟨rfl, v, h1, h2⟩ := hs; exact lv_ldc hx hb hown (hts _ (gt_of (mCst_ok h1) rfl)) hd (hk _ _ _ _ h2 H locs ls hn hP hS hl)
  case ldc_w z => obtain ⟨rfl, v, h1, h2⟩ := hs; exact lv_ldcw hx hb hown (hts _ (gt_of (mCst_ok h1) rfl)) hd (hk _ _ _ _ h2 H locs ls hn hP hS hl)
  case ldc2_w z => obtain ⟨rfl, v, h1, h2⟩ := hs; exact lv_ldc2 hx hb hown (hts _ (gt_of (mCsl_ok h1) rfl)) hd (hk _ _ _ _ h2 H locs ls hn hP hS hl)
  case iadd => obtain ⟨rfl, x, y, r, rfl, h2⟩ := hs; exact lv_iadd hx hb hd (hk _ _ _ _ h2 H locs ls hn hP hS hl)
  case isub => obtain ⟨rfl, x, y, r, rfl, h2⟩ := hs; exact lv_isub hx hb hd (hk _ _ _ _ h2 H locs ls hn hP hS hl)
  case imul => obtain ⟨rfl, x, y, r, rfl, h2⟩ := hs; exact lv_imul hx hb hd (hk _ _ _ _ h2 H locs ls hn hP hS hl)
  case iand => obtain ⟨rfl, x, y, r, rfl, h2⟩ := hs; exact lv_iand hx hb hd (hk _ _ _ _ h2 H locs ls hn hP hS hl)
  case ior => obtain ⟨rfl, x, y, r, rfl, h2⟩ := hs; exact lv_ior hx hb hd (hk _ _ _ _ h2 H locs ls hn hP hS hl)
  case ixor => obtain ⟨rfl, x, y, r, rfl, h2⟩ := hs; exact lv_ixor hx hb hd (hk _ _ _ _ h2 H locs ls hn hP hS hl)
  case ishl => obtain ⟨rfl, x, y, r, rfl, h2⟩ := hs; exact lv_ishl hx hb hd (hk _ _ _ _ h2 H locs ls hn hP hS hl)
  case ishr => obtain ⟨rfl, x, y, r, rfl, h2⟩ := hs; exact lv_ishr hx hb hd (hk _ _ _ _ h2 H locs ls hn hP hS hl)
  case iushr => obtain ⟨rfl, x, y, r, rfl, h2⟩ := hs; exact lv_iushr hx hb hd rfl (hk _ _ _ _ h2 H locs ls hn hP hS hl)
  case idiv => obtain ⟨rfl, x, y, r, rfl, h1, h2⟩ := hs; exact lv_idiv hx hb hd h1 (hk _ _ _ _ h2 H locs ls hn hP hS hl)
  case irem => obtain ⟨rfl, x, y, r, rfl, h1, h2⟩ := hs; exact lv_irem hx hb hd h1 (hk _ _ _ _ h2 H locs ls hn hP hS hl)
  case ineg => obtain ⟨rfl, x, r, rfl, h2⟩ := hs; exact lv_ineg hx hb hd (hk _ _ _ _ h2 H locs ls hn hP hS hl)
  case land => obtain ⟨rfl, x, y, r, rfl, h2⟩ := hs; exact lv_land hx hb hd (hk _ _ _ _ h2 H locs ls hn hP hS hl)
  case lor => obtain ⟨rfl, x, y, r, rfl, h2⟩ := hs; exact lv_lor hx hb hd (hk _ _ _ _ h2 H locs ls hn hP hS hl)
  case lshl => obtain ⟨rfl, x, y, r, rfl, h2⟩ := hs; exact lv_lshl hx hb hd rfl (hk _ _ _ _ h2 H locs ls hn hP hS hl)
  case lcmp => obtain ⟨rfl, x, y, r, rfl, h2⟩ := hs; exact W.lcmp hx hb hd (hk _ _ _ _ h2 H locs ls hn hP hS hl)
  case i2l => obtain ⟨rfl, x, r, rfl, h2⟩ := hs; exact lv_i2l hx hb hd rfl (hk _ _ _ _ h2 H locs ls hn hP hS hl)
  case l2i => obtain ⟨rfl, x, r, rfl, h2⟩ := hs; exact lv_l2i hx hb hd rfl (hk _ _ _ _ h2 H locs ls hn hP hS hl)
  case i2b => obtain ⟨rfl, x, r, rfl, h2⟩ := hs; exact lv_i2b hx hb hd rfl (hk _ _ _ _ h2 H locs ls hn hP hS hl)
  case i2s => obtain ⟨rfl, x, r, rfl, h2⟩ := hs; exact lv_i2s hx hb hd rfl (hk _ _ _ _ h2 H locs ls hn hP hS hl)
  case dup => obtain ⟨rfl, v, r, rfl, h1, h2⟩ := hs; exact lv_dup hx hb hd (by rw [mv_cat]; exact h1) (hk _ _ _ _ h2 H locs ls hn hP hS hl)
  case pop => obtain ⟨rfl, v, r, rfl, h1, h2⟩ := hs; exact lv_pop hx hb hd (by rw [mv_cat]; exact h1) (hk _ _ _ _ h2 H locs ls hn hP hS hl)
  case dup2 => obtain ⟨rfl, v, w, r, rfl, h1, h1', h2⟩ := hs; exact lv_dup2_11 hx hb hd (by rw [mv_cat]; exact h1) (by rw [mv_cat]; exact h1') (hk _ _ _ _ h2 H locs ls hn hP hS hl)
  case goto off => obtain ⟨rfl, tgt, h1, h2⟩ := hs; exact lv_goto hx hb hd h1 (hk _ _ _ _ h2 H locs ls hn hP hS hl)
  case ifCond cnd off =>
    obtain ⟨rfl, x, r, tgt, rfl, h1, h2, h3⟩ := hs
    cases cnd
    · exact lv_if_eq hx hb hd h1 (fun g => hk _ _ _ _ (h2 g) H locs ls hn hP hS hl) (fun g => hk _ _ _ _ (h3 g) H locs ls hn hP hS hl)
    · exact lv_if_ne hx hb hd h1 (fun g => hk _ _ _ _ (h2 g) H locs ls hn hP hS hl) (fun g => hk _ _ _ _ (h3 (fun z => z g)) H locs ls hn hP hS hl)
    · exact lv_if_lt hx hb hd h1 (fun g => hk _ _ _ _ (h2 g) H locs ls hn hP hS hl) (fun g => hk _ _ _ _ (h3 g) H locs ls hn hP hS hl)
    · exact lv_if_ge hx hb hd h1 (fun g => hk _ _ _ _ (h2 g) H locs ls hn hP hS hl) (fun g => hk _ _ _ _ (h3 g) H locs ls hn hP hS hl)
    · exact lv_if_gt hx hb hd h1 (fun g => hk _ _ _ _ (h2 g) H locs ls hn hP hS hl) (fun g => hk _ _ _ _ (h3 g) H locs ls hn hP hS hl)
    · exact lv_if_le hx hb hd h1 (fun g => hk _ _ _ _ (h2 g) H locs ls hn hP hS hl) (fun g => hk _ _ _ _ (h3 g) H locs ls hn hP hS hl)
  case if_icmp cnd off =>
    obtain ⟨rfl, x, y, r, tgt, rfl, h1, h2, h3⟩ := hs
    cases cnd
    · exact lv_icmp_eq hx hb hd h1 (fun g => hk _ _ _ _ (h2 g) H locs ls hn hP hS hl) (fun g => hk _ _ _ _ (h3 g) H locs ls hn hP hS hl)
    · exact lv_icmp_ne hx hb hd h1 (fun g => hk _ _ _ _ (h2 g) H locs ls hn hP hS hl) (fun g => hk _ _ _ _ (h3 (fun z => z g)) H locs ls hn hP hS hl)
    · exact lv_icmp_lt hx hb hd h1 (fun g => hk _ _ _ _ (h2 g) H locs ls hn hP hS hl) (fun g => hk _ _ _ _ (h3 g) H locs ls hn hP hS hl)
    · exact lv_icmp_ge hx hb hd h1 (fun g => hk _ _ _ _ (h2 g) H locs ls hn hP hS hl) (fun g => hk _ _ _ _ (h3 g) H locs ls hn hP hS hl)
    · exact lv_icmp_gt hx hb hd h1 (fun g => hk _ _ _ _ (h2 g) H locs ls hn hP hS hl) (fun g => hk _ _ _ _ (h3 g) H locs ls hn hP hS hl)
    · exact lv_icmp_le hx hb hd h1 (fun g => hk _ _ _ _ (h2 g) H locs ls hn hP hS hl) (fun g => hk _ _ _ _ (h3 g) H locs ls hn hP hS hl)
  case tableswitch dflt lo hi' offs =>
    obtain ⟨x, r, rfl, h1, h2⟩ := hs
    by_cases hlo : x.toInt < lo
    · obtain ⟨tgt, h3, h4⟩ := h1 (Or.inl hlo)
      exact lv_tableOut hx hb hd (Or.inl hlo) h3 (hk _ _ _ _ h4 H locs ls hn hP hS hl)
    · by_cases hhi : hi' < x.toInt
      · obtain ⟨tgt, h3, h4⟩ := h1 (Or.inr hhi)
        exact lv_tableOut hx hb hd (Or.inr hhi) h3 (hk _ _ _ _ h4 H locs ls hn hP hS hl)
      · obtain ⟨off, tgt, h3, h4, h5⟩ := h2 hlo hhi
        exact lv_tableIn hx hb hd hlo hhi h3 h4 (hk _ _ _ _ h5 H locs ls hn hP hS hl)
  case lookupswitch dflt ps =>
    obtain ⟨h0, x, r, tgt, rfl, h1, h2⟩ := hs
    exact lv_lookup hx hb hd h0 rfl h1 (hk _ _ _ _ h2 H locs ls hn hP hS hl)
  case getfield z =>
    obtain ⟨rfl, q, r, ci, k, fs, v, rfl, h1, h2, h3, h4⟩ := hs
    obtain ⟨C0, g1, g2, g3⟩ := mFld_ok h1
    obtain ⟨c1, ty0, c2, c3⟩ := mCls_ok g1
    exact va_get hx hb hts (gt_lay c1) hown hK hP q (mw_at h2) g1 k g2 (hts _ (gt_of g3 rfl)) (fun _ h9 => h9) (v := mv a v) (by rw [List.getElem?_map, h3]; rfl) hd (hk _ _ _ _ h4 H locs ls hn hP hS hl)
  case putfield z =>
    obtain ⟨rfl, x, q, r, ci, k, fs, C1, rfl, h1, hC1, hfin, hty, h2, h3, h4⟩ := hs
    obtain ⟨C0, g1, g2, g3⟩ := mFld_ok h1
    obtain ⟨c1, ty0, c2, c3⟩ := mCls_ok g1
    have e0 : C1 = C0 := Option.some.inj (hC1.symm.trans g1)
    subst e0
    have e1 : (mw cy a h).set q (a q, .inr (ci, (fs.map (mv a)).set k (.int x))) = mw cy a (h.set q (.inr (ci, fs.set k (.int x)))) := by
      rw [← mw_set]
      congr 3
      show _ = (ci, (fs.set k (.int x)).map (mv a))
      rw [List.map_set]
      rfl
    have kk : ∀ (H1 : Heap) (locs1 : List Loc), va_P D vwCl ((mw cy a h).set q (a q, .inr (ci, (fs.map (mv a)).set k (.int x)))) H1 → va_D A ((mw cy a h).set q (a q, .inr (ci, (fs.map (mv a)).set k (.int x)))) → va_S A s.heap H1 locs1 → W p l e R s m args below meth c H1 locs1 cells slots Q (F0 m (pc + 3) ls (r.map (mv a))) := by
      intro H1 locs1 g4 _ g6
      rw [e1] at g4
      exact hk _ _ _ _ h4 H1 locs1 ls (by rw [List.length_set]; exact hn) g4 g6 hl
    have hbo : (x = 0 ∨ x = 1) → narrow .boolean (.int x) = .int x ∧ fits .boolean (.int x) = true := by
      intro hz
      rcases hz with hz | hz <;> rw [hz] <;> decide +kernel
    rcases hty with hty | ⟨hty, hx01⟩
    · exact va_put (ty := .int) hx hb hts (gt_lay c1) ty0 c2 c3 hown hK hP hD hS q (mw_at h2) g1 k g2 (hts _ (gt_of g3 rfl)) (fun _ h9 => h9) hfin (by rw [hty]; decide +kernel) rfl rfl (by rw [List.length_map]; exact h3) hd kk
    · exact va_put (ty := .boolean) hx hb hts (gt_lay c1) ty0 c2 c3 hown hK hP hD hS q (mw_at h2) g1 k g2 (hts _ (gt_of g3 rfl)) (fun _ h9 => h9) hfin (by rw [hty]; decide +kernel) (hbo hx01).1 (hbo hx01).2 (by rw [List.length_map]; exact h3) hd kk
  case getstatic z =>
    obtain ⟨rfl, q, h1, h2⟩ := hs
    unfold mStat at h1
    split at h1
    · rename_i ho
      obtain ⟨rfl, rfl⟩ := ho
      cases h1
      exact va_gets hx hb hro.2.1 hS hown (hts _ (gt_of mSt_OWN rfl)) (fun _ h9 => h9) hd (hk _ _ _ _ h2 H locs ls hn hP hS hl)
    · split at h1
      · rename_i ho
        obtain ⟨rfl, rfl⟩ := ho
        cases h1
        exact va_gets hx hb hro.2.2.1 hS hown (hts _ (gt_of mSt_ABOVE rfl)) (fun _ h9 => h9) hd (hk _ _ _ _ h2 H locs ls hn hP hS hl)
      · cases h1
  case iaload =>
    obtain ⟨rfl, ix, q, r, k, f, rfl, h1, h2, h3⟩ := hs
    rcases h1 with h1 | h1
    · exact va_iald hx hb hK hP q 0 (mw_at h1) rfl h2 hd (hk _ _ _ _ h3 H locs ls hn hP hS hl)
    · exact va_ti hx hb (hro.1 q k f h1) hS h2 rfl hd (hk _ _ _ _ h3 H locs ls hn hP hS hl)
  case laload => obtain ⟨rfl, ix, q, r, k, f, rfl, h1, h2, h3⟩ := hs; exact va_lald hx hb hK hP q 1 (mw_at h1) rfl h2 hd (hk _ _ _ _ h3 H locs ls hn hP hS hl)
  case aaload =>
    obtain ⟨rfl, ix, q, r, k, f, b, rfl, h1, h2, h4, h3⟩ := hs
    refine va_aldq (C := "TypewritersKnow$Shelf") hx hb hK hP q 2 (mw_at h1) rfl h2 hd ?_
    rw [h4]
    exact hk _ _ _ _ h3 H locs ls hn hP hS hl
  case iastore =>
    obtain ⟨rfl, x, ix, q, r, k, f, rfl, h1, h2, h3⟩ := hs
    refine va_iast hx hb hK hP hD hS q 0 (mw_at h1) rfl h2 hd (fun H1 locs1 g4 _ g6 => ?_)
    rw [show (mw cy a h).set q (a q, .inl (cy 0, k, .inl (upd f ix.toNatClampNeg x))) = mw cy a (h.set q (.inl (k, .inl (upd f ix.toNatClampNeg x)))) from mw_set cy a h q (.inl (k, .inl (upd f ix.toNatClampNeg x)))] at g4
    exact hk _ _ _ _ h3 H1 locs1 ls (by rw [List.length_set]; exact hn) g4 g6 hl
  case lastore =>
    obtain ⟨rfl, x, ix, q, r, k, f, rfl, h1, h2, h3⟩ := hs
    refine va_last hx hb hK hP hD hS q 1 (mw_at h1) rfl h2 hd (fun H1 locs1 g4 _ g6 => ?_)
    rw [show (mw cy a h).set q (a q, .inl (cy 1, k, .inr (.inl (vp_updL f ix.toNatClampNeg x)))) = mw cy a (h.set q (.inl (k, .inr (.inl (vp_updL f ix.toNatClampNeg x))))) from mw_set cy a h q (.inl (k, .inr (.inl (vp_updL f ix.toNatClampNeg x))))] at g4
    exact hk _ _ _ _ h3 H1 locs1 ls (by rw [List.length_set]; exact hn) g4 g6 hl
  case arraylength =>
    obtain ⟨rfl, q, r, k, rfl, h1, h3⟩ := hs
    rcases h1 with ⟨f, h1⟩ | ⟨f, h1⟩ | ⟨f, h1⟩
    · exact va_alen hx hb hK hP q 0 (mw_at h1) rfl rfl hd (hk _ _ _ _ h3 H locs ls hn hP hS hl)
    · exact va_alen hx hb hK hP q 1 (mw_at h1) rfl rfl hd (hk _ _ _ _ h3 H locs ls hn hP hS hl)
    · exact va_tlen hx hb (hro.1 q k f h1) hS rfl hd (hk _ _ _ _ h3 H locs ls hn hP hS hl)
  case ireturn => obtain ⟨rfl, x, rfl, h1, h2⟩ := hs; exact hE.1 pc x h H locs ls hd h1 h2 hn hP hS
  case lreturn => obtain ⟨rfl, x, rfl, h1, h2⟩ := hs; exact hE.2.1 pc x h H locs ls hd h1 h2 hn hP hS
  case return_ => obtain ⟨rfl, rfl, h1, h2⟩ := hs; exact hE.2.2 pc h H locs ls hd h1 h2 hn hP hS
  case invokevirtual z =>
    obtain ⟨rfl, j, y, as, q, r, ci, fs, C0, hj, hy, hst, hlen, rfl, hsum, hq, hci, hcn, hcall⟩ := hs
    obtain ⟨y', hy', hmax, hM⟩ := hC _ _ _ _ hcall
    have ey : y' = y := Option.some.inj (hy'.symm.trans hy)
    subst ey
    have hok := mTab_ok y' (List.mem_of_getElem? hy)
    obtain ⟨o1, o2, o3, o4, o5, o6⟩ := hok
    rw [if_neg (by rw [hst]; decide)] at o3
    have hAq : ∀ q, mA a n H.size q → A q := fun q hq => by
      rcases hq with ⟨k, hk1, rfl⟩ | hq
      · exact hi.2 k hk1
      · exact hAa q (Nat.le_trans hS.1 hq)
    have hrv := va_recv hK hP hci (mw_at hq)
    rw [hcn] at hrv
    have hpre : PreV s H y'.2.1.cls (a q) (mPre D cy a ρ n (.ref q :: as) h H.size) (as.map (mv a)) := ⟨mPre_blind, hrv, fun U hU hW => ⟨rfl, by rw [hU], hn, by rw [hU]; exact hP, va_K.moved hW.alike hK, hi.1, hro.to (by rw [hU]; exact hS) (fun q _ hq => hAq q hq) hW⟩⟩
    have hstk : (as.reverse ++ Value.ref q :: r).map (mv a) = (as.map (mv a)).reverse ++ Value.ref (a q) :: r.map (mv a) := by
      rw [List.map_append, List.map_reverse]
      rfl
    have hroom : 8 + (y'.2.2.2.1 + 11) + (mRm d).locals ≤ R.locals := by
      show 8 + (y'.2.2.2.1 + 11) + (40 * d + 40) ≤ R.locals
      omega
    rw [hstk]
    rcases hj with hj | ⟨rfl, rfl, rfl⟩
    · obtain ⟨y2, hy2, hl2⟩ := mCal_ok hj
      have ey : y2 = y' := Option.some.inj (hy2.symm.trans hy)
      subst ey
      refine m_call (va_runV (As := as.map (mv a)) (rest := r.map (mv a)) ⟨hx, hb, hml, hown, hts⟩ (hM H.size) ⟨callB_of y2.2.2.2.2.2.2 hts (mWs_good (mTab_ok y2 (List.mem_of_getElem? hy))) rfl rfl rfl (hts _ (gt_of o2 rfl)) (hts _ (gt_of hl2 rfl)) o6 ⟨hRf, hroom⟩, hts _ (gt_of o3.1 rfl), hts _ (gt_of o3.2 rfl)⟩ hpre rfl (by rw [List.length_map]; exact hlen) hl.1 rfl (lv_room (by rw [mSum_mv]; exact hsum)) hd ⟨hRc.1, hRc.2⟩) hS hAq (fun v h' H1 locs1 hp hn hP hS => hk _ _ _ _ hp H1 locs1 ls hn hP hS hl)
    · have ey : y' = (3, yX3_perform, cX3_perform, 8, (some .int), false, 5) := Option.some.inj (hy.symm.trans (rfl : mTab[16]? = some (3, yX3_perform, cX3_perform, 8, (some .int), false, 5)))
      subst ey
      refine m_call (va_runVN (As := as.map (mv a)) (rest := r.map (mv a)) ⟨hx, hb, hml, hown, hts⟩ (hM H.size) ⟨va_cnB 5 hts (mWs_good (mTab_ok _ (List.mem_of_getElem? hy))) rfl rfl rfl hro.2.2.2 (hts _ (gt_of o2 rfl)) o6 ⟨hRf, hroom⟩, hts _ (gt_of o3.1 rfl), hts _ (gt_of o3.2 rfl)⟩ hpre rfl (by rw [List.length_map]; exact hlen) hl.1 rfl (lv_room (by rw [mSum_mv]; exact hsum)) hd ⟨hRc.1, hRc.2⟩) hS hAq (fun v h' H1 locs1 hp hn hP hS => hk _ _ _ _ hp H1 locs1 ls hn hP hS hl)
  case invokestatic z =>
    obtain ⟨rfl, hs⟩ := hs
    have hml2 : c.maxLocals = ls.size := by rw [hml, hl.1]
    rcases hs with ⟨j, y, as, r, hj, hy, hst, hlen, rfl, hsum, hcall⟩ | ⟨k, hk1, hs⟩ | ⟨hac, cnt, dp, sp, q0, q1, n0, n1, r, rfl, hsum, h1, h2, h3, h4, h5, hs⟩
    · obtain ⟨y', hy', hmax, hM⟩ := hC _ _ _ _ hcall
      have ey : y' = y := Option.some.inj (hy'.symm.trans hy)
      subst ey
      obtain ⟨o1, o2, o3, o4, o5, o6⟩ := mTab_ok y' (List.mem_of_getElem? hy)
      rw [if_pos hst] at o3
      have hAq : ∀ q, mA a n H.size q → A q := fun q hq => by
        rcases hq with ⟨k, hk1, rfl⟩ | hq
        · exact hi.2 k hk1
        · exact hAa q (Nat.le_trans hS.1 hq)
      have hpre : PreS s H (mPre D cy a ρ n as h H.size) (as.map (mv a)) := ⟨mPre_blind, fun U hU hW => ⟨rfl, by rw [hU], hn, by rw [hU]; exact hP, va_K.moved hW.alike hK, hi.1, hro.to (by rw [hU]; exact hS) (fun q _ hq => hAq q hq) hW⟩⟩
      have hstk : (as.reverse ++ r).map (mv a) = (as.map (mv a)).reverse ++ r.map (mv a) := by
        rw [List.map_append, List.map_reverse]
      have hroom : 8 + (y'.2.2.2.1 + 11) + (mRm d).locals ≤ R.locals := by
        show 8 + (y'.2.2.2.1 + 11) + (40 * d + 40) ≤ R.locals
        omega
      rw [hstk]
      obtain ⟨y2, hy2, hl2⟩ := mCal_ok hj
      have ey : y2 = y' := Option.some.inj (hy2.symm.trans hy)
      subst ey
      refine m_call (va_runS (As := as.map (mv a)) (rest := r.map (mv a)) ⟨hx, hb, hml, hown, hts⟩ (hM H.size) ⟨callB_of y2.2.2.2.2.2.2 hts (mWs_good (mTab_ok y2 (List.mem_of_getElem? hy))) rfl rfl rfl (hts _ (gt_of o2 rfl)) (hts _ (gt_of hl2 rfl)) o6 ⟨hRf, hroom⟩, hts _ (gt_of o3 rfl)⟩ hpre rfl (by rw [List.length_map]; exact hlen) hl.1 rfl (lv_room (by rw [mSum_mv]; exact hsum)) hd ⟨hRc.1, hRc.2⟩) hS hAq (fun v h' H1 locs1 hp hn hP hS => hk _ _ _ _ hp H1 locs1 ls hn hP hS hl)
    · have hfr : 1 ≤ R.frames := by omega
      rcases hs with ⟨rfl, x, r, rfl, hsum, h2⟩ | ⟨rfl, x, y, r, rfl, hsum, h2⟩ | ⟨rfl, x, y, r, rfl, hsum, h2⟩
      · exact va_mabs hx hb hml2 hown (hts _ (gt_of (mMth_ok hk1) rfl)) (hts _ (gt_of mMth_s_abs rfl)) (hts _ (gt_of mMth_i rfl)) (hts _ (gt_of mMth_c_abs rfl)) hfr (by rw [mSum_mv]; omega) hRc.1 hRc.2 hd (hk _ _ _ _ h2 H locs ls hn hP hS hl)
      · exact va_mmax hx hb hml2 hown (hts _ (gt_of (mMth_ok hk1) rfl)) (hts _ (gt_of mMth_s_max rfl)) (hts _ (gt_of mMth_i rfl)) (hts _ (gt_of mMth_c_max rfl)) hfr (by rw [mSum_mv]; omega) hRc.1 hRc.2 hd (hk _ _ _ _ h2 H locs ls hn hP hS hl)
      · exact va_mmin hx hb hml2 hown (hts _ (gt_of (mMth_ok hk1) rfl)) (hts _ (gt_of mMth_s_min rfl)) (hts _ (gt_of mMth_i rfl)) (hts _ (gt_of mMth_c_min rfl)) hfr (by rw [mSum_mv]; omega) hRc.1 hRc.2 hd (hk _ _ _ _ h2 H locs ls hn hP hS hl)
    · have hfr : 1 ≤ R.frames := by omega
      have hnw : nativeFrameWords "java/lang/System" "arraycopy" 5 ≤ 40 := by decide +kernel
      have hlk := hts _ (gt_of (mAcp_ok _ hac) rfl)
      rcases hs with ⟨f, g, g0, g1, h6⟩ | ⟨f, g, g0, g1, h6⟩
      · refine va_copyi hx hb hml2 hown hlk (hts _ (gt_of mAcp_n rfl)) (hts _ (gt_of mAcp_s rfl)) (hts _ (gt_of mAcp_i rfl)) hK hP hD hS q0 q1 0 0 (mw_at g0) (mw_at g1) rfl rfl rfl h1 h2 h3 h4 h5 (fun _ _ => rfl) hfr (by rw [mSum_mv]; omega) hd (fun H1 locs1 g4 _ g6 => ?_)
        rw [show (mw cy a h).set q1 (a q1, .inl (cy 0, n1, .inl (va_cpy f g sp.toNatClampNeg dp.toNatClampNeg cnt.toNatClampNeg))) = mw cy a (h.set q1 (.inl (n1, .inl (va_cpy f g sp.toNatClampNeg dp.toNatClampNeg cnt.toNatClampNeg)))) from mw_set cy a h q1 (.inl (n1, .inl (va_cpy f g sp.toNatClampNeg dp.toNatClampNeg cnt.toNatClampNeg)))] at g4
        exact hk _ _ _ _ h6 H1 locs1 ls (by rw [List.length_set]; exact hn) g4 g6 hl
      · refine va_copyl hx hb hml2 hown hlk (hts _ (gt_of mAcp_n rfl)) (hts _ (gt_of mAcp_s rfl)) (hts _ (gt_of mAcp_i rfl)) hK hP hD hS q0 q1 1 1 (mw_at g0) (mw_at g1) rfl rfl rfl h1 h2 h3 h4 h5 (fun _ _ => rfl) hfr (by rw [mSum_mv]; omega) hd (fun H1 locs1 g4 _ g6 => ?_)
        rw [show (mw cy a h).set q1 (a q1, .inl (cy 1, n1, .inr (.inl (va_cpy f g sp.toNatClampNeg dp.toNatClampNeg cnt.toNatClampNeg)))) = mw cy a (h.set q1 (.inl (n1, .inr (.inl (va_cpy f g sp.toNatClampNeg dp.toNatClampNeg cnt.toNatClampNeg))))) from mw_set cy a h q1 (.inl (n1, .inr (.inl (va_cpy f g sp.toNatClampNeg dp.toNatClampNeg cnt.toNatClampNeg))))] at g4
        exact hk _ _ _ _ h6 H1 locs1 ls (by rw [List.length_set]; exact hn) g4 g6 hl
  all_goals exact False.elim hs
end MST2
