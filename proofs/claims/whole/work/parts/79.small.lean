-- the small constructors, by program (wip/gen/initgen.py)
theorem aw_I : Cond.arrayClass .int ∈ lw_tbl := (mm1 (List.mem_of_getElem? (i := 51) rfl))
theorem aw_J : Cond.arrayClass .long ∈ lw_tbl := (mm2 (List.mem_of_getElem? (i := 23) rfl))
theorem aw_oi : Cond.instanceMethod objectInit ∈ lw_tbl := (mm1 (List.mem_of_getElem? (i := 23) rfl))
theorem aw_oc : Cond.code objectInit ⟨#[0xb1]⟩ 1 none ∈ lw_tbl := (mm1 (List.mem_of_getElem? (i := 24) rfl))
theorem Wd.re {D : va_G} {A : Nat → Prop} {s : State} {ws ws' : va_W} {H : Heap} {locs : List Loc} (h : Wd D A s ws H locs) (is : List Nat) (hn : va_nd is = true) (hs : is.map (fun i => ws[i]?) = ws'.map some) : Wd D A s ws' H locs := by
  refine ⟨fun k q hk => ?_, h.2.1.sub is hn hs, h.2.2⟩
  have h1 : (is.map (fun i => ws[i]?))[k]? = some (some q) := by rw [hs, List.getElem?_map, hk]; rfl
  rw [List.getElem?_map] at h1
  cases hi : is[k]? with
  | none => rw [hi] at h1; cases h1
  | some i => rw [hi] at h1; exact h.1 i q (Option.some.inj h1)
set_option maxHeartbeats 1000000 in
theorem k_X0 (l : Launch) (D : va_G) (cy : Nat → ClassId) : kMet l D cy yX0_init cX0_init 1 { frames := 1, cells := 2, slots := 4394, locals := 20 } 0 [.null, .null, .int 0] (fun q u => [(q, .inr (0, [.ref (u 0), .ref (u 1), .int 0])), (u 0, .inl (cy 0, 2197, .inl (fun _ => 0))), (u 1, .inl (cy 0, 2197, .inl (fun _ => 0)))]) := by
  refine k_of (o := 0) (by decide +kernel) rfl rfl (by decide) ?_
  intro q p e s m below meth c ls hin B hr hlk hl hW
  obtain ⟨hx, hb, -⟩ := id B
  refine mk_top (idx := 1) B hl (mm1 (List.mem_of_getElem? (i := 230) rfl)) aw_oi aw_oc (Nat.le_of_ble_eq_true rfl) (Nat.le_of_ble_eq_true rfl) (by decide +kernel) (by decide +kernel) ?_
  refine lv_aload_n (k := 0) (pc := 4) hx hb (by decide +kernel) rfl (lv_at hl 0 rfl) ?_
  refine lv_sipush (n := 2197) (pc := 5) (v := nI 2197) hx hb (by decide +kernel) (by decide) ?_
  refine mk_arrI (pc := 8) (k := 0) (idx := 9) (N := 2197) B hin hW rfl (by decide) (Nat.le_of_ble_eq_true rfl) (Nat.le_of_ble_eq_true rfl) rfl rfl rfl rfl rfl (Nat.le_of_ble_eq_true rfl) aw_I (by decide +kernel) (by decide +kernel) (fun q1 H locs hW => ?_)
  refine lv_aload_n (k := 0) (pc := 13) hx hb (by decide +kernel) rfl (lv_at hl 0 rfl) ?_
  refine lv_sipush (n := 2197) (pc := 14) (v := nI 2197) hx hb (by decide +kernel) (by decide) ?_
  refine mk_arrI (pc := 17) (k := 1) (idx := 15) (N := 2197) B hin hW rfl (by decide) (Nat.le_of_ble_eq_true rfl) (Nat.le_of_ble_eq_true rfl) rfl rfl rfl rfl rfl (Nat.le_of_ble_eq_true rfl) aw_I (by decide +kernel) (by decide +kernel) (fun q2 H locs hW => ?_)
  exact k_end (pc := 22) (fun i => ([q1, q2] : List Nat).getD i 0) hx hb hr hlk hW (by decide +kernel)
set_option maxHeartbeats 1000000 in
theorem k_X1 (l : Launch) (D : va_G) (cy : Nat → ClassId) : kMet l D cy yX1_init cX1_init 1 { frames := 1, cells := 4, slots := 160, locals := 20 } 1 [.null, .null, .null, .null, .int 0, .int 0] (fun q u => [(q, .inr (1, [.ref (u 0), .ref (u 1), .ref (u 2), .ref (u 3), .int 0, .int 0])), (u 0, .inl (cy 0, 40, .inl (fun _ => 0))), (u 1, .inl (cy 0, 40, .inl (fun _ => 0))), (u 2, .inl (cy 0, 40, .inl (fun _ => 0))), (u 3, .inl (cy 0, 40, .inl (fun _ => 0)))]) := by
  refine k_of (o := 1) (by decide +kernel) rfl rfl (by decide) ?_
  intro q p e s m below meth c ls hin B hr hlk hl hW
  obtain ⟨hx, hb, -⟩ := id B
  refine mk_top (idx := 1) B hl (mm1 (List.mem_of_getElem? (i := 149) rfl)) aw_oi aw_oc (Nat.le_of_ble_eq_true rfl) (Nat.le_of_ble_eq_true rfl) (by decide +kernel) (by decide +kernel) ?_
  refine lv_aload_n (k := 0) (pc := 4) hx hb (by decide +kernel) rfl (lv_at hl 0 rfl) ?_
  refine lv_bipush (n := 40) (pc := 5) (v := nI 40) hx hb (by decide +kernel) (by decide) ?_
  refine mk_arrI (pc := 7) (k := 0) (idx := 9) (N := 40) B hin hW rfl (by decide) (Nat.le_of_ble_eq_true rfl) (Nat.le_of_ble_eq_true rfl) rfl rfl rfl rfl rfl (Nat.le_of_ble_eq_true rfl) aw_I (by decide +kernel) (by decide +kernel) (fun q1 H locs hW => ?_)
  refine lv_aload_n (k := 0) (pc := 12) hx hb (by decide +kernel) rfl (lv_at hl 0 rfl) ?_
  refine lv_bipush (n := 40) (pc := 13) (v := nI 40) hx hb (by decide +kernel) (by decide) ?_
  refine mk_arrI (pc := 15) (k := 1) (idx := 13) (N := 40) B hin hW rfl (by decide) (Nat.le_of_ble_eq_true rfl) (Nat.le_of_ble_eq_true rfl) rfl rfl rfl rfl rfl (Nat.le_of_ble_eq_true rfl) aw_I (by decide +kernel) (by decide +kernel) (fun q2 H locs hW => ?_)
  refine lv_aload_n (k := 0) (pc := 20) hx hb (by decide +kernel) rfl (lv_at hl 0 rfl) ?_
  refine lv_bipush (n := 40) (pc := 21) (v := nI 40) hx hb (by decide +kernel) (by decide) ?_
  refine mk_arrI (pc := 23) (k := 2) (idx := 16) (N := 40) B hin hW rfl (by decide) (Nat.le_of_ble_eq_true rfl) (Nat.le_of_ble_eq_true rfl) rfl rfl rfl rfl rfl (Nat.le_of_ble_eq_true rfl) aw_I (by decide +kernel) (by decide +kernel) (fun q3 H locs hW => ?_)
  refine lv_aload_n (k := 0) (pc := 28) hx hb (by decide +kernel) rfl (lv_at hl 0 rfl) ?_
  refine lv_bipush (n := 40) (pc := 29) (v := nI 40) hx hb (by decide +kernel) (by decide) ?_
  refine mk_arrI (pc := 31) (k := 3) (idx := 19) (N := 40) B hin hW rfl (by decide) (Nat.le_of_ble_eq_true rfl) (Nat.le_of_ble_eq_true rfl) rfl rfl rfl rfl rfl (Nat.le_of_ble_eq_true rfl) aw_I (by decide +kernel) (by decide +kernel) (fun q4 H locs hW => ?_)
  exact k_end (pc := 36) (fun i => ([q1, q2, q3, q4] : List Nat).getD i 0) hx hb hr hlk hW (by decide +kernel)
set_option maxHeartbeats 1000000 in
theorem k_X3 (l : Launch) (D : va_G) (cy : Nat → ClassId) : kMet l D cy yX3_init cX3_init 1 { frames := 1, cells := 2, slots := 74, locals := 20 } 2 [.null, .null, .int 0, .int 0] (fun q u => [(q, .inr (2, [.ref (u 0), .ref (u 1), .int 0, .int 0])), (u 0, .inl (cy 0, 50, .inl (fun _ => 0))), (u 1, .inl (cy 0, 24, .inl (fun _ => 0)))]) := by
  refine k_of (o := 3) (by decide +kernel) rfl rfl (by decide) ?_
  intro q p e s m below meth c ls hin B hr hlk hl hW
  obtain ⟨hx, hb, -⟩ := id B
  refine mk_top (idx := 1) B hl (mm1 (List.mem_of_getElem? (i := 180) rfl)) aw_oi aw_oc (Nat.le_of_ble_eq_true rfl) (Nat.le_of_ble_eq_true rfl) (by decide +kernel) (by decide +kernel) ?_
  refine lv_aload_n (k := 0) (pc := 4) hx hb (by decide +kernel) rfl (lv_at hl 0 rfl) ?_
  refine lv_bipush (n := 50) (pc := 5) (v := nI 50) hx hb (by decide +kernel) (by decide) ?_
  refine mk_arrI (pc := 7) (k := 0) (idx := 9) (N := 50) B hin hW rfl (by decide) (Nat.le_of_ble_eq_true rfl) (Nat.le_of_ble_eq_true rfl) rfl rfl rfl rfl rfl (Nat.le_of_ble_eq_true rfl) aw_I (by decide +kernel) (by decide +kernel) (fun q1 H locs hW => ?_)
  refine lv_aload_n (k := 0) (pc := 12) hx hb (by decide +kernel) rfl (lv_at hl 0 rfl) ?_
  refine lv_bipush (n := 24) (pc := 13) (v := nI 24) hx hb (by decide +kernel) (by decide) ?_
  refine mk_arrI (pc := 15) (k := 1) (idx := 13) (N := 24) B hin hW rfl (by decide) (Nat.le_of_ble_eq_true rfl) (Nat.le_of_ble_eq_true rfl) rfl rfl rfl rfl rfl (Nat.le_of_ble_eq_true rfl) aw_I (by decide +kernel) (by decide +kernel) (fun q2 H locs hW => ?_)
  exact k_end (pc := 20) (fun i => ([q1, q2] : List Nat).getD i 0) hx hb hr hlk hW (by decide +kernel)
set_option maxHeartbeats 1000000 in
theorem k_X4 (l : Launch) (D : va_G) (cy : Nat → ClassId) : kMet l D cy yX4_init cX4_init 1 { frames := 1, cells := 2, slots := 185, locals := 20 } 3 [.null, .int 0, .int 0, .null, .int 0, .int 0, .int 0, .int 0, .int 0, .int 0] (fun q u => [(q, .inr (3, [.ref (u 0), .int 0, .int 0, .ref (u 1), .int 0, .int 0, .int 0, .int 0, .int 0, .int 0])), (u 0, .inl (cy 0, 121, .inl (fun _ => 0))), (u 1, .inl (cy 0, 64, .inl (fun _ => 0)))]) := by
  refine k_of (o := 4) (by decide +kernel) rfl rfl (by decide) ?_
  intro q p e s m below meth c ls hin B hr hlk hl hW
  obtain ⟨hx, hb, -⟩ := id B
  refine mk_top (idx := 1) B hl (mm1 (List.mem_of_getElem? (i := 103) rfl)) aw_oi aw_oc (Nat.le_of_ble_eq_true rfl) (Nat.le_of_ble_eq_true rfl) (by decide +kernel) (by decide +kernel) ?_
  refine lv_aload_n (k := 0) (pc := 4) hx hb (by decide +kernel) rfl (lv_at hl 0 rfl) ?_
  refine lv_bipush (n := 121) (pc := 5) (v := nI 121) hx hb (by decide +kernel) (by decide) ?_
  refine mk_arrI (pc := 7) (k := 0) (idx := 9) (N := 121) B hin hW rfl (by decide) (Nat.le_of_ble_eq_true rfl) (Nat.le_of_ble_eq_true rfl) rfl rfl rfl rfl rfl (Nat.le_of_ble_eq_true rfl) aw_I (by decide +kernel) (by decide +kernel) (fun q1 H locs hW => ?_)
  refine lv_aload_n (k := 0) (pc := 12) hx hb (by decide +kernel) rfl (lv_at hl 0 rfl) ?_
  refine lv_bipush (n := 64) (pc := 13) (v := nI 64) hx hb (by decide +kernel) (by decide) ?_
  refine mk_arrI (pc := 15) (k := 3) (idx := 15) (N := 64) B hin hW rfl (by decide) (Nat.le_of_ble_eq_true rfl) (Nat.le_of_ble_eq_true rfl) rfl rfl rfl rfl rfl (Nat.le_of_ble_eq_true rfl) aw_I (by decide +kernel) (by decide +kernel) (fun q2 H locs hW => ?_)
  exact k_end (pc := 20) (fun i => ([q1, q2] : List Nat).getD i 0) hx hb hr hlk hW (by decide +kernel)
set_option maxHeartbeats 1000000 in
theorem k_X5 (l : Launch) (D : va_G) (cy : Nat → ClassId) : kMet l D cy yX5_init cX5_init 1 { frames := 1, cells := 0, slots := 0, locals := 20 } 4 [.int 0, .int 0, .int 0, .int 0, .int 0] (fun q u => [(q, .inr (4, [.int 0, .int 0, .int 0, .int 0, .int (-2)]))]) := by
  refine k_of (o := 5) (by decide +kernel) rfl rfl (by decide) ?_
  intro q p e s m below meth c ls hin B hr hlk hl hW
  obtain ⟨hx, hb, -⟩ := id B
  refine mk_top (idx := 3) B hl (mm1 (List.mem_of_getElem? (i := 203) rfl)) aw_oi aw_oc (Nat.le_of_ble_eq_true rfl) (Nat.le_of_ble_eq_true rfl) (by decide +kernel) (by decide +kernel) ?_
  refine lv_aload_n (k := 0) (pc := 4) hx hb (by decide +kernel) rfl (lv_at hl 0 rfl) ?_
  refine lv_bipush (n := -2) (pc := 5) (v := (-2)) hx hb (by decide +kernel) (by decide) ?_
  refine mk_int (pc := 7) (k := 4) (idx := 9) B hW rfl rfl rfl rfl (Nat.le_of_ble_eq_true rfl) (by decide +kernel) (fun H locs hW => ?_)
  exact k_end (pc := 10) (fun i => ([] : List Nat).getD i 0) hx hb hr hlk hW (by decide +kernel)
set_option maxHeartbeats 1000000 in
theorem k_X6 (l : Launch) (D : va_G) (cy : Nat → ClassId) : kMet l D cy yX6_init cX6_init 1 { frames := 1, cells := 3, slots := 56, locals := 20 } 5 [.null, .null, .null, .int 0, .int 0] (fun q u => [(q, .inr (5, [.ref (u 0), .ref (u 1), .ref (u 2), .int 0, .int 5])), (u 0, .inl (cy 0, 24, .inl (fun _ => 0))), (u 1, .inl (cy 0, 24, .inl (fun _ => 0))), (u 2, .inl (cy 0, 8, .inl (fun _ => 0)))]) := by
  refine k_of (o := 6) (by decide +kernel) rfl rfl (by decide) ?_
  intro q p e s m below meth c ls hin B hr hlk hl hW
  obtain ⟨hx, hb, -⟩ := id B
  refine mk_top (idx := 1) B hl (mm1 (List.mem_of_getElem? (i := 30) rfl)) aw_oi aw_oc (Nat.le_of_ble_eq_true rfl) (Nat.le_of_ble_eq_true rfl) (by decide +kernel) (by decide +kernel) ?_
  refine lv_aload_n (k := 0) (pc := 4) hx hb (by decide +kernel) rfl (lv_at hl 0 rfl) ?_
  refine lv_bipush (n := 24) (pc := 5) (v := nI 24) hx hb (by decide +kernel) (by decide) ?_
  refine mk_arrI (pc := 7) (k := 0) (idx := 11) (N := 24) B hin hW rfl (by decide) (Nat.le_of_ble_eq_true rfl) (Nat.le_of_ble_eq_true rfl) rfl rfl rfl rfl rfl (Nat.le_of_ble_eq_true rfl) aw_I (by decide +kernel) (by decide +kernel) (fun q1 H locs hW => ?_)
  refine lv_aload_n (k := 0) (pc := 12) hx hb (by decide +kernel) rfl (lv_at hl 0 rfl) ?_
  refine lv_bipush (n := 24) (pc := 13) (v := nI 24) hx hb (by decide +kernel) (by decide) ?_
  refine mk_arrI (pc := 15) (k := 1) (idx := 15) (N := 24) B hin hW rfl (by decide) (Nat.le_of_ble_eq_true rfl) (Nat.le_of_ble_eq_true rfl) rfl rfl rfl rfl rfl (Nat.le_of_ble_eq_true rfl) aw_I (by decide +kernel) (by decide +kernel) (fun q2 H locs hW => ?_)
  refine lv_aload_n (k := 0) (pc := 20) hx hb (by decide +kernel) rfl (lv_at hl 0 rfl) ?_
  refine lv_bipush (n := 8) (pc := 21) (v := nI 8) hx hb (by decide +kernel) (by decide) ?_
  refine mk_arrI (pc := 23) (k := 2) (idx := 18) (N := 8) B hin hW rfl (by decide) (Nat.le_of_ble_eq_true rfl) (Nat.le_of_ble_eq_true rfl) rfl rfl rfl rfl rfl (Nat.le_of_ble_eq_true rfl) aw_I (by decide +kernel) (by decide +kernel) (fun q3 H locs hW => ?_)
  refine lv_aload_n (k := 0) (pc := 28) hx hb (by decide +kernel) rfl (lv_at hl 0 rfl) ?_
  refine lv_iconst (n := 5) (pc := 29) (v := nI 5) hx hb (by decide +kernel) (by decide) ?_
  refine mk_int (pc := 30) (k := 4) (idx := 21) B hW rfl rfl rfl rfl (Nat.le_of_ble_eq_true rfl) (by decide +kernel) (fun H locs hW => ?_)
  exact k_end (pc := 33) (fun i => ([q1, q2, q3] : List Nat).getD i 0) hx hb hr hlk hW (by decide +kernel)
set_option maxHeartbeats 1000000 in
theorem k_X7 (l : Launch) (D : va_G) (cy : Nat → ClassId) : kMet l D cy yX7_init cX7_init 1 { frames := 1, cells := 1, slots := 60, locals := 20 } 6 [.null, .int 0, .int 0, .int 0] (fun q u => [(q, .inr (6, [.ref (u 0), .int (-1), .int 0, .int (-1)])), (u 0, .inl (cy 1, 60, .inr (.inl (fun _ => 0))))]) := by
  refine k_of (o := 7) (by decide +kernel) rfl rfl (by decide) ?_
  intro q p e s m below meth c ls hin B hr hlk hl hW
  obtain ⟨hx, hb, -⟩ := id B
  refine mk_top (idx := 1) B hl (mm2 (List.mem_of_getElem? (i := 5) rfl)) aw_oi aw_oc (Nat.le_of_ble_eq_true rfl) (Nat.le_of_ble_eq_true rfl) (by decide +kernel) (by decide +kernel) ?_
  refine lv_aload_n (k := 0) (pc := 4) hx hb (by decide +kernel) rfl (lv_at hl 0 rfl) ?_
  refine lv_bipush (n := 60) (pc := 5) (v := nI 60) hx hb (by decide +kernel) (by decide) ?_
  refine mk_arrJ (pc := 7) (k := 0) (idx := 9) (N := 60) B hin hW rfl (by decide) (Nat.le_of_ble_eq_true rfl) (Nat.le_of_ble_eq_true rfl) rfl rfl rfl rfl rfl (Nat.le_of_ble_eq_true rfl) aw_J (by decide +kernel) (by decide +kernel) (fun q1 H locs hW => ?_)
  refine lv_aload_n (k := 0) (pc := 12) hx hb (by decide +kernel) rfl (lv_at hl 0 rfl) ?_
  refine lv_iconst (n := -1) (pc := 13) (v := (-1)) hx hb (by decide +kernel) (by decide) ?_
  refine mk_int (pc := 14) (k := 1) (idx := 13) B hW rfl rfl rfl rfl (Nat.le_of_ble_eq_true rfl) (by decide +kernel) (fun H locs hW => ?_)
  refine lv_aload_n (k := 0) (pc := 17) hx hb (by decide +kernel) rfl (lv_at hl 0 rfl) ?_
  refine lv_iconst (n := -1) (pc := 18) (v := (-1)) hx hb (by decide +kernel) (by decide) ?_
  refine mk_int (pc := 19) (k := 3) (idx := 17) B hW rfl rfl rfl rfl (Nat.le_of_ble_eq_true rfl) (by decide +kernel) (fun H locs hW => ?_)
  exact k_end (pc := 22) (fun i => ([q1] : List Nat).getD i 0) hx hb hr hlk hW (by decide +kernel)
set_option maxHeartbeats 1000000 in
theorem k_X8 (l : Launch) (D : va_G) (cy : Nat → ClassId) : kMet l D cy yX8_init cX8_init 1 { frames := 1, cells := 2, slots := 241, locals := 20 } 7 [.null, .int 0, .null, .int 0, .int 0] (fun q u => [(q, .inr (7, [.ref (u 0), .int 0, .ref (u 1), .int 0, .int 0])), (u 0, .inl (cy 0, 120, .inl (fun _ => 0))), (u 1, .inl (cy 0, 121, .inl (fun _ => 0)))]) := by
  refine k_of (o := 8) (by decide +kernel) rfl rfl (by decide) ?_
  intro q p e s m below meth c ls hin B hr hlk hl hW
  obtain ⟨hx, hb, -⟩ := id B
  refine mk_top (idx := 3) B hl (mm1 (List.mem_of_getElem? (i := 77) rfl)) aw_oi aw_oc (Nat.le_of_ble_eq_true rfl) (Nat.le_of_ble_eq_true rfl) (by decide +kernel) (by decide +kernel) ?_
  refine lv_aload_n (k := 0) (pc := 4) hx hb (by decide +kernel) rfl (lv_at hl 0 rfl) ?_
  refine lv_bipush (n := 120) (pc := 5) (v := nI 120) hx hb (by decide +kernel) (by decide) ?_
  refine mk_arrI (pc := 7) (k := 0) (idx := 9) (N := 120) B hin hW rfl (by decide) (Nat.le_of_ble_eq_true rfl) (Nat.le_of_ble_eq_true rfl) rfl rfl rfl rfl rfl (Nat.le_of_ble_eq_true rfl) aw_I (by decide +kernel) (by decide +kernel) (fun q1 H locs hW => ?_)
  refine lv_aload_n (k := 0) (pc := 12) hx hb (by decide +kernel) rfl (lv_at hl 0 rfl) ?_
  refine lv_bipush (n := 121) (pc := 13) (v := nI 121) hx hb (by decide +kernel) (by decide) ?_
  refine mk_arrI (pc := 15) (k := 2) (idx := 13) (N := 121) B hin hW rfl (by decide) (Nat.le_of_ble_eq_true rfl) (Nat.le_of_ble_eq_true rfl) rfl rfl rfl rfl rfl (Nat.le_of_ble_eq_true rfl) aw_I (by decide +kernel) (by decide +kernel) (fun q2 H locs hW => ?_)
  exact k_end (pc := 20) (fun i => ([q1, q2] : List Nat).getD i 0) hx hb hr hlk hW (by decide +kernel)
set_option maxHeartbeats 1000000 in
theorem k_X9 (l : Launch) (D : va_G) (cy : Nat → ClassId) : kMet l D cy yX9_init cX9_init 1 { frames := 1, cells := 2, slots := 32, locals := 20 } 8 [.null, .null, .int 0] (fun q u => [(q, .inr (8, [.ref (u 0), .ref (u 1), .int 0])), (u 0, .inl (cy 0, 24, .inl (fun _ => 0))), (u 1, .inl (cy 0, 8, .inl (fun _ => 0)))]) := by
  refine k_of (o := 9) (by decide +kernel) rfl rfl (by decide) ?_
  intro q p e s m below meth c ls hin B hr hlk hl hW
  obtain ⟨hx, hb, -⟩ := id B
  refine mk_top (idx := 1) B hl (mm1 (List.mem_of_getElem? (i := 57) rfl)) aw_oi aw_oc (Nat.le_of_ble_eq_true rfl) (Nat.le_of_ble_eq_true rfl) (by decide +kernel) (by decide +kernel) ?_
  refine lv_aload_n (k := 0) (pc := 4) hx hb (by decide +kernel) rfl (lv_at hl 0 rfl) ?_
  refine lv_bipush (n := 24) (pc := 5) (v := nI 24) hx hb (by decide +kernel) (by decide) ?_
  refine mk_arrI (pc := 7) (k := 0) (idx := 11) (N := 24) B hin hW rfl (by decide) (Nat.le_of_ble_eq_true rfl) (Nat.le_of_ble_eq_true rfl) rfl rfl rfl rfl rfl (Nat.le_of_ble_eq_true rfl) aw_I (by decide +kernel) (by decide +kernel) (fun q1 H locs hW => ?_)
  refine lv_aload_n (k := 0) (pc := 12) hx hb (by decide +kernel) rfl (lv_at hl 0 rfl) ?_
  refine lv_bipush (n := 8) (pc := 13) (v := nI 8) hx hb (by decide +kernel) (by decide) ?_
  refine mk_arrI (pc := 15) (k := 1) (idx := 15) (N := 8) B hin hW rfl (by decide) (Nat.le_of_ble_eq_true rfl) (Nat.le_of_ble_eq_true rfl) rfl rfl rfl rfl rfl (Nat.le_of_ble_eq_true rfl) aw_I (by decide +kernel) (by decide +kernel) (fun q2 H locs hW => ?_)
  exact k_end (pc := 20) (fun i => ([q1, q2] : List Nat).getD i 0) hx hb hr hlk hW (by decide +kernel)
