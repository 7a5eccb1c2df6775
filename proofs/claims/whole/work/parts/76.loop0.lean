-- the law's loop in the small machine, by program (wip/gen/lawgen.py)
def lwP : mPo := fun v _ => v = some (.int 1)
abbrev lwL (i : Nat) : mLv := [(0, .ref 1000), (1, .ref qT), (2, .ref qX), (3, .int (nI i))]
abbrev lwG (ρ : mRo) (i pc : Nat) (r : List Value) (h : List mE) : Prop := mG ρ (mC ρ 250) 12 4 code ret lwP pc (lwL i) r h
section LAWROWS
variable {ρ : mRo} {L i pc : Nat} {xs : Nat → Int32} {r : List Value} {h : List mE}
theorem l_arg (k : Nat) (hρ : ρ 1000 = some (L, xs)) (hi : i + 6 ≤ L) (hL : L ≤ 3072) (hk : k < 6) (hd : decode code pc = .ok (.aload_n 0, 1) ∧ decode code (pc + 1) = .ok (.iload_n 3, 1) ∧ decode code (pc + 2) = .ok (.iconst (k : Int), 1) ∧ decode code (pc + 3) = .ok (.iadd, 1) ∧ decode code (pc + 4) = .ok (.iaload, 1)) (kk : lwG ρ i (pc + 5) (.int (xs (i + k)) :: r) h) : lwG ρ i pc r h := by
  obtain ⟨d1, d2, d3, d4, d5⟩ := hd
  refine e_aload_n 0 d1 rfl rfl ?_
  refine e_iload_n 3 d2 rfl rfl ?_
  refine e_iconst (w := nI k) d3 rfl ?_
  refine e_iadd d4 ?_
  rw [nA]
  refine e_rald (kf := some) (res := xs (i + k)) d5 hρ (by rw [ldR_n (by omega) (by omega)]) (fun v hv => ?_)
  obtain rfl := Option.some.inj hv
  exact kk
theorem l_eq {x : Int32} {off : Int} (tgt : Nat) (hd : decode code pc = .ok (.if_icmp .eq off, 3)) (ht : (pc : Int) + off = (tgt : Int)) (kk : lwG ρ i tgt r h) : lwG ρ i pc (.int x :: .int x :: r) h := by
  obtain ⟨n, kk⟩ := kk
  exact ⟨n + 1, _, _, _, fun _ z => z, hd, rfl, x, x, r, tgt, rfl, ht, fun _ => kk, fun z => absurd rfl z⟩
theorem l_if0 {off : Int} {x : Int32} (tgt : Nat) (hx : x = 0) (hd : decode code pc = .ok (.ifCond .eq off, 3)) (ht : (pc : Int) + off = (tgt : Int)) (kk : lwG ρ i tgt r h) : lwG ρ i pc (.int x :: r) h := by
  obtain ⟨n, kk⟩ := kk
  exact ⟨n + 1, _, _, _, fun _ z => z, hd, rfl, x, r, tgt, rfl, ht, fun _ => kk, fun z => absurd hx z⟩
theorem l_len (hρ : ρ 1000 = some (L, xs)) (hd : decode code pc = .ok (.arraylength, 1)) (kk : lwG ρ i (pc + 1) (.int (nI L) :: r) h) : lwG ρ i pc (.ref 1000 :: r) h := by
  obtain ⟨n, kk⟩ := kk
  exact ⟨n + 1, _, _, _, fun _ z => z, hd, rfl, 1000, r, L, rfl, Or.inr (Or.inr ⟨xs, hρ⟩), kk⟩
end LAWROWS
theorem lcmp_self (r : Int64) : lg_cmp r r = 0 := by
  unfold lg_cmp
  rw [if_neg (Int64.lt_irrefl), if_pos rfl]
set_option maxRecDepth 20000 in
theorem lw_0 {ρ : mRo} {L i : Nat} {xs : Nat → Int32} {c x : mS} (hρ : ρ 1000 = some (L, xs)) (hr : mRoC ρ) (hi : i + 6 ≤ L) (hL : L ≤ 3072) (hR : Rel c x) (K : ∀ c' x', Rel c' x' → lwG ρ i 1651 [] (hpO c' x')) : lwG ρ i 232 [] (hpO c x) := by
  obtain ⟨r, c', x', e1, e2, hR'⟩ := z_machine hR 
  refine e_aload_n 1 (k := 1) (pc := 232) (by decide +kernel) rfl rfl ?_
  refine e_callV (as := []) (v := some (.int r)) (s := c) (s' := c') (z := 13) (j := 64) (pc := 233) (view_C x) (by decide +kernel) (Or.inl rfl) rfl rfl rfl rfl (Nat.le_of_ble_eq_true rfl) lc_T rfl rfl (fun Q hQ => tX10_machine (d := 247) (view_C x) e1 hQ) ?_
  refine e_aload_n 2 (k := 2) (pc := 236) (by decide +kernel) rfl rfl ?_
  refine e_callV (as := []) (v := some (.int r)) (s := x) (s' := x') (z := 17) (j := 146) (pc := 237) (view_X c') (by decide +kernel) (Or.inl rfl) rfl rfl rfl rfl (Nat.le_of_ble_eq_true rfl) lx_X rfl rfl (fun Q hQ => tX11_machine (d := 248) (view_X c') e2 hQ) ?_
  exact l_eq (pc := 240) (off := 1411) 1651 (by decide +kernel) (by decide) (K c' x' hR')
