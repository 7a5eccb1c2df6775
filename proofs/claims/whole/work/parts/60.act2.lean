theorem z_act {c x : mS} (h : Rel c x) (a b e : Int32) : same (fX10_act a b e c) (fX11_act a b e x) := by
  unfold fX10_act fX11_act
  rw [bnd_d, bnd_d]
  obtain ⟨⟨n, hn, n1, n2, n3⟩, -⟩ := id h.2.2.2.2.2.1
  have h0 : ∀ u v : Int32, Rel (pI c iU_ran (nI 0)) (pI (pI (pI x iX_ran (nI 0)) iX_ownKind u) iX_ownNumber v) := fun u v =>
    h.run (fun k hk => gI_ne (fun e => hk (e ▸ by decide))) (fun _ _ _ => rfl) (fun _ _ => rfl) (fun k hk => by
      rw [gI_ne (show k ≠ iX_ownNumber from fun e => hk (e ▸ by decide)), gI_ne (show k ≠ iX_ownKind from fun e => hk (e ▸ by decide)), gI_ne (show k ≠ iX_ran from fun e => hk (e ▸ by decide))]) (fun _ _ _ => rfl) (fun _ _ _ => rfl) ⟨⟨n, hn, n1, n2, n3⟩, 0, by omega, rfl, rfl, fun i hi _ => absurd hi (by omega)⟩
  have h1 : Rel (pI c iU_ran (nI 0)) (pI x iX_ran (nI 0)) := h.run (fun k hk => gI_ne (fun e => hk (e ▸ by decide))) (fun _ _ _ => rfl) (fun _ _ => rfl) (fun k hk => gI_ne (show k ≠ iX_ran from fun e => hk (e ▸ by decide))) (fun _ _ _ => rfl) (fun _ _ _ => rfl) ⟨⟨n, hn, n1, n2, n3⟩, 0, by omega, rfl, rfl, fun i hi _ => absurd hi (by omega)⟩
  have n1' : gI (pI c iU_ran (nI 0)) iU_size = nI n := n1
  have n2' : gI (pI x iX_ran (nI 0)) iX_bodies = nI n := n2
  rw [f_has3, bO_s, b01_z, n1', f_isBody hn n2', bO_s, b01_z]
  by_cases ha : a < 0 ∨ nI n ≤ a
  · rw [if_pos ha, if_pos ha]; exact same_bad h1
  rw [if_neg ha, if_neg ha]
  obtain ⟨q, hq, rfl⟩ := nOfLt (fun z => ha (Or.inl z)) (fun z => ha (Or.inr z)) (by omega)
  obtain ⟨K, hK, k1, k2⟩ := n3 q hq
  rw [ldA_n (by omega) (by omega), ldA_n (by omega) (by omega), gA_pI, gA_pI, k1, k2, bnd_d, bnd_d, ite_in1 (k := 3) (by omega)]
  have hA : AC K q 0 (pI c iU_ran (nI 0)) (pI (pI (pI x iX_ran (nI 0)) iX_ownKind (nI K)) iX_ownNumber (nI q)) := ⟨h0 _ _, hK, by omega, rfl, rfl, k1, rfl⟩
  have ok : gI (pI (pI (pI x iX_ran (nI 0)) iX_ownKind (nI K)) iX_ownNumber (nI q)) iX_ownKind = nI K := rfl
  rw [ok]
  by_cases hb : b < 0 ∨ nI 3 < b
  · rw [if_pos hb]
    have e0 : ¬ b = nI 0 := by rintro rfl; revert hb; decide
    have e1 : ¬ b = nI 1 := by rintro rfl; revert hb; decide
    have e2 : ¬ b = nI 2 := by rintro rfl; revert hb; decide
    have e3 : ¬ b = nI 3 := by rintro rfl; revert hb; decide
    rw [if_neg e0, if_neg e1, if_neg e2, if_neg e3]
    exact same_bad (h0 _ _)
  rw [if_neg hb]
  obtain ⟨B, hB, rfl⟩ := lo_hi (by omega) hb
  rcases (show B = 0 ∨ B = 1 ∨ B = 2 ∨ B = 3 by omega) with rfl | rfl | rfl | rfl
  · obtain ⟨v, c', x', r', f1, f2, -, f4⟩ := sa_0 K hK 60 60 (by omega) (by omega) K q 0 0 e _ _ (by omega) (by omega) hA
    have f1' : fX3_perform (nI q) (nI K) (nI 0) e (nI 0) (pI c iU_ran (nI 0)) = some (v, c') := f1
    have f2' : fX11_typesAs (nI K) e (pI (pI (pI x iX_ran (nI 0)) iX_ownKind (nI K)) iX_ownNumber (nI q)) = some (v, x') := f2
    rw [f1', if_pos rfl, f2', bP_s, bP_s]
    exact same_bad f4.1
  · obtain ⟨v, c', x', r', f1, f2, -, f4⟩ := sa_1 K hK 60 60 (by omega) (by omega) K q 0 0 e _ _ (by omega) (by omega) hA
    have f1' : fX3_perform (nI q) (nI K) (nI 1) e (nI 0) (pI c iU_ran (nI 0)) = some (v, c') := f1
    have f2' : fX11_sticksAs (nI K) e (pI (pI (pI x iX_ran (nI 0)) iX_ownKind (nI K)) iX_ownNumber (nI q)) = some (v, x') := f2
    rw [f1', if_neg (show ¬ nI 1 = nI 0 by decide), if_pos rfl, f2', bP_s, bP_s]
    exact same_bad f4.1
  · obtain ⟨v, c', x', r', f1, f2, -, f4⟩ := sa_2 K hK 60 60 (by omega) (by omega) K q 0 0 e _ _ (by omega) (by omega) hA
    have f1' : fX3_perform (nI q) (nI K) (nI 2) e (nI 0) (pI c iU_ran (nI 0)) = some (v, c') := f1
    have f2' : fX11_ringsAs (nI K) e (pI (pI (pI x iX_ran (nI 0)) iX_ownKind (nI K)) iX_ownNumber (nI q)) = some (v, x') := f2
    rw [f1', if_neg (show ¬ nI 2 = nI 0 by decide), if_neg (show ¬ nI 2 = nI 1 by decide), if_pos rfl, f2', bP_s, bP_s]
    exact same_bad f4.1
  · obtain ⟨v, c', x', r', f1, f2, -, f4⟩ := sa_3 K hK 60 60 (by omega) (by omega) K q 0 0 e _ _ (by omega) (by omega) hA
    have f1' : fX3_perform (nI q) (nI K) (nI 3) e (nI 0) (pI c iU_ran (nI 0)) = some (v, c') := f1
    have f2' : fX11_tellsAs (nI K) e (pI (pI (pI x iX_ran (nI 0)) iX_ownKind (nI K)) iX_ownNumber (nI q)) = some (v, x') := f2
    rw [f1', if_neg (show ¬ nI 3 = nI 0 by decide), if_neg (show ¬ nI 3 = nI 1 by decide), if_neg (show ¬ nI 3 = nI 2 by decide), if_pos rfl, f2', bP_s, bP_s]
    exact same_bad f4.1
