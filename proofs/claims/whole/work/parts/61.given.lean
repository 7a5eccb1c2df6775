-- who should have which machine
def mf (cand : Nat → Option Nat) : Nat → Option (Nat × Nat)
  | 0 => none
  | q + 1 => match cand q with
    | none => mf cand q
    | some v => match mf cand q with
      | none => some (v, q)
      | some (u, i) => if u ≤ v then some (u, i) else some (v, q)
theorem mf_some {cand : Nat → Option Nat} : ∀ {n v i : Nat}, mf cand n = some (v, i) → i < n ∧ cand i = some v := by
  intro n
  induction n with
  | zero => intro v i h; exact nomatch h
  | succ n ih =>
    intro v i h
    unfold mf at h
    cases hc : cand n with
    | none =>
      rw [hc] at h
      obtain ⟨h1, h2⟩ := ih h
      exact ⟨by omega, h2⟩
    | some u =>
      rw [hc] at h
      cases hm : mf cand n with
      | none =>
        rw [hm] at h
        obtain ⟨rfl, rfl⟩ := Prod.mk.inj (Option.some.inj h)
        exact ⟨by omega, hc⟩
      | some p =>
        obtain ⟨a, b⟩ := p
        rw [hm] at h
        change (if a ≤ u then some (a, b) else some (u, n)) = some (v, i) at h
        obtain ⟨h1, h2⟩ := ih hm
        by_cases g : a ≤ u
        · rw [if_pos g] at h
          obtain ⟨rfl, rfl⟩ := Prod.mk.inj (Option.some.inj h)
          exact ⟨by omega, h2⟩
        · rw [if_neg g] at h
          obtain ⟨rfl, rfl⟩ := Prod.mk.inj (Option.some.inj h)
          exact ⟨by omega, hc⟩
theorem mf_none {cand : Nat → Option Nat} : ∀ {n : Nat}, mf cand n = none → ∀ q, q < n → cand q = none := by
  intro n
  induction n with
  | zero => intro _ q hq; omega
  | succ n ih =>
    intro h q hq
    unfold mf at h
    cases hc : cand n with
    | none =>
      rw [hc] at h
      by_cases e : q = n
      · rw [e, hc]
      · exact ih h q (by omega)
    | some u =>
      rw [hc] at h
      cases hm : mf cand n with
      | none => rw [hm] at h; exact nomatch h
      | some p =>
        obtain ⟨a, b⟩ := p
        rw [hm] at h
        change (if a ≤ u then some (a, b) else some (u, n)) = none at h
        split at h <;> exact nomatch h
def cnd (fr : Nat → Nat → Nat) (g : Nat → Nat) (w M : Nat) (q : Nat) : Option Nat := if M / 2 ^ q % 2 = 0 then some (fr w q + g (M ||| 2 ^ q)) else none
def GG (fr : Nat → Nat → Nat) (n W : Nat) : Nat → Nat → Nat
  | 0, _ => 0
  | t + 1, M => match mf (cnd fr (GG fr n W t) (W - t - 1) M) n with
    | some (v, _) => v
    | none => 0
def GI (fr : Nat → Nat → Nat) (n W : Nat) (t M : Nat) : Nat := match mf (cnd fr (GG fr n W t) (W - t - 1) M) n with
  | some (_, i) => i
  | none => 0
theorem GG_le {fr : Nat → Nat → Nat} {n W : Nat} (hf : ∀ w q, w < W → q < n → fr w q ≤ 36) : ∀ t, t ≤ W → ∀ M, GG fr n W t M ≤ 36 * t := by
  intro t
  induction t with
  | zero => intro _ M; exact Nat.le_refl 0
  | succ t ih =>
    intro ht M
    show (match mf (cnd fr (GG fr n W t) (W - t - 1) M) n with | some (v, _) => v | none => 0) ≤ _
    cases hm : mf (cnd fr (GG fr n W t) (W - t - 1) M) n with
    | none => exact Nat.zero_le _
    | some p =>
      obtain ⟨v, i⟩ := p
      obtain ⟨h1, h2⟩ := mf_some hm
      unfold cnd at h2
      by_cases g : M / 2 ^ i % 2 = 0
      · rw [if_pos g] at h2
        have h3 := Option.some.inj h2
        have h4 := hf (W - t - 1) i (by omega) h1
        have h5 := ih (by omega) (M ||| 2 ^ i)
        show v ≤ _
        omega
      · rw [if_neg g] at h2; exact nomatch h2
theorem full_n : ∀ n, n ≤ 8 → ∀ M, M < 2 ^ n → (∀ q, q < n → ¬ M / 2 ^ q % 2 = 0) → popc M = n := by decide +kernel
theorem popc_set : ∀ q, q < 8 → ∀ M, M < 256 → M / 2 ^ q % 2 = 0 → popc (M ||| 2 ^ q) = popc M + 1 ∧ M < M ||| 2 ^ q := by decide +kernel
theorem GI_ok {fr : Nat → Nat → Nat} {n W t M : Nat} (hn : n ≤ 8) (hW : W ≤ n) (hM : M < 2 ^ n) (ht : popc M + t + 1 = W) : ∃ i, i < n ∧ M / 2 ^ i % 2 = 0 ∧ mf (cnd fr (GG fr n W t) (popc M) M) n = some (GG fr n W (t + 1) M, i) ∧ GI fr n W t M = i ∧ GG fr n W (t + 1) M = fr (popc M) i + GG fr n W t (M ||| 2 ^ i) := by
  have ew : W - t - 1 = popc M := by omega
  have eG : GG fr n W (t + 1) M = (match mf (cnd fr (GG fr n W t) (W - t - 1) M) n with | some (v, _) => v | none => 0) := rfl
  have eI : GI fr n W t M = (match mf (cnd fr (GG fr n W t) (W - t - 1) M) n with | some (_, i) => i | none => 0) := rfl
  rw [eG, eI, ew]
  cases hm : mf (cnd fr (GG fr n W t) (popc M) M) n with
  | none =>
    have := mf_none hm
    have hp := full_n n hn M hM (fun q hq z => by
      have h1 := this q hq
      unfold cnd at h1
      rw [if_pos z] at h1
      exact nomatch h1)
    omega
  | some p =>
    obtain ⟨v, i⟩ := p
    obtain ⟨h1, h2⟩ := mf_some hm
    unfold cnd at h2
    by_cases g : M / 2 ^ i % 2 = 0
    · rw [if_pos g] at h2
      exact ⟨i, h1, g, rfl, rfl, (Option.some.inj h2).symm⟩
    · rw [if_neg g] at h2; exact nomatch h2
theorem J.c0 {n W : Nat} {c x c' : mS} (h : J 0 n W c x) (hc : smC c c') : J 0 n W c' x := by
  refine ⟨h.1.sm hc (smX.rf x), ?_, h.2.2.keep hc (smX.rf x)⟩
  obtain ⟨hn, n1, n2, hp, hg, hr⟩ := h.2.1
  refine ⟨hn, (hc.1 _ (by decide)).trans n1, n2, fun i hi => ?_, fun i hi => ?_, ?_, ?_⟩
  · rw [hc.2.1 _ (by decide)]; exact hp i hi
  · rw [hc.2.1 _ (by decide)]; exact hg i hi
  · rw [hc.1 _ (by decide)]; exact hr.1
  · rw [hc.1 _ (by decide)]; exact hr.2
theorem J.x0 {n W : Nat} {c x x' : mS} (h : J 0 n W c x) (hx : smX x x') (hI : ∀ k, gI x' k = gI x k) (hA : ∀ k, k ≠ aX_restFar → k ≠ aX_restGets → k ≠ aX_lettersTo → ∀ i, gA x' k i = gA x k i) : J 0 n W c x' := by
  refine ⟨h.1.sm (smC.rf c) hx, ?_, h.2.2.keep (smC.rf c) hx⟩
  obtain ⟨hn, n1, n2, hp, hg, hr⟩ := h.2.1
  refine ⟨hn, n1, (hI _).trans n2, fun i hi => ?_, fun i hi => ?_, ?_, hr.2⟩
  · rw [hA _ (by decide) (by decide) (by decide)]; exact hp i hi
  · rw [hA _ (by decide) (by decide) (by decide)]; exact hg i hi
  · rw [hI]; exact hr.1
theorem fr_ok {n W : Nat} {c x : mS} (h : J 0 n W c x) : ∃ fr : Nat → Nat → Nat, (∀ w q, w < W → q < n → fr w q ≤ 36) ∧ (∀ c', J 0 n W c' x → ∀ w q, w < W → q < n → fX10_apart 0 (nI w) (nI q) c' = some (nI (fr w q))) ∧ (∀ x', J 0 n W c x' → ∀ w q, w < W → q < n → fX11_farOf (nI w) (nI q) x' = some (nI (fr w q))) := by
  let fr : Nat → Nat → Nat := fun w q => match fX11_farOf (nI w) (nI q) x with | some v => v.toNatClampNeg | none => 0
  have key : ∀ w q, w < W → q < n → fr w q ≤ 36 ∧ fX10_apart 0 (nI w) (nI q) c = some (nI (fr w q)) ∧ fX11_farOf (nI w) (nI q) x = some (nI (fr w q)) := by
    intro w q hw hq
    obtain ⟨d, hd, f1, f2⟩ := far_both h.2.1 h.2.2 hw hq
    have e : fr w q = d := by
      show (match fX11_farOf (nI w) (nI q) x with | some v => v.toNatClampNeg | none => 0) = d
      rw [f2]
      exact nI_clamp (by omega)
    rw [e]
    exact ⟨hd, f1, f2⟩
  refine ⟨fr, fun w q hw hq => (key w q hw hq).1, fun c' hJ w q hw hq => ?_, fun x' hJ w q hw hq => ?_⟩
  · obtain ⟨d, hd, f1, f2⟩ := far_both hJ.2.1 hJ.2.2 hw hq
    obtain ⟨k1, k2, k3⟩ := key w q hw hq
    have : nI d = nI (fr w q) := Option.some.inj (f2.symm.trans k3)
    rw [f1, this]
  · obtain ⟨d, hd, f1, f2⟩ := far_both hJ.2.1 hJ.2.2 hw hq
    obtain ⟨k1, k2, k3⟩ := key w q hw hq
    have : nI d = nI (fr w q) := Option.some.inj (f1.symm.trans k2)
    rw [f2, this]
/-- how the class and the reference hold the best so far -/
def encC (s : Option (Nat × Nat)) (y3 y4 : Int32) : Prop := match s with
  | none => y3 = nI 0 ∧ y4 = nI 2147483647
  | some (v, i) => y3 = nI i ∧ y4 = nI v
theorem gt_loop {fr : Nat → Nat → Nat} {g : Nat → Nat} {n w M : Nat} {c : mS} (hn : n ≤ 8) (n1 : gI c (iM_size 0) = nI n) (hM : M < 2 ^ n) (hfr : ∀ q, q < n → fr w q ≤ 36 ∧ fX10_apart 0 (nI w) (nI q) c = some (nI (fr w q))) (hg : ∀ q, q < n → M / 2 ^ q % 2 = 0 → g (M ||| 2 ^ q) ≤ 1000 ∧ gA c aT_givenRest (M ||| 2 ^ q) = nI (g (M ||| 2 ^ q))) : ∀ (r k i : Nat) (y3 y4 : Int32), i + r = n → r < k → encC (mf (cnd fr g w M) i) y3 y4 → ∃ y3' y4', fX10_givenTo_b10 k (nI w) (nI M) y3 y4 (nI i) c = some y3' ∧ encC (mf (cnd fr g w M) n) y3' y4' := by
  have hM8 : M < 256 := Nat.lt_of_lt_of_le hM (show 2 ^ n ≤ 2 ^ 8 from Nat.pow_le_pow_right (by omega) hn)
  intro r
  induction r with
  | zero =>
    intro k i y3 y4 h1 h2 he
    obtain ⟨k, rfl⟩ : ∃ k', k = k' + 1 := ⟨k - 1, by omega⟩
    rw [fX10_givenTo_b10, n1, if_pos ((nLe (by omega) (by omega)).mpr (by omega))]
    obtain rfl : i = n := by omega
    exact ⟨y3, y4, rfl, he⟩
  | succ r ih =>
    intro k i y3 y4 h1 h2 he
    obtain ⟨k, rfl⟩ : ∃ k', k = k' + 1 := ⟨k - 1, by omega⟩
    rw [fX10_givenTo_b10, n1, if_neg (fun z => absurd ((nLe (by omega) (by omega)).mp z) (by omega))]
    unfold fX10_givenTo_b70
    by_cases b : M / 2 ^ i % 2 = 0
    · obtain ⟨g1, g2⟩ := hg i (by omega) b
      obtain ⟨f1, f2⟩ := hfr i (by omega)
      have hlt : M ||| 2 ^ i < 256 := Nat.or_lt_two_pow (n := 8) hM8 (show 2 ^ i < 2 ^ 8 from Nat.pow_lt_pow_right (by omega) (by omega))
      have ec : cnd fr g w M i = some (fr w i + g (M ||| 2 ^ i)) := by unfold cnd; rw [if_pos b]
      rw [if_pos ((bit_c hM8 (by omega)).mpr b), f2, bO_s, sh1_n i (by omega), or_n, ldA_n hlt (by omega), g2, nA, bnd_d]
      cases hm : mf (cnd fr g w M) i with
      | none =>
        rw [hm] at he
        obtain ⟨rfl, rfl⟩ := he
        rw [if_neg (fun z => absurd ((nLe (by omega) (by omega)).mp z) (by omega)), bnd_d, bnd_d, bnd_d, nA]
        refine ih k (i + 1) _ _ (by omega) (by omega) ?_
        have : mf (cnd fr g w M) (i + 1) = some (fr w i + g (M ||| 2 ^ i), i) := by
          show (match cnd fr g w M i with | none => mf (cnd fr g w M) i | some v => match mf (cnd fr g w M) i with | none => some (v, i) | some (u, j) => if u ≤ v then some (u, j) else some (v, i)) = _
          rw [ec, hm]
        rw [this]
        exact ⟨rfl, rfl⟩
      | some p =>
        obtain ⟨u, j⟩ := p
        rw [hm] at he
        obtain ⟨rfl, rfl⟩ := he
        have hu : u ≤ 1036 := by
          obtain ⟨m1, m2⟩ := mf_some hm
          unfold cnd at m2
          by_cases bb : M / 2 ^ j % 2 = 0
          · rw [if_pos bb] at m2
            have := Option.some.inj m2
            have := (hg j (by omega) bb).1
            have := (hfr j (by omega)).1
            omega
          · rw [if_neg bb] at m2; exact nomatch m2
        have : mf (cnd fr g w M) (i + 1) = if u ≤ fr w i + g (M ||| 2 ^ i) then some (u, j) else some (fr w i + g (M ||| 2 ^ i), i) := by
          show (match cnd fr g w M i with | none => mf (cnd fr g w M) i | some v => match mf (cnd fr g w M) i with | none => some (v, i) | some (u, j) => if u ≤ v then some (u, j) else some (v, i)) = _
          rw [ec, hm]
        by_cases t : u ≤ fr w i + g (M ||| 2 ^ i)
        · rw [if_pos t] at this
          rw [if_pos ((nLe (by omega) (by omega)).mpr t), bnd_d, nA]
          refine ih k (i + 1) _ _ (by omega) (by omega) ?_
          rw [this]
          exact ⟨rfl, rfl⟩
        · rw [if_neg t] at this
          rw [if_neg (fun z => t ((nLe (by omega) (by omega)).mp z)), bnd_d, bnd_d, bnd_d, nA]
          refine ih k (i + 1) _ _ (by omega) (by omega) ?_
          rw [this]
          exact ⟨rfl, rfl⟩
    · rw [if_neg (fun z => b ((bit_c hM8 (by omega)).mp z)), bnd_d, nA]
      refine ih k (i + 1) _ _ (by omega) (by omega) ?_
      have ec : cnd fr g w M i = none := by unfold cnd; rw [if_neg b]
      have : mf (cnd fr g w M) (i + 1) = mf (cnd fr g w M) i := by
        show (match cnd fr g w M i with | none => mf (cnd fr g w M) i | some v => match mf (cnd fr g w M) i with | none => some (v, i) | some (u, j) => if u ≤ v then some (u, j) else some (v, i)) = _
        rw [ec]
      rw [this]
      exact he
/-- what the class gives, where the rest stands -/
theorem gt_ok {fr : Nat → Nat → Nat} {n W t M : Nat} {c x : mS} (hJ : J 0 n W c x) (hW : W ≤ n) (hM : M < 2 ^ n) (ht : popc M + t + 1 = W) (hf : ∀ w q, w < W → q < n → fr w q ≤ 36) (hfr : ∀ w q, w < W → q < n → fX10_apart 0 (nI w) (nI q) c = some (nI (fr w q))) (hg : ∀ q, q < n → M / 2 ^ q % 2 = 0 → gA c aT_givenRest (M ||| 2 ^ q) = nI (GG fr n W t (M ||| 2 ^ q))) : fX10_givenTo (nI (popc M)) (nI M) c = some (nI (GI fr n W t M)) := by
  have hn := hJ.2.1.1
  unfold fX10_givenTo
  rw [bnd_d, bnd_d, bnd_d]
  obtain ⟨y3, y4, e1, e2⟩ := gt_loop (fr := fr) (g := GG fr n W t) (w := popc M) hn hJ.2.1.2.1 hM (fun q hq => ⟨hf _ q (by omega) hq, hfr _ q (by omega) hq⟩) (fun q hq hb => ⟨by have := GG_le hf t (by omega) (M ||| 2 ^ q); omega, hg q hq hb⟩) n mFu 0 (nI 0) (nI 2147483647) (by omega) (show n < 6000 by omega) ⟨rfl, rfl⟩
  obtain ⟨i, i1, i2, i3, i4, i5⟩ := GI_ok (fr := fr) hn hW hM ht
  rw [i3] at e2
  rw [e1, i4]
  rw [e2.1]
def Gm (fr : Nat → Nat → Nat) (n W M : Nat) : Nat := GG fr n W (W - popc M) M
theorem fg_loop {fr : Nat → Nat → Nat} {n W : Nat} {x : mS} (hW : W ≤ n) (hn : n ≤ 8) (hf : ∀ w q, w < W → q < n → fr w q ≤ 36) (hfr : ∀ c', J 0 n W c' x → ∀ w q, w < W → q < n → fX10_apart 0 (nI w) (nI q) c' = some (nI (fr w q))) : ∀ (i k : Nat) (c : mS), i ≤ 2 ^ n → i < k → J 0 n W c x → (∀ M, i ≤ M → M < 2 ^ n → gA c aT_givenRest M = nI (Gm fr n W M)) → ∃ c', fX10_fillGivenRest_b12 k (nI i + (-1)) c = some c' ∧ smC c c' ∧ ∀ M, M < 2 ^ n → gA c' aT_givenRest M = nI (Gm fr n W M) := by
  have hp2 : 2 ^ n ≤ 256 := show 2 ^ n ≤ 2 ^ 8 from Nat.pow_le_pow_right (by omega) hn
  intro i
  induction i with
  | zero =>
    intro k c h1 h2 hJ hG
    obtain ⟨k, rfl⟩ : ∃ k', k = k' + 1 := ⟨k - 1, by omega⟩
    rw [fX10_fillGivenRest_b12, if_pos (show nI 0 + (-1) < 0 by decide)]
    exact ⟨c, rfl, smC.rf c, fun M hM => hG M (by omega) hM⟩
  | succ i ih =>
    intro k c h1 h2 hJ hG
    obtain ⟨k, rfl⟩ : ∃ k', k = k' + 1 := ⟨k - 1, by omega⟩
    have hpc : popc i ≤ 8 := by unfold popc; omega
    have s4 : smC c (pA c aT_givenRest i (nI 0)) := (smC.rf c).pA _ _ _ (by decide)
    have J4 := hJ.c0 s4
    rw [dec_n (by omega), fX10_fillGivenRest_b12, if_neg (nNeg (by omega)), bc_n (by omega), bO_s, bnd_d, stA_n (by omega) (by omega), J4.2.2.2.1]
    unfold fX10_fillGivenRest_b73
    by_cases g : W ≤ popc i
    · rw [if_pos ((nLe (by omega) (by omega)).mpr g), bnd_d]
      obtain ⟨c', e1, e2, e3⟩ := ih k _ (by omega) (by omega) J4 (fun M m1 m2 => by
        rw [gA_eq]
        by_cases e : M = i
        · rw [if_pos e, e]
          unfold Gm
          rw [show W - popc i = 0 by omega]
          rfl
        · rw [if_neg e]; exact hG M (by omega) m2)
      exact ⟨c', e1, s4.tr e2, e3⟩
    · have hHf := hfr _ J4
      have hWn := hJ.2.2.1
      obtain ⟨q, q1, q2, q3, q4, q5⟩ := GI_ok (fr := fr) (t := W - popc i - 1) hn hW (show i < 2 ^ n by omega) (by omega)
      have hlt : ∀ q, q < n → i ||| 2 ^ q < 2 ^ n := fun q hq => Nat.or_lt_two_pow (by omega) (Nat.pow_lt_pow_right (by omega) hq)
      have rest : ∀ q, q < n → i / 2 ^ q % 2 = 0 → gA (pA c aT_givenRest i (nI 0)) aT_givenRest (i ||| 2 ^ q) = nI (GG fr n W (W - popc i - 1) (i ||| 2 ^ q)) := by
        intro q hq hb
        obtain ⟨p1, p2⟩ := popc_set q (by omega) i (by omega) hb
        rw [gA_eq, if_neg (by omega), hG _ (by omega) (hlt q hq)]
        unfold Gm
        rw [p1, show W - (popc i + 1) = W - popc i - 1 by omega]
      rw [if_neg (fun z => g ((nLe (by omega) (by omega)).mp z)), gt_ok (fr := fr) (t := W - popc i - 1) J4 hW (show i < 2 ^ n by omega) (by omega) hf hHf rest, bO_s, bnd_d, q4, hHf (popc i) q (by omega) q1, bO_s, sh1_n q (by omega), or_n, ldA_n (by have := hlt q q1; omega) (by omega), rest q q1 q2, stA_n (by omega) (by omega), bnd_d, nA]
      have s5 : smC c (pA (pA c aT_givenRest i (nI 0)) aT_givenRest i (nI (fr (popc i) q + GG fr n W (W - popc i - 1) (i ||| 2 ^ q)))) := s4.pA _ _ _ (by decide)
      obtain ⟨c', e1, e2, e3⟩ := ih k _ (by omega) (by omega) (hJ.c0 s5) (fun M m1 m2 => by
        rw [gA_eq]
        by_cases e : M = i
        · rw [if_pos e, e, ← q5]
          unfold Gm
          rw [show W - popc i - 1 + 1 = W - popc i by omega]
        · rw [if_neg e, gA_eq, if_neg e]; exact hG M (by omega) m2)
      exact ⟨c', e1, s5.tr e2, e3⟩
