-- law: the steps at work
def rhoC (c : mS) (b : Nat) : Int32 := if b = 97 then gI c iL_age else if b = 100 then gI c iL_unlike else if b = 104 then gI c iL_habit else if b = 109 then gI c iL_machine else if b = 114 then gI c iL_ribbon else gI c iL_touch
theorem nix_inv : ∀ b, b < 257 → nix b < 6 → b = 97 ∨ b = 100 ∨ b = 104 ∨ b = 109 ∨ b = 114 ∨ b = 116 := by decide +kernel
theorem vs_124 (u v : Int32) (c : mS) : fX4_valueOfStep (-nI 124) u v c = some (bop 124 u v) := by
  unfold fX4_valueOfStep
  unfold fX4_valueOfStep_b207
  rw [if_pos (show -nI 124 < 0 by decide), if_neg (show ¬ -(-nI 124) = nI 1 by decide), if_neg (show ¬ -(-nI 124) = nI 33 by decide), if_neg (show ¬ -(-nI 124) = nI 38 by decide), if_neg (show ¬ -(-nI 124) = nI 42 by decide), if_neg (show ¬ -(-nI 124) = nI 43 by decide), if_neg (show ¬ -(-nI 124) = nI 45 by decide), if_neg (show ¬ -(-nI 124) = nI 47 by decide), if_neg (show ¬ -(-nI 124) = nI 60 by decide), if_neg (show ¬ -(-nI 124) = nI 61 by decide), if_neg (show ¬ -(-nI 124) = nI 62 by decide), if_neg (show ¬ -(-nI 124) = nI 97 by decide), if_neg (show ¬ -(-nI 124) = nI 100 by decide), if_neg (show ¬ -(-nI 124) = nI 104 by decide), if_neg (show ¬ -(-nI 124) = nI 109 by decide), if_neg (show ¬ -(-nI 124) = nI 114 by decide), if_neg (show ¬ -(-nI 124) = nI 116 by decide), if_pos (show -(-nI 124) = nI 124 by decide), bop_124]
  by_cases h : u = 0
  · rw [if_pos h, if_pos h]
    split <;> rfl
  · rw [if_neg h, if_neg h]
theorem vs_38 (u v : Int32) (c : mS) : fX4_valueOfStep (-nI 38) u v c = some (bop 38 u v) := by
  unfold fX4_valueOfStep
  rw [if_pos (show -nI 38 < 0 by decide), if_neg (show ¬ -(-nI 38) = nI 1 by decide), if_neg (show ¬ -(-nI 38) = nI 33 by decide), if_pos (show -(-nI 38) = nI 38 by decide), bop_38]
  by_cases h : u = 0
  · rw [if_pos h, if_pos h]
  · rw [if_neg h, if_neg h]
    split <;> rfl
theorem vs_60 (u v : Int32) (c : mS) : fX4_valueOfStep (-nI 60) u v c = some (bop 60 u v) := by
  unfold fX4_valueOfStep
  rw [if_pos (show -nI 60 < 0 by decide), if_neg (show ¬ -(-nI 60) = nI 1 by decide), if_neg (show ¬ -(-nI 60) = nI 33 by decide), if_neg (show ¬ -(-nI 60) = nI 38 by decide), if_neg (show ¬ -(-nI 60) = nI 42 by decide), if_neg (show ¬ -(-nI 60) = nI 43 by decide), if_neg (show ¬ -(-nI 60) = nI 45 by decide), if_neg (show ¬ -(-nI 60) = nI 47 by decide), if_pos (show -(-nI 60) = nI 60 by decide), bop_60]
  split <;> rfl
theorem vs_61 (u v : Int32) (c : mS) : fX4_valueOfStep (-nI 61) u v c = some (bop 61 u v) := by
  unfold fX4_valueOfStep
  rw [if_pos (show -nI 61 < 0 by decide), if_neg (show ¬ -(-nI 61) = nI 1 by decide), if_neg (show ¬ -(-nI 61) = nI 33 by decide), if_neg (show ¬ -(-nI 61) = nI 38 by decide), if_neg (show ¬ -(-nI 61) = nI 42 by decide), if_neg (show ¬ -(-nI 61) = nI 43 by decide), if_neg (show ¬ -(-nI 61) = nI 45 by decide), if_neg (show ¬ -(-nI 61) = nI 47 by decide), if_neg (show ¬ -(-nI 61) = nI 60 by decide), if_pos (show -(-nI 61) = nI 61 by decide), bop_61]
  split <;> rfl
theorem vs_62 (u v : Int32) (c : mS) : fX4_valueOfStep (-nI 62) u v c = some (bop 62 u v) := by
  unfold fX4_valueOfStep
  rw [if_pos (show -nI 62 < 0 by decide), if_neg (show ¬ -(-nI 62) = nI 1 by decide), if_neg (show ¬ -(-nI 62) = nI 33 by decide), if_neg (show ¬ -(-nI 62) = nI 38 by decide), if_neg (show ¬ -(-nI 62) = nI 42 by decide), if_neg (show ¬ -(-nI 62) = nI 43 by decide), if_neg (show ¬ -(-nI 62) = nI 45 by decide), if_neg (show ¬ -(-nI 62) = nI 47 by decide), if_neg (show ¬ -(-nI 62) = nI 60 by decide), if_neg (show ¬ -(-nI 62) = nI 61 by decide), if_pos (show -(-nI 62) = nI 62 by decide), bop_62]
  split <;> rfl
theorem vs_43 (u v : Int32) (c : mS) : fX4_valueOfStep (-nI 43) u v c = some (bop 43 u v) := by
  unfold fX4_valueOfStep
  rw [if_pos (show -nI 43 < 0 by decide), if_neg (show ¬ -(-nI 43) = nI 1 by decide), if_neg (show ¬ -(-nI 43) = nI 33 by decide), if_neg (show ¬ -(-nI 43) = nI 38 by decide), if_neg (show ¬ -(-nI 43) = nI 42 by decide), if_pos (show -(-nI 43) = nI 43 by decide), bop_43]
theorem vs_45 (u v : Int32) (c : mS) : fX4_valueOfStep (-nI 45) u v c = some (bop 45 u v) := by
  unfold fX4_valueOfStep
  rw [if_pos (show -nI 45 < 0 by decide), if_neg (show ¬ -(-nI 45) = nI 1 by decide), if_neg (show ¬ -(-nI 45) = nI 33 by decide), if_neg (show ¬ -(-nI 45) = nI 38 by decide), if_neg (show ¬ -(-nI 45) = nI 42 by decide), if_neg (show ¬ -(-nI 45) = nI 43 by decide), if_pos (show -(-nI 45) = nI 45 by decide), bop_45]
theorem vs_42 (u v : Int32) (c : mS) : fX4_valueOfStep (-nI 42) u v c = some (bop 42 u v) := by
  unfold fX4_valueOfStep
  rw [if_pos (show -nI 42 < 0 by decide), if_neg (show ¬ -(-nI 42) = nI 1 by decide), if_neg (show ¬ -(-nI 42) = nI 33 by decide), if_neg (show ¬ -(-nI 42) = nI 38 by decide), if_pos (show -(-nI 42) = nI 42 by decide), bop_42]
theorem vs_47 (u v : Int32) (c : mS) : fX4_valueOfStep (-nI 47) u v c = some (bop 47 u v) := by
  unfold fX4_valueOfStep
  rw [if_pos (show -nI 47 < 0 by decide), if_neg (show ¬ -(-nI 47) = nI 1 by decide), if_neg (show ¬ -(-nI 47) = nI 33 by decide), if_neg (show ¬ -(-nI 47) = nI 38 by decide), if_neg (show ¬ -(-nI 47) = nI 42 by decide), if_neg (show ¬ -(-nI 47) = nI 43 by decide), if_neg (show ¬ -(-nI 47) = nI 45 by decide), if_pos (show -(-nI 47) = nI 47 by decide), bop_47]
  by_cases h : v = 0
  · rw [if_pos h, if_pos h]
  · unfold dvI
    rw [if_neg h, if_neg h, if_neg h]
theorem vs_37 (u v : Int32) (c : mS) : fX4_valueOfStep (-nI 37) u v c = some (bop 37 u v) := by
  unfold fX4_valueOfStep
  rw [if_pos (show -nI 37 < 0 by decide), if_neg (show ¬ -(-nI 37) = nI 1 by decide), if_neg (show ¬ -(-nI 37) = nI 33 by decide), if_neg (show ¬ -(-nI 37) = nI 38 by decide), if_neg (show ¬ -(-nI 37) = nI 42 by decide), if_neg (show ¬ -(-nI 37) = nI 43 by decide), if_neg (show ¬ -(-nI 37) = nI 45 by decide), if_neg (show ¬ -(-nI 37) = nI 47 by decide), if_neg (show ¬ -(-nI 37) = nI 60 by decide), if_neg (show ¬ -(-nI 37) = nI 61 by decide), if_neg (show ¬ -(-nI 37) = nI 62 by decide), if_neg (show ¬ -(-nI 37) = nI 97 by decide), if_neg (show ¬ -(-nI 37) = nI 100 by decide), if_neg (show ¬ -(-nI 37) = nI 104 by decide), if_neg (show ¬ -(-nI 37) = nI 109 by decide), if_neg (show ¬ -(-nI 37) = nI 114 by decide), if_neg (show ¬ -(-nI 37) = nI 116 by decide), if_neg (show ¬ -(-nI 37) = nI 124 by decide), bop_37]
  by_cases h : v = 0
  · rw [if_pos h, if_pos h]
  · unfold rmI
    rw [if_neg h, if_neg h, if_neg h]
theorem vs_bin {s : Nat} (hs : s < 257) (h : lvl s < 5) (u v : Int32) (c : mS) : fX4_valueOfStep (-nI s) u v c = some (bop s u v) := by
  have iv := lvl_inv s hs
  rcases (show lvl s = 0 ∨ lvl s = 1 ∨ lvl s = 2 ∨ lvl s = 3 ∨ lvl s = 4 by omega) with e | e | e | e | e
  · rw [iv.1 e]; exact vs_124 u v c
  · rw [iv.2.1 e]; exact vs_38 u v c
  · rcases iv.2.2.1 e with e | e | e
    · rw [e]; exact vs_60 u v c
    · rw [e]; exact vs_61 u v c
    · rw [e]; exact vs_62 u v c
  · rcases iv.2.2.2.1 e with e | e
    · rw [e]; exact vs_43 u v c
    · rw [e]; exact vs_45 u v c
  · rcases iv.2.2.2.2 e with e | e | e
    · rw [e]; exact vs_42 u v c
    · rw [e]; exact vs_47 u v c
    · rw [e]; exact vs_37 u v c
theorem vs_nam {b : Nat} (hb : b < 257) (h : nix b < 6) (u v : Int32) (c : mS) : fX4_valueOfStep (-nI b) u v c = some (rhoC c b) := by
  rcases nix_inv b hb h with rfl | rfl | rfl | rfl | rfl | rfl
  · unfold fX4_valueOfStep
    rw [if_pos (show -nI 97 < 0 by decide), if_neg (show ¬ -(-nI 97) = nI 1 by decide), if_neg (show ¬ -(-nI 97) = nI 33 by decide), if_neg (show ¬ -(-nI 97) = nI 38 by decide), if_neg (show ¬ -(-nI 97) = nI 42 by decide), if_neg (show ¬ -(-nI 97) = nI 43 by decide), if_neg (show ¬ -(-nI 97) = nI 45 by decide), if_neg (show ¬ -(-nI 97) = nI 47 by decide), if_neg (show ¬ -(-nI 97) = nI 60 by decide), if_neg (show ¬ -(-nI 97) = nI 61 by decide), if_neg (show ¬ -(-nI 97) = nI 62 by decide), if_pos (show -(-nI 97) = nI 97 by decide)]
    rfl
  · unfold fX4_valueOfStep
    rw [if_pos (show -nI 100 < 0 by decide), if_neg (show ¬ -(-nI 100) = nI 1 by decide), if_neg (show ¬ -(-nI 100) = nI 33 by decide), if_neg (show ¬ -(-nI 100) = nI 38 by decide), if_neg (show ¬ -(-nI 100) = nI 42 by decide), if_neg (show ¬ -(-nI 100) = nI 43 by decide), if_neg (show ¬ -(-nI 100) = nI 45 by decide), if_neg (show ¬ -(-nI 100) = nI 47 by decide), if_neg (show ¬ -(-nI 100) = nI 60 by decide), if_neg (show ¬ -(-nI 100) = nI 61 by decide), if_neg (show ¬ -(-nI 100) = nI 62 by decide), if_neg (show ¬ -(-nI 100) = nI 97 by decide), if_pos (show -(-nI 100) = nI 100 by decide)]
    rfl
  · unfold fX4_valueOfStep
    rw [if_pos (show -nI 104 < 0 by decide), if_neg (show ¬ -(-nI 104) = nI 1 by decide), if_neg (show ¬ -(-nI 104) = nI 33 by decide), if_neg (show ¬ -(-nI 104) = nI 38 by decide), if_neg (show ¬ -(-nI 104) = nI 42 by decide), if_neg (show ¬ -(-nI 104) = nI 43 by decide), if_neg (show ¬ -(-nI 104) = nI 45 by decide), if_neg (show ¬ -(-nI 104) = nI 47 by decide), if_neg (show ¬ -(-nI 104) = nI 60 by decide), if_neg (show ¬ -(-nI 104) = nI 61 by decide), if_neg (show ¬ -(-nI 104) = nI 62 by decide), if_neg (show ¬ -(-nI 104) = nI 97 by decide), if_neg (show ¬ -(-nI 104) = nI 100 by decide), if_pos (show -(-nI 104) = nI 104 by decide)]
    rfl
  · unfold fX4_valueOfStep
    rw [if_pos (show -nI 109 < 0 by decide), if_neg (show ¬ -(-nI 109) = nI 1 by decide), if_neg (show ¬ -(-nI 109) = nI 33 by decide), if_neg (show ¬ -(-nI 109) = nI 38 by decide), if_neg (show ¬ -(-nI 109) = nI 42 by decide), if_neg (show ¬ -(-nI 109) = nI 43 by decide), if_neg (show ¬ -(-nI 109) = nI 45 by decide), if_neg (show ¬ -(-nI 109) = nI 47 by decide), if_neg (show ¬ -(-nI 109) = nI 60 by decide), if_neg (show ¬ -(-nI 109) = nI 61 by decide), if_neg (show ¬ -(-nI 109) = nI 62 by decide), if_neg (show ¬ -(-nI 109) = nI 97 by decide), if_neg (show ¬ -(-nI 109) = nI 100 by decide), if_neg (show ¬ -(-nI 109) = nI 104 by decide), if_pos (show -(-nI 109) = nI 109 by decide)]
    rfl
  · unfold fX4_valueOfStep
    rw [if_pos (show -nI 114 < 0 by decide), if_neg (show ¬ -(-nI 114) = nI 1 by decide), if_neg (show ¬ -(-nI 114) = nI 33 by decide), if_neg (show ¬ -(-nI 114) = nI 38 by decide), if_neg (show ¬ -(-nI 114) = nI 42 by decide), if_neg (show ¬ -(-nI 114) = nI 43 by decide), if_neg (show ¬ -(-nI 114) = nI 45 by decide), if_neg (show ¬ -(-nI 114) = nI 47 by decide), if_neg (show ¬ -(-nI 114) = nI 60 by decide), if_neg (show ¬ -(-nI 114) = nI 61 by decide), if_neg (show ¬ -(-nI 114) = nI 62 by decide), if_neg (show ¬ -(-nI 114) = nI 97 by decide), if_neg (show ¬ -(-nI 114) = nI 100 by decide), if_neg (show ¬ -(-nI 114) = nI 104 by decide), if_neg (show ¬ -(-nI 114) = nI 109 by decide), if_pos (show -(-nI 114) = nI 114 by decide)]
    rfl
  · unfold fX4_valueOfStep
    rw [if_pos (show -nI 116 < 0 by decide), if_neg (show ¬ -(-nI 116) = nI 1 by decide), if_neg (show ¬ -(-nI 116) = nI 33 by decide), if_neg (show ¬ -(-nI 116) = nI 38 by decide), if_neg (show ¬ -(-nI 116) = nI 42 by decide), if_neg (show ¬ -(-nI 116) = nI 43 by decide), if_neg (show ¬ -(-nI 116) = nI 45 by decide), if_neg (show ¬ -(-nI 116) = nI 47 by decide), if_neg (show ¬ -(-nI 116) = nI 60 by decide), if_neg (show ¬ -(-nI 116) = nI 61 by decide), if_neg (show ¬ -(-nI 116) = nI 62 by decide), if_neg (show ¬ -(-nI 116) = nI 97 by decide), if_neg (show ¬ -(-nI 116) = nI 100 by decide), if_neg (show ¬ -(-nI 116) = nI 104 by decide), if_neg (show ¬ -(-nI 116) = nI 109 by decide), if_neg (show ¬ -(-nI 116) = nI 114 by decide), if_pos (show -(-nI 116) = nI 116 by decide)]
    rfl
theorem vs_num {v : Nat} (hv : v < 10000) (u w : Int32) (c : mS) : fX4_valueOfStep (nI v) u w c = some (nI v) := by
  unfold fX4_valueOfStep
  rw [if_neg (nNeg (by omega))]
theorem vs_un {s : Nat} (hs : s = 33 ∨ s = 45) (u v : Int32) (c : mS) : fX4_valueOfStep (if s = 45 then -1 else -33) u v c = some (if s = 45 then -v else if v = 0 then nI 1 else nI 0) := by
  unfold fX4_valueOfStep
  rcases hs with rfl | rfl
  · rw [if_neg (show ¬ 33 = 45 by decide), if_neg (show ¬ 33 = 45 by decide), if_pos (show (-33 : Int32) < 0 by decide), if_neg (show ¬ -(-33 : Int32) = nI 1 by decide), if_pos (show -(-33 : Int32) = nI 33 by decide)]
    split <;> rfl
  · rw [if_pos rfl, if_pos rfl, if_pos (show (-1 : Int32) < 0 by decide), if_pos (show -(-1 : Int32) = nI 1 by decide)]
theorem opn_v {v : Nat} (hv : v < 10000) (c : mS) : fX4_operandsOf (nI v) c = some (nI 0) := by
  unfold fX4_operandsOf
  rw [if_pos (nI_pos' (by omega))]
theorem opn_u {s : Nat} (hs : s = 33 ∨ s = 45) (c : mS) : fX4_operandsOf (if s = 45 then -1 else -33) c = some (nI 1) := by
  have k1 : fX4_operandsOf (-1) s0 = some (nI 1) := by decide +kernel
  have k2 : fX4_operandsOf (-33) s0 = some (nI 1) := by decide +kernel
  rcases hs with rfl | rfl
  · exact k2
  · exact k1
theorem opn_2 (c : mS) : fX4_operandsOf (-2) c = some (nI 1) := by
  have k1 : fX4_operandsOf (-2) s0 = some (nI 1) := by decide +kernel
  exact k1
theorem opn_3 (c : mS) : fX4_operandsOf (-3) c = some (nI 2) := by
  have k1 : fX4_operandsOf (-3) s0 = some (nI 2) := by decide +kernel
  exact k1
theorem neg_23 : ∀ b, b < 257 → (lvl b < 5 ∨ nix b < 6) → -nI b ≠ -2 ∧ -nI b ≠ -3 := by decide +kernel
theorem st_0 {i h k K : Nat} {s v : Int32} {c : mS} (hK : gI c iL_stepsSize = nI K) (hi : i < K) (hk : K ≤ 121) (hh : h < 64) (e : gA c aL_steps i = s) (h2 : s ≠ -2) (h3 : s ≠ -3) (ho : fX4_operandsOf s c = some (nI 0)) (hv : fX4_valueOfStep s (nI 0) (nI 0) c = some v) : fX4_value_b4 (k + 1) (nI h) (nI i) c = fX4_value_b4 k (nI (h + 1)) (nI (i + 1)) (pA c aL_stack h v) := by
  rw [fX4_value_b4, hK, if_neg (fun z => absurd ((nLe (by omega) (by omega)).mp z) (by omega)), ldA_n (by omega) (by omega), e, bnd_d, ho, bO_s, bnd_d, if_neg (fun z => absurd ((nLt (by omega) (by omega)).mp z) (by omega)), if_pos ((nLt (by omega) (by omega)).mpr hh), if_pos (show nI 0 ≤ 0 by decide)]
  unfold fX4_value_b56
  rw [bnd_d, if_pos (show nI 0 ≤ nI 1 by decide)]
  unfold fX4_value_b76
  rw [bnd_d, bnd_d, if_neg h2, if_neg h3, nSb (by omega), Nat.sub_zero]
  unfold fX4_value_b103
  rw [if_neg h3, hv, bO_s, stA_n hh (by omega), bnd_d, nA]
  unfold fX4_value_b127
  rw [bnd_d, nA]
theorem st_1 {i h k K : Nat} {s v : Int32} {c : mS} (hK : gI c iL_stepsSize = nI K) (hi : i < K) (hk : K ≤ 121) (hh : h + 1 < 64) (e : gA c aL_steps i = s) (h2 : s ≠ -2) (h3 : s ≠ -3) (ho : fX4_operandsOf s c = some (nI 1)) (hv : fX4_valueOfStep s (nI 0) (gA c aL_stack h) c = some v) : fX4_value_b4 (k + 1) (nI (h + 1)) (nI i) c = fX4_value_b4 k (nI (h + 1)) (nI (i + 1)) (pA c aL_stack h v) := by
  rw [fX4_value_b4, hK, if_neg (fun z => absurd ((nLe (by omega) (by omega)).mp z) (by omega)), ldA_n (by omega) (by omega), e, bnd_d, ho, bO_s, bnd_d, if_neg (fun z => absurd ((nLt (by omega) (by omega)).mp z) (by omega)), if_pos ((nLt (by omega) (by omega)).mpr hh), if_neg (show ¬ nI 1 ≤ 0 by decide), nSb (by omega), Nat.add_sub_cancel, ldA_n (by omega) (by omega)]
  unfold fX4_value_b56
  rw [bnd_d, if_pos (show nI 1 ≤ nI 1 by decide)]
  unfold fX4_value_b76
  rw [bnd_d, bnd_d, if_neg h2, if_neg h3, nSb (by omega), Nat.add_sub_cancel]
  unfold fX4_value_b103
  rw [if_neg h3, hv, bO_s, stA_n (by omega) (by omega), bnd_d, nA]
  unfold fX4_value_b127
  rw [bnd_d, nA]
theorem st_2 {i h k K : Nat} {s v : Int32} {c : mS} (hK : gI c iL_stepsSize = nI K) (hi : i < K) (hk : K ≤ 121) (hh : h + 2 < 64) (e : gA c aL_steps i = s) (h2 : s ≠ -2) (h3 : s ≠ -3) (ho : fX4_operandsOf s c = some (nI 2)) (hv : fX4_valueOfStep s (gA c aL_stack h) (gA c aL_stack (h + 1)) c = some v) : fX4_value_b4 (k + 1) (nI (h + 2)) (nI i) c = fX4_value_b4 k (nI (h + 1)) (nI (i + 1)) (pA c aL_stack h v) := by
  rw [fX4_value_b4, hK, if_neg (fun z => absurd ((nLe (by omega) (by omega)).mp z) (by omega)), ldA_n (by omega) (by omega), e, bnd_d, ho, bO_s, bnd_d, if_neg (fun z => absurd ((nLt (by omega) (by omega)).mp z) (by omega)), if_pos ((nLt (by omega) (by omega)).mpr hh), if_neg (show ¬ nI 2 ≤ 0 by decide), nSb (by omega), show h + 2 - 1 = h + 1 by omega, ldA_n (by omega) (by omega)]
  unfold fX4_value_b56
  rw [bnd_d, if_neg (show ¬ nI 2 ≤ nI 1 by decide), nSb (by omega), Nat.add_sub_cancel, ldA_n (by omega) (by omega)]
  unfold fX4_value_b76
  rw [bnd_d, bnd_d, if_neg h2, if_neg h3, nSb (by omega), Nat.add_sub_cancel]
  unfold fX4_value_b103
  rw [if_neg h3, hv, bO_s, stA_n (by omega) (by omega), bnd_d, nA]
  unfold fX4_value_b127
  rw [bnd_d, nA]
/-- a line that counts -/
theorem st_c {i k K : Nat} {c : mS} (hK : gI c iL_stepsSize = nI K) (hi : i < K) (hk : K ≤ 121) (e : gA c aL_steps i = -2) : fX4_value_b4 (k + 1) (nI 1) (nI i) c = some (gA c aL_stack 0, c) := by
  rw [fX4_value_b4, hK, if_neg (fun z => absurd ((nLe (by omega) (by omega)).mp z) (by omega)), ldA_n (by omega) (by omega), e, bnd_d, opn_2, bO_s, bnd_d, if_neg (show ¬ nI 1 < nI 1 by decide), if_pos (show nI 1 < nI 64 by decide), if_neg (show ¬ nI 1 ≤ 0 by decide), nSb (by omega), Nat.sub_self, ldA_n (by omega) (by omega)]
  unfold fX4_value_b56
  rw [bnd_d, if_pos (show nI 1 ≤ nI 1 by decide)]
  unfold fX4_value_b76
  rw [bnd_d, bnd_d, if_pos rfl]
theorem st_q {i k K : Nat} {c : mS} (hK : gI c iL_stepsSize = nI K) (hi : i < K) (hk : K ≤ 121) (e : gA c aL_steps i = -3) : fX4_value_b4 (k + 1) (nI 2) (nI i) c = if gA c aL_stack 0 = 0 then fX4_value_b4 k (nI 0) (nI (i + 1)) c else some (gA c aL_stack 1, c) := by
  rw [fX4_value_b4, hK, if_neg (fun z => absurd ((nLe (by omega) (by omega)).mp z) (by omega)), ldA_n (by omega) (by omega), e, bnd_d, opn_3, bO_s, bnd_d, if_neg (show ¬ nI 2 < nI 2 by decide), if_pos (show nI 2 < nI 64 by decide), if_neg (show ¬ nI 2 ≤ 0 by decide), nSb (by omega), show 2 - 1 = 1 by omega, ldA_n (by omega) (by omega)]
  unfold fX4_value_b56
  rw [bnd_d, if_neg (show ¬ nI 2 ≤ nI 1 by decide), nSb (by omega), Nat.sub_self, ldA_n (by omega) (by omega)]
  unfold fX4_value_b76
  rw [bnd_d, bnd_d, if_neg (show ¬ (-3 : Int32) = -2 by decide), if_pos rfl]
  by_cases g : gA c aL_stack 0 = 0
  · rw [if_pos g, if_pos g]
    unfold fX4_value_b103 fX4_value_b127
    rw [if_pos rfl, bnd_d, nSb (by omega), Nat.sub_self, nA]
  · rw [if_neg g, if_neg g]
def SL (h : Nat) (c d : mS) : Prop := (∀ k, gI d k = gI c k) ∧ (∀ k, k ≠ aL_stack → gA d k = gA c k) ∧ (∀ i, i < h → gA d aL_stack i = gA c aL_stack i) ∧ ∀ k i, gL d k i = gL c k i
theorem SL.tr {h h' : Nat} {c d e : mS} (a : SL h c d) (b : SL h' d e) (hh : h ≤ h') : SL h c e := ⟨fun k => (b.1 k).trans (a.1 k), fun k hk => (b.2.1 k hk).trans (a.2.1 k hk), fun i hi => (b.2.2.1 i (by omega)).trans (a.2.2.1 i hi), fun k i => (b.2.2.2 k i).trans (a.2.2.2 k i)⟩
theorem SL.one (h : Nat) (c : mS) (v : Int32) : SL h c (pA c aL_stack h v) := ⟨fun _ => rfl, fun k hk => funext fun i => gA_ne hk, fun i hi => by rw [gA_eq, if_neg (by omega)], fun _ _ => rfl⟩
theorem SL.rho {h : Nat} {c d : mS} (a : SL h c d) : rhoC d = rhoC c := by
  funext b
  unfold rhoC
  rw [a.1, a.1, a.1, a.1, a.1, a.1]
theorem SL.L {h : Nat} {c d : mS} (a : SL h c d) : smL c d := ⟨fun k _ => a.1 k, fun k hk i => congrFun (a.2.1 k hk) i, a.2.2.2⟩
def Xe (e : Ev) (len : Nat) : Prop := ∀ h i k K c, 2 * h + len ≤ 120 → i + e.1.length ≤ K → K ≤ 121 → gI c iL_stepsSize = nI K → At (gA c aL_steps) i e.1 → ∃ c', fX4_value_b4 (k + e.1.length) (nI h) (nI i) c = fX4_value_b4 k (nI (h + 1)) (nI (i + e.1.length)) c' ∧ SL h c c' ∧ gA c' aL_stack h = e.2 (rhoC c)
theorem Xe.mono {e : Ev} {l m : Nat} (h : Xe e l) (hl : l ≤ m) : Xe e m := fun h' i k K c a => h h' i k K c (by omega)
theorem xe_num {v len : Nat} (hv : v < 10000) (hl : 1 ≤ len) : Xe (enum v) len := by
  intro h i k K c a b hK e at'
  have n2 : ∀ u : Nat, u < 10000 → nI u ≠ -2 ∧ nI u ≠ -3 := fun u hu => by
    have := nI_pos (n := u) (by omega)
    refine ⟨fun z => ?_, fun z => ?_⟩
    · rw [z] at this; exact this (by decide)
    · rw [z] at this; exact this (by decide)
  have b' : i + 1 ≤ K := b
  exact ⟨_, st_0 e (by omega) hK (by omega) at'.1 (n2 v hv).1 (n2 v hv).2 (opn_v hv c) (vs_num hv _ _ c), SL.one h c _, by rw [gA_eq, if_pos rfl]; rfl⟩
theorem xe_nam {b len : Nat} (hb : b < 257) (hn : nix b < 6) (hl : 1 ≤ len) : Xe (enam b) len := by
  intro h i k K c a b' hK e at'
  have b' : i + 1 ≤ K := b'
  obtain ⟨n2, n3⟩ := neg_23 b hb (Or.inr hn)
  exact ⟨_, st_0 e (by omega) hK (by omega) at'.1 n2 n3 (opn_n hb hn c) (vs_nam hb hn _ _ c), SL.one h c _, by rw [gA_eq, if_pos rfl]; rfl⟩
theorem xe_un {s len l : Nat} {e : Ev} (hs : s = 33 ∨ s = 45) (h1 : 1 ≤ l) (h2 : l < len) (he : Xe e l) : Xe (eun s e) len := by
  intro h i k K c a b hK eK at'
  have ln : (eun s e).1.length = e.1.length + 1 := by
    show (e.1 ++ [if s = 45 then -1 else -33]).length = _
    simp only [List.length_append, List.length_cons, List.length_nil]
  rw [ln] at b ⊢
  obtain ⟨a1, a2, -⟩ := At.app.mp (show At (gA c aL_steps) i (e.1 ++ [if s = 45 then -1 else -33]) from at')
  obtain ⟨c', d1, d2, d3⟩ := he h i (k + 1) K c (by omega) (by omega) hK eK a1
  rw [show k + (e.1.length + 1) = k + 1 + e.1.length by omega, d1]
  have n23 : (if s = 45 then (-1 : Int32) else -33) ≠ -2 ∧ (if s = 45 then (-1 : Int32) else -33) ≠ -3 := by
    rcases hs with rfl | rfl <;> decide
  rw [st_1 (c := c') (by rw [d2.1]; exact eK) (by omega) hK (by omega) (by rw [d2.2.1 _ (by decide)]; exact a2) n23.1 n23.2 (opn_u hs c') (vs_un hs _ _ c'), ← Nat.add_assoc]
  refine ⟨_, rfl, d2.tr (SL.one h c' _) (Nat.le_refl h), ?_⟩
  rw [gA_eq, if_pos rfl, d3]
  rfl
theorem xe_bin {s len l m : Nat} {e g : Ev} (hs : s < 257) (hs2 : lvl s < 5) (h1 : 1 ≤ l) (h2 : 1 ≤ m) (hl : l + 1 + m ≤ len) (he : Xe e l) (hg : Xe g m) : Xe (ebin s e g) len := by
  intro h i k K c a b hK eK at'
  have ln : (ebin s e g).1.length = e.1.length + g.1.length + 1 := by
    show (e.1 ++ g.1 ++ [-nI s]).length = _
    simp only [List.length_append, List.length_cons, List.length_nil]
  rw [ln] at b ⊢
  obtain ⟨a0, a3, -⟩ := At.app.mp (show At (gA c aL_steps) i (e.1 ++ g.1 ++ [-nI s]) from at')
  obtain ⟨a1, a2⟩ := At.app.mp a0
  rw [List.length_append, ← Nat.add_assoc] at a3
  obtain ⟨c1, d1, d2, d3⟩ := he h i (k + 1 + g.1.length) K c (by omega) (by omega) hK eK a1
  obtain ⟨c2, f1, f2, f3⟩ := hg (h + 1) (i + e.1.length) (k + 1) K c1 (by omega) (by omega) hK (by rw [d2.1]; exact eK) (by rw [d2.2.1 _ (by decide)]; exact a2)
  obtain ⟨n2, n3⟩ := neg_23 s hs (Or.inl hs2)
  rw [show k + (e.1.length + g.1.length + 1) = k + 1 + g.1.length + e.1.length by omega, d1, f1, show h + 1 + 1 = h + 2 by omega]
  rw [st_2 (c := c2) (by rw [f2.1, d2.1]; exact eK) (by omega) hK (by omega) (by rw [f2.2.1 _ (by decide), d2.2.1 _ (by decide)]; exact a3) n2 n3 (opn_c hs hs2 c2) (vs_bin hs hs2 _ _ c2)]
  refine ⟨_, by rw [show i + (e.1.length + g.1.length + 1) = i + e.1.length + g.1.length + 1 by omega], (d2.tr f2 (by omega)).tr (SL.one h c2 _) (Nat.le_refl h), ?_⟩
  rw [gA_eq, if_pos rfl, f3, f2.2.2.1 h (by omega), d3, d2.rho]
  rfl
