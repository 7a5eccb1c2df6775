-- bytecode to functions, by program (wip/gen/decomp.py)
theorem dX4_valueOfStep_0 : decode cX4_valueOfStep 0 = .ok (.iload_n 1, 1) := by decide +kernel
theorem dX4_valueOfStep_1 : decode cX4_valueOfStep 1 = .ok (.ifCond .lt 5, 3) := by decide +kernel
theorem dX4_valueOfStep_4 : decode cX4_valueOfStep 4 = .ok (.iload_n 1, 1) := by decide +kernel
theorem dX4_valueOfStep_5 : decode cX4_valueOfStep 5 = .ok (.ireturn, 1) := by decide +kernel
theorem dX4_valueOfStep_6 : decode cX4_valueOfStep 6 = .ok (.iload_n 1, 1) := by decide +kernel
theorem dX4_valueOfStep_7 : decode cX4_valueOfStep 7 = .ok (.ineg, 1) := by decide +kernel
theorem dX4_valueOfStep_8 : decode cX4_valueOfStep 8 = .ok (.lookupswitch 276 #[(1, 178), (33, 181), (38, 205), (42, 260), (43, 252), (45, 256), (47, 264), (60, 219), (61, 230), (62, 241), (97, 148), (100, 163), (104, 158), (109, 173), (114, 168), (116, 153), (124, 191)], 148) := by decide +kernel
theorem dX4_valueOfStep_156 : decode cX4_valueOfStep 156 = .ok (.aload_n 0, 1) := by decide +kernel
theorem dX4_valueOfStep_157 : decode cX4_valueOfStep 157 = .ok (.getfield 46, 3) := by decide +kernel
theorem dX4_valueOfStep_160 : decode cX4_valueOfStep 160 = .ok (.ireturn, 1) := by decide +kernel
theorem dX4_valueOfStep_161 : decode cX4_valueOfStep 161 = .ok (.aload_n 0, 1) := by decide +kernel
theorem dX4_valueOfStep_162 : decode cX4_valueOfStep 162 = .ok (.getfield 49, 3) := by decide +kernel
theorem dX4_valueOfStep_165 : decode cX4_valueOfStep 165 = .ok (.ireturn, 1) := by decide +kernel
theorem dX4_valueOfStep_166 : decode cX4_valueOfStep 166 = .ok (.aload_n 0, 1) := by decide +kernel
theorem dX4_valueOfStep_167 : decode cX4_valueOfStep 167 = .ok (.getfield 52, 3) := by decide +kernel
theorem dX4_valueOfStep_170 : decode cX4_valueOfStep 170 = .ok (.ireturn, 1) := by decide +kernel
theorem dX4_valueOfStep_171 : decode cX4_valueOfStep 171 = .ok (.aload_n 0, 1) := by decide +kernel
theorem dX4_valueOfStep_172 : decode cX4_valueOfStep 172 = .ok (.getfield 55, 3) := by decide +kernel
theorem dX4_valueOfStep_175 : decode cX4_valueOfStep 175 = .ok (.ireturn, 1) := by decide +kernel
theorem dX4_valueOfStep_176 : decode cX4_valueOfStep 176 = .ok (.aload_n 0, 1) := by decide +kernel
theorem dX4_valueOfStep_177 : decode cX4_valueOfStep 177 = .ok (.getfield 58, 3) := by decide +kernel
theorem dX4_valueOfStep_180 : decode cX4_valueOfStep 180 = .ok (.ireturn, 1) := by decide +kernel
theorem dX4_valueOfStep_181 : decode cX4_valueOfStep 181 = .ok (.aload_n 0, 1) := by decide +kernel
theorem dX4_valueOfStep_182 : decode cX4_valueOfStep 182 = .ok (.getfield 61, 3) := by decide +kernel
theorem dX4_valueOfStep_185 : decode cX4_valueOfStep 185 = .ok (.ireturn, 1) := by decide +kernel
theorem dX4_valueOfStep_186 : decode cX4_valueOfStep 186 = .ok (.iload_n 3, 1) := by decide +kernel
theorem dX4_valueOfStep_187 : decode cX4_valueOfStep 187 = .ok (.ineg, 1) := by decide +kernel
theorem dX4_valueOfStep_188 : decode cX4_valueOfStep 188 = .ok (.ireturn, 1) := by decide +kernel
theorem dX4_valueOfStep_189 : decode cX4_valueOfStep 189 = .ok (.iload_n 3, 1) := by decide +kernel
theorem dX4_valueOfStep_190 : decode cX4_valueOfStep 190 = .ok (.ifCond .ne 7, 3) := by decide +kernel
theorem dX4_valueOfStep_193 : decode cX4_valueOfStep 193 = .ok (.iconst 1, 1) := by decide +kernel
theorem dX4_valueOfStep_194 : decode cX4_valueOfStep 194 = .ok (.goto 4, 3) := by decide +kernel
theorem dX4_valueOfStep_197 : decode cX4_valueOfStep 197 = .ok (.iconst 0, 1) := by decide +kernel
theorem dX4_valueOfStep_198 : decode cX4_valueOfStep 198 = .ok (.ireturn, 1) := by decide +kernel
theorem dX4_valueOfStep_199 : decode cX4_valueOfStep 199 = .ok (.iload_n 2, 1) := by decide +kernel
theorem dX4_valueOfStep_200 : decode cX4_valueOfStep 200 = .ok (.ifCond .ne 7, 3) := by decide +kernel
theorem dX4_valueOfStep_203 : decode cX4_valueOfStep 203 = .ok (.iload_n 3, 1) := by decide +kernel
theorem dX4_valueOfStep_204 : decode cX4_valueOfStep 204 = .ok (.ifCond .eq 7, 3) := by decide +kernel
theorem dX4_valueOfStep_207 : decode cX4_valueOfStep 207 = .ok (.iconst 1, 1) := by decide +kernel
theorem dX4_valueOfStep_208 : decode cX4_valueOfStep 208 = .ok (.goto 4, 3) := by decide +kernel
theorem dX4_valueOfStep_211 : decode cX4_valueOfStep 211 = .ok (.iconst 0, 1) := by decide +kernel
theorem dX4_valueOfStep_212 : decode cX4_valueOfStep 212 = .ok (.ireturn, 1) := by decide +kernel
theorem dX4_valueOfStep_213 : decode cX4_valueOfStep 213 = .ok (.iload_n 2, 1) := by decide +kernel
theorem dX4_valueOfStep_214 : decode cX4_valueOfStep 214 = .ok (.ifCond .eq 11, 3) := by decide +kernel
theorem dX4_valueOfStep_217 : decode cX4_valueOfStep 217 = .ok (.iload_n 3, 1) := by decide +kernel
theorem dX4_valueOfStep_218 : decode cX4_valueOfStep 218 = .ok (.ifCond .eq 7, 3) := by decide +kernel
theorem dX4_valueOfStep_221 : decode cX4_valueOfStep 221 = .ok (.iconst 1, 1) := by decide +kernel
theorem dX4_valueOfStep_222 : decode cX4_valueOfStep 222 = .ok (.goto 4, 3) := by decide +kernel
theorem dX4_valueOfStep_225 : decode cX4_valueOfStep 225 = .ok (.iconst 0, 1) := by decide +kernel
theorem dX4_valueOfStep_226 : decode cX4_valueOfStep 226 = .ok (.ireturn, 1) := by decide +kernel
theorem dX4_valueOfStep_227 : decode cX4_valueOfStep 227 = .ok (.iload_n 2, 1) := by decide +kernel
theorem dX4_valueOfStep_228 : decode cX4_valueOfStep 228 = .ok (.iload_n 3, 1) := by decide +kernel
theorem dX4_valueOfStep_229 : decode cX4_valueOfStep 229 = .ok (.if_icmp .ge 7, 3) := by decide +kernel
theorem dX4_valueOfStep_232 : decode cX4_valueOfStep 232 = .ok (.iconst 1, 1) := by decide +kernel
theorem dX4_valueOfStep_233 : decode cX4_valueOfStep 233 = .ok (.goto 4, 3) := by decide +kernel
theorem dX4_valueOfStep_236 : decode cX4_valueOfStep 236 = .ok (.iconst 0, 1) := by decide +kernel
theorem dX4_valueOfStep_237 : decode cX4_valueOfStep 237 = .ok (.ireturn, 1) := by decide +kernel
theorem dX4_valueOfStep_238 : decode cX4_valueOfStep 238 = .ok (.iload_n 2, 1) := by decide +kernel
theorem dX4_valueOfStep_239 : decode cX4_valueOfStep 239 = .ok (.iload_n 3, 1) := by decide +kernel
theorem dX4_valueOfStep_240 : decode cX4_valueOfStep 240 = .ok (.if_icmp .ne 7, 3) := by decide +kernel
theorem dX4_valueOfStep_243 : decode cX4_valueOfStep 243 = .ok (.iconst 1, 1) := by decide +kernel
theorem dX4_valueOfStep_244 : decode cX4_valueOfStep 244 = .ok (.goto 4, 3) := by decide +kernel
theorem dX4_valueOfStep_247 : decode cX4_valueOfStep 247 = .ok (.iconst 0, 1) := by decide +kernel
theorem dX4_valueOfStep_248 : decode cX4_valueOfStep 248 = .ok (.ireturn, 1) := by decide +kernel
theorem dX4_valueOfStep_249 : decode cX4_valueOfStep 249 = .ok (.iload_n 2, 1) := by decide +kernel
theorem dX4_valueOfStep_250 : decode cX4_valueOfStep 250 = .ok (.iload_n 3, 1) := by decide +kernel
theorem dX4_valueOfStep_251 : decode cX4_valueOfStep 251 = .ok (.if_icmp .le 7, 3) := by decide +kernel
theorem dX4_valueOfStep_254 : decode cX4_valueOfStep 254 = .ok (.iconst 1, 1) := by decide +kernel
theorem dX4_valueOfStep_255 : decode cX4_valueOfStep 255 = .ok (.goto 4, 3) := by decide +kernel
theorem dX4_valueOfStep_258 : decode cX4_valueOfStep 258 = .ok (.iconst 0, 1) := by decide +kernel
theorem dX4_valueOfStep_259 : decode cX4_valueOfStep 259 = .ok (.ireturn, 1) := by decide +kernel
theorem dX4_valueOfStep_260 : decode cX4_valueOfStep 260 = .ok (.iload_n 2, 1) := by decide +kernel
theorem dX4_valueOfStep_261 : decode cX4_valueOfStep 261 = .ok (.iload_n 3, 1) := by decide +kernel
theorem dX4_valueOfStep_262 : decode cX4_valueOfStep 262 = .ok (.iadd, 1) := by decide +kernel
theorem dX4_valueOfStep_263 : decode cX4_valueOfStep 263 = .ok (.ireturn, 1) := by decide +kernel
theorem dX4_valueOfStep_264 : decode cX4_valueOfStep 264 = .ok (.iload_n 2, 1) := by decide +kernel
theorem dX4_valueOfStep_265 : decode cX4_valueOfStep 265 = .ok (.iload_n 3, 1) := by decide +kernel
theorem dX4_valueOfStep_266 : decode cX4_valueOfStep 266 = .ok (.isub, 1) := by decide +kernel
theorem dX4_valueOfStep_267 : decode cX4_valueOfStep 267 = .ok (.ireturn, 1) := by decide +kernel
theorem dX4_valueOfStep_268 : decode cX4_valueOfStep 268 = .ok (.iload_n 2, 1) := by decide +kernel
theorem dX4_valueOfStep_269 : decode cX4_valueOfStep 269 = .ok (.iload_n 3, 1) := by decide +kernel
theorem dX4_valueOfStep_270 : decode cX4_valueOfStep 270 = .ok (.imul, 1) := by decide +kernel
theorem dX4_valueOfStep_271 : decode cX4_valueOfStep 271 = .ok (.ireturn, 1) := by decide +kernel
theorem dX4_valueOfStep_272 : decode cX4_valueOfStep 272 = .ok (.iload_n 3, 1) := by decide +kernel
theorem dX4_valueOfStep_273 : decode cX4_valueOfStep 273 = .ok (.ifCond .ne 7, 3) := by decide +kernel
theorem dX4_valueOfStep_276 : decode cX4_valueOfStep 276 = .ok (.iconst 0, 1) := by decide +kernel
theorem dX4_valueOfStep_277 : decode cX4_valueOfStep 277 = .ok (.goto 6, 3) := by decide +kernel
theorem dX4_valueOfStep_280 : decode cX4_valueOfStep 280 = .ok (.iload_n 2, 1) := by decide +kernel
theorem dX4_valueOfStep_281 : decode cX4_valueOfStep 281 = .ok (.iload_n 3, 1) := by decide +kernel
theorem dX4_valueOfStep_282 : decode cX4_valueOfStep 282 = .ok (.idiv, 1) := by decide +kernel
theorem dX4_valueOfStep_283 : decode cX4_valueOfStep 283 = .ok (.ireturn, 1) := by decide +kernel
theorem dX4_valueOfStep_284 : decode cX4_valueOfStep 284 = .ok (.iload_n 3, 1) := by decide +kernel
theorem dX4_valueOfStep_285 : decode cX4_valueOfStep 285 = .ok (.ifCond .ne 7, 3) := by decide +kernel
theorem dX4_valueOfStep_288 : decode cX4_valueOfStep 288 = .ok (.iconst 0, 1) := by decide +kernel
theorem dX4_valueOfStep_289 : decode cX4_valueOfStep 289 = .ok (.goto 6, 3) := by decide +kernel
theorem dX4_valueOfStep_292 : decode cX4_valueOfStep 292 = .ok (.iload_n 2, 1) := by decide +kernel
theorem dX4_valueOfStep_293 : decode cX4_valueOfStep 293 = .ok (.iload_n 3, 1) := by decide +kernel
theorem dX4_valueOfStep_294 : decode cX4_valueOfStep 294 = .ok (.irem, 1) := by decide +kernel
theorem dX4_valueOfStep_295 : decode cX4_valueOfStep 295 = .ok (.ireturn, 1) := by decide +kernel
def fX4_valueOfStep_b207 (s : mS) : Option Int32 :=
  some (nI 1)

def fX4_valueOfStep (x1 : Int32) (x2 : Int32) (x3 : Int32) (s : mS) : Option Int32 :=
  if x1 < 0 then
    if (-x1) = (nI 1) then
      some (-x3)
    else if (-x1) = (nI 33) then
      if x3 = 0 then
        some (nI 1)
      else
        some (nI 0)
    else if (-x1) = (nI 38) then
      if x2 = 0 then
        some (nI 0)
      else
        if x3 = 0 then
          some (nI 0)
        else
          some (nI 1)
    else if (-x1) = (nI 42) then
      some (x2 * x3)
    else if (-x1) = (nI 43) then
      some (x2 + x3)
    else if (-x1) = (nI 45) then
      some (x2 - x3)
    else if (-x1) = (nI 47) then
      if x3 = 0 then
        some (nI 0)
      else
        dvI x2 x3 fun v1 =>
        some v1
    else if (-x1) = (nI 60) then
      if x3 ≤ x2 then
        some (nI 0)
      else
        some (nI 1)
    else if (-x1) = (nI 61) then
      if x2 = x3 then
        some (nI 1)
      else
        some (nI 0)
    else if (-x1) = (nI 62) then
      if x2 ≤ x3 then
        some (nI 0)
      else
        some (nI 1)
    else if (-x1) = (nI 97) then
      some (gI s iL_age)
    else if (-x1) = (nI 100) then
      some (gI s iL_unlike)
    else if (-x1) = (nI 104) then
      some (gI s iL_habit)
    else if (-x1) = (nI 109) then
      some (gI s iL_machine)
    else if (-x1) = (nI 114) then
      some (gI s iL_ribbon)
    else if (-x1) = (nI 116) then
      some (gI s iL_touch)
    else if (-x1) = (nI 124) then
      if x2 = 0 then
        if x3 = 0 then
          some (nI 0)
        else
          fX4_valueOfStep_b207 s
      else
        fX4_valueOfStep_b207 s
    else
      if x3 = 0 then
        some (nI 0)
      else
        rmI x2 x3 fun v2 =>
        some v2
  else
    some x1

set_option maxRecDepth 20000 in
theorem wX4_valueOfStep_b207 {ρ : mRo} {d : Nat} {P : mPo} {V : mS → List mE} (hV : mView LC V)  {res : Int32} {s : mS} (hP : P (some (.int res)) (V s)) (hf : fX4_valueOfStep_b207 s = some res) : mG ρ (mC ρ d) 4 4 cX4_valueOfStep (some .int) P 207 [] [] (V s) := by
  unfold fX4_valueOfStep_b207 at hf
  refine e_iconst (w := (nI 1)) dX4_valueOfStep_207 (by decide) ?_
  refine e_goto 212 dX4_valueOfStep_208 (by decide) ?_
  obtain rfl := Option.some.inj hf
  exact e_iret dX4_valueOfStep_212 trivial hP
set_option maxRecDepth 20000 in
theorem tX4_valueOfStep {ρ : mRo} {d : Nat} {P : mPo} {V : mS → List mE} (hV : mView LC V)  {x1 : Int32} {x2 : Int32} {x3 : Int32} {s : mS} {res : Int32} (hf : fX4_valueOfStep x1 x2 x3 s = some res) (hP : P (some (.int res)) (V s)) : mC ρ (d + 1) 23 [.ref qL, .int x1, .int x2, .int x3] (V s) P := by
  refine ⟨_, rfl, Nat.le_of_ble_eq_true rfl, by decide, ?_⟩
  show mG ρ (mC ρ d) 4 4 cX4_valueOfStep (some .int) P 0 [(0, .ref qL), (1, .int x1), (2, .int x2), (3, .int x3)] [] (V s)
  unfold fX4_valueOfStep at hf
  refine e_iload_n 1 dX4_valueOfStep_0 rfl rfl ?_
  refine e_if_lt 6 dX4_valueOfStep_1 (by decide) hf (fun hf => ?_) (fun hf => ?_)
  · refine e_iload_n 1 dX4_valueOfStep_6 rfl rfl ?_
    refine e_ineg dX4_valueOfStep_7 ?_
    by_cases hc1 : (-x1) = (nI 1)
    · rw [if_pos hc1] at hf
      refine e_look (tgt := 186) (w := (nI 1)) dX4_valueOfStep_8 hc1 (by decide) (by decide) ?_
      refine e_iload_n 3 dX4_valueOfStep_186 rfl rfl ?_
      refine e_ineg dX4_valueOfStep_187 ?_
      obtain rfl := Option.some.inj hf
      exact e_iret dX4_valueOfStep_188 trivial hP
    rw [if_neg hc1] at hf
    by_cases hc33 : (-x1) = (nI 33)
    · rw [if_pos hc33] at hf
      refine e_look (tgt := 189) (w := (nI 33)) dX4_valueOfStep_8 hc33 (by decide) (by decide) ?_
      refine e_iload_n 3 dX4_valueOfStep_189 rfl rfl ?_
      refine e_if_ne 197 dX4_valueOfStep_190 (by decide) hf (fun hf => ?_) (fun hf => ?_)
      · refine e_iconst (w := (nI 0)) dX4_valueOfStep_197 (by decide) ?_
        obtain rfl := Option.some.inj hf
        exact e_iret dX4_valueOfStep_198 trivial hP
      · refine e_iconst (w := (nI 1)) dX4_valueOfStep_193 (by decide) ?_
        refine e_goto 198 dX4_valueOfStep_194 (by decide) ?_
        obtain rfl := Option.some.inj hf
        exact e_iret dX4_valueOfStep_198 trivial hP
    rw [if_neg hc33] at hf
    by_cases hc38 : (-x1) = (nI 38)
    · rw [if_pos hc38] at hf
      refine e_look (tgt := 213) (w := (nI 38)) dX4_valueOfStep_8 hc38 (by decide) (by decide) ?_
      refine e_iload_n 2 dX4_valueOfStep_213 rfl rfl ?_
      refine e_if_eq 225 dX4_valueOfStep_214 (by decide) hf (fun hf => ?_) (fun hf => ?_)
      · refine e_iconst (w := (nI 0)) dX4_valueOfStep_225 (by decide) ?_
        obtain rfl := Option.some.inj hf
        exact e_iret dX4_valueOfStep_226 trivial hP
      · refine e_iload_n 3 dX4_valueOfStep_217 rfl rfl ?_
        refine e_if_eq 225 dX4_valueOfStep_218 (by decide) hf (fun hf => ?_) (fun hf => ?_)
        · refine e_iconst (w := (nI 0)) dX4_valueOfStep_225 (by decide) ?_
          obtain rfl := Option.some.inj hf
          exact e_iret dX4_valueOfStep_226 trivial hP
        · refine e_iconst (w := (nI 1)) dX4_valueOfStep_221 (by decide) ?_
          refine e_goto 226 dX4_valueOfStep_222 (by decide) ?_
          obtain rfl := Option.some.inj hf
          exact e_iret dX4_valueOfStep_226 trivial hP
    rw [if_neg hc38] at hf
    by_cases hc42 : (-x1) = (nI 42)
    · rw [if_pos hc42] at hf
      refine e_look (tgt := 268) (w := (nI 42)) dX4_valueOfStep_8 hc42 (by decide) (by decide) ?_
      refine e_iload_n 2 dX4_valueOfStep_268 rfl rfl ?_
      refine e_iload_n 3 dX4_valueOfStep_269 rfl rfl ?_
      refine e_imul dX4_valueOfStep_270 ?_
      obtain rfl := Option.some.inj hf
      exact e_iret dX4_valueOfStep_271 trivial hP
    rw [if_neg hc42] at hf
    by_cases hc43 : (-x1) = (nI 43)
    · rw [if_pos hc43] at hf
      refine e_look (tgt := 260) (w := (nI 43)) dX4_valueOfStep_8 hc43 (by decide) (by decide) ?_
      refine e_iload_n 2 dX4_valueOfStep_260 rfl rfl ?_
      refine e_iload_n 3 dX4_valueOfStep_261 rfl rfl ?_
      refine e_iadd dX4_valueOfStep_262 ?_
      obtain rfl := Option.some.inj hf
      exact e_iret dX4_valueOfStep_263 trivial hP
    rw [if_neg hc43] at hf
    by_cases hc45 : (-x1) = (nI 45)
    · rw [if_pos hc45] at hf
      refine e_look (tgt := 264) (w := (nI 45)) dX4_valueOfStep_8 hc45 (by decide) (by decide) ?_
      refine e_iload_n 2 dX4_valueOfStep_264 rfl rfl ?_
      refine e_iload_n 3 dX4_valueOfStep_265 rfl rfl ?_
      refine e_isub dX4_valueOfStep_266 ?_
      obtain rfl := Option.some.inj hf
      exact e_iret dX4_valueOfStep_267 trivial hP
    rw [if_neg hc45] at hf
    by_cases hc47 : (-x1) = (nI 47)
    · rw [if_pos hc47] at hf
      refine e_look (tgt := 272) (w := (nI 47)) dX4_valueOfStep_8 hc47 (by decide) (by decide) ?_
      refine e_iload_n 3 dX4_valueOfStep_272 rfl rfl ?_
      refine e_if_ne 280 dX4_valueOfStep_273 (by decide) hf (fun hf => ?_) (fun hf => ?_)
      · refine e_iload_n 2 dX4_valueOfStep_280 rfl rfl ?_
        refine e_iload_n 3 dX4_valueOfStep_281 rfl rfl ?_
        refine e_idivb dX4_valueOfStep_282 hf (fun v1 hf => ?_)
        obtain rfl := Option.some.inj hf
        exact e_iret dX4_valueOfStep_283 trivial hP
      · refine e_iconst (w := (nI 0)) dX4_valueOfStep_276 (by decide) ?_
        refine e_goto 283 dX4_valueOfStep_277 (by decide) ?_
        obtain rfl := Option.some.inj hf
        exact e_iret dX4_valueOfStep_283 trivial hP
    rw [if_neg hc47] at hf
    by_cases hc60 : (-x1) = (nI 60)
    · rw [if_pos hc60] at hf
      refine e_look (tgt := 227) (w := (nI 60)) dX4_valueOfStep_8 hc60 (by decide) (by decide) ?_
      refine e_iload_n 2 dX4_valueOfStep_227 rfl rfl ?_
      refine e_iload_n 3 dX4_valueOfStep_228 rfl rfl ?_
      refine e_icmp_ge 236 dX4_valueOfStep_229 (by decide) hf (fun hf => ?_) (fun hf => ?_)
      · refine e_iconst (w := (nI 0)) dX4_valueOfStep_236 (by decide) ?_
        obtain rfl := Option.some.inj hf
        exact e_iret dX4_valueOfStep_237 trivial hP
      · refine e_iconst (w := (nI 1)) dX4_valueOfStep_232 (by decide) ?_
        refine e_goto 237 dX4_valueOfStep_233 (by decide) ?_
        obtain rfl := Option.some.inj hf
        exact e_iret dX4_valueOfStep_237 trivial hP
    rw [if_neg hc60] at hf
    by_cases hc61 : (-x1) = (nI 61)
    · rw [if_pos hc61] at hf
      refine e_look (tgt := 238) (w := (nI 61)) dX4_valueOfStep_8 hc61 (by decide) (by decide) ?_
      refine e_iload_n 2 dX4_valueOfStep_238 rfl rfl ?_
      refine e_iload_n 3 dX4_valueOfStep_239 rfl rfl ?_
      refine e_icmp_ne 247 dX4_valueOfStep_240 (by decide) hf (fun hf => ?_) (fun hf => ?_)
      · refine e_iconst (w := (nI 0)) dX4_valueOfStep_247 (by decide) ?_
        obtain rfl := Option.some.inj hf
        exact e_iret dX4_valueOfStep_248 trivial hP
      · refine e_iconst (w := (nI 1)) dX4_valueOfStep_243 (by decide) ?_
        refine e_goto 248 dX4_valueOfStep_244 (by decide) ?_
        obtain rfl := Option.some.inj hf
        exact e_iret dX4_valueOfStep_248 trivial hP
    rw [if_neg hc61] at hf
    by_cases hc62 : (-x1) = (nI 62)
    · rw [if_pos hc62] at hf
      refine e_look (tgt := 249) (w := (nI 62)) dX4_valueOfStep_8 hc62 (by decide) (by decide) ?_
      refine e_iload_n 2 dX4_valueOfStep_249 rfl rfl ?_
      refine e_iload_n 3 dX4_valueOfStep_250 rfl rfl ?_
      refine e_icmp_le 258 dX4_valueOfStep_251 (by decide) hf (fun hf => ?_) (fun hf => ?_)
      · refine e_iconst (w := (nI 0)) dX4_valueOfStep_258 (by decide) ?_
        obtain rfl := Option.some.inj hf
        exact e_iret dX4_valueOfStep_259 trivial hP
      · refine e_iconst (w := (nI 1)) dX4_valueOfStep_254 (by decide) ?_
        refine e_goto 259 dX4_valueOfStep_255 (by decide) ?_
        obtain rfl := Option.some.inj hf
        exact e_iret dX4_valueOfStep_259 trivial hP
    rw [if_neg hc62] at hf
    by_cases hc97 : (-x1) = (nI 97)
    · rw [if_pos hc97] at hf
      refine e_look (tgt := 156) (w := (nI 97)) dX4_valueOfStep_8 hc97 (by decide) (by decide) ?_
      refine e_aload_n 0 dX4_valueOfStep_156 rfl rfl ?_
      refine e_geti hV dX4_valueOfStep_157 rfl lc_L rfl ?_
      obtain rfl := Option.some.inj hf
      exact e_iret dX4_valueOfStep_160 trivial hP
    rw [if_neg hc97] at hf
    by_cases hc100 : (-x1) = (nI 100)
    · rw [if_pos hc100] at hf
      refine e_look (tgt := 171) (w := (nI 100)) dX4_valueOfStep_8 hc100 (by decide) (by decide) ?_
      refine e_aload_n 0 dX4_valueOfStep_171 rfl rfl ?_
      refine e_geti hV dX4_valueOfStep_172 rfl lc_L rfl ?_
      obtain rfl := Option.some.inj hf
      exact e_iret dX4_valueOfStep_175 trivial hP
    rw [if_neg hc100] at hf
    by_cases hc104 : (-x1) = (nI 104)
    · rw [if_pos hc104] at hf
      refine e_look (tgt := 166) (w := (nI 104)) dX4_valueOfStep_8 hc104 (by decide) (by decide) ?_
      refine e_aload_n 0 dX4_valueOfStep_166 rfl rfl ?_
      refine e_geti hV dX4_valueOfStep_167 rfl lc_L rfl ?_
      obtain rfl := Option.some.inj hf
      exact e_iret dX4_valueOfStep_170 trivial hP
    rw [if_neg hc104] at hf
    by_cases hc109 : (-x1) = (nI 109)
    · rw [if_pos hc109] at hf
      refine e_look (tgt := 181) (w := (nI 109)) dX4_valueOfStep_8 hc109 (by decide) (by decide) ?_
      refine e_aload_n 0 dX4_valueOfStep_181 rfl rfl ?_
      refine e_geti hV dX4_valueOfStep_182 rfl lc_L rfl ?_
      obtain rfl := Option.some.inj hf
      exact e_iret dX4_valueOfStep_185 trivial hP
    rw [if_neg hc109] at hf
    by_cases hc114 : (-x1) = (nI 114)
    · rw [if_pos hc114] at hf
      refine e_look (tgt := 176) (w := (nI 114)) dX4_valueOfStep_8 hc114 (by decide) (by decide) ?_
      refine e_aload_n 0 dX4_valueOfStep_176 rfl rfl ?_
      refine e_geti hV dX4_valueOfStep_177 rfl lc_L rfl ?_
      obtain rfl := Option.some.inj hf
      exact e_iret dX4_valueOfStep_180 trivial hP
    rw [if_neg hc114] at hf
    by_cases hc116 : (-x1) = (nI 116)
    · rw [if_pos hc116] at hf
      refine e_look (tgt := 161) (w := (nI 116)) dX4_valueOfStep_8 hc116 (by decide) (by decide) ?_
      refine e_aload_n 0 dX4_valueOfStep_161 rfl rfl ?_
      refine e_geti hV dX4_valueOfStep_162 rfl lc_L rfl ?_
      obtain rfl := Option.some.inj hf
      exact e_iret dX4_valueOfStep_165 trivial hP
    rw [if_neg hc116] at hf
    by_cases hc124 : (-x1) = (nI 124)
    · rw [if_pos hc124] at hf
      refine e_look (tgt := 199) (w := (nI 124)) dX4_valueOfStep_8 hc124 (by decide) (by decide) ?_
      refine e_iload_n 2 dX4_valueOfStep_199 rfl rfl ?_
      refine e_if_ne 207 dX4_valueOfStep_200 (by decide) hf (fun hf => ?_) (fun hf => ?_)
      · refine e_pick [] rfl ?_
        exact wX4_valueOfStep_b207 hV hP  hf
      · refine e_iload_n 3 dX4_valueOfStep_203 rfl rfl ?_
        refine e_if_eq 211 dX4_valueOfStep_204 (by decide) hf (fun hf => ?_) (fun hf => ?_)
        · refine e_iconst (w := (nI 0)) dX4_valueOfStep_211 (by decide) ?_
          obtain rfl := Option.some.inj hf
          exact e_iret dX4_valueOfStep_212 trivial hP
        · refine e_pick [] rfl ?_
          exact wX4_valueOfStep_b207 hV hP  hf
    rw [if_neg hc124] at hf
    refine e_lookD (tgt := 284) (ks := [(nI 1), (nI 33), (nI 38), (nI 42), (nI 43), (nI 45), (nI 47), (nI 60), (nI 61), (nI 62), (nI 97), (nI 100), (nI 104), (nI 109), (nI 114), (nI 116), (nI 124)]) dX4_valueOfStep_8 (by decide) (by decide) (fun z hz => ?_) ?_
    · simp only [List.mem_cons, List.not_mem_nil, or_false] at hz
      rcases hz with rfl | rfl | rfl | rfl | rfl | rfl | rfl | rfl | rfl | rfl | rfl | rfl | rfl | rfl | rfl | rfl | rfl
      · exact hc1
      · exact hc33
      · exact hc38
      · exact hc42
      · exact hc43
      · exact hc45
      · exact hc47
      · exact hc60
      · exact hc61
      · exact hc62
      · exact hc97
      · exact hc100
      · exact hc104
      · exact hc109
      · exact hc114
      · exact hc116
      · exact hc124
    refine e_iload_n 3 dX4_valueOfStep_284 rfl rfl ?_
    refine e_if_ne 292 dX4_valueOfStep_285 (by decide) hf (fun hf => ?_) (fun hf => ?_)
    · refine e_iload_n 2 dX4_valueOfStep_292 rfl rfl ?_
      refine e_iload_n 3 dX4_valueOfStep_293 rfl rfl ?_
      refine e_iremb dX4_valueOfStep_294 hf (fun v2 hf => ?_)
      obtain rfl := Option.some.inj hf
      exact e_iret dX4_valueOfStep_295 trivial hP
    · refine e_iconst (w := (nI 0)) dX4_valueOfStep_288 (by decide) ?_
      refine e_goto 295 dX4_valueOfStep_289 (by decide) ?_
      obtain rfl := Option.some.inj hf
      exact e_iret dX4_valueOfStep_295 trivial hP
  · refine e_iload_n 1 dX4_valueOfStep_4 rfl rfl ?_
    obtain rfl := Option.some.inj hf
    exact e_iret dX4_valueOfStep_5 trivial hP

theorem dX4_value_0 : decode cX4_value 0 = .ok (.iconst 0, 1) := by decide +kernel
theorem dX4_value_1 : decode cX4_value 1 = .ok (.istore_n 1, 1) := by decide +kernel
theorem dX4_value_2 : decode cX4_value 2 = .ok (.iconst 0, 1) := by decide +kernel
theorem dX4_value_3 : decode cX4_value 3 = .ok (.istore_n 2, 1) := by decide +kernel
theorem dX4_value_4 : decode cX4_value 4 = .ok (.iload_n 2, 1) := by decide +kernel
theorem dX4_value_5 : decode cX4_value 5 = .ok (.aload_n 0, 1) := by decide +kernel
theorem dX4_value_6 : decode cX4_value 6 = .ok (.getfield 29, 3) := by decide +kernel
theorem dX4_value_9 : decode cX4_value 9 = .ok (.if_icmp .ge 124, 3) := by decide +kernel
theorem dX4_value_12 : decode cX4_value 12 = .ok (.aload_n 0, 1) := by decide +kernel
theorem dX4_value_13 : decode cX4_value 13 = .ok (.getfield 9, 3) := by decide +kernel
theorem dX4_value_16 : decode cX4_value 16 = .ok (.iload_n 2, 1) := by decide +kernel
theorem dX4_value_17 : decode cX4_value 17 = .ok (.iaload, 1) := by decide +kernel
theorem dX4_value_18 : decode cX4_value 18 = .ok (.istore_n 3, 1) := by decide +kernel
theorem dX4_value_19 : decode cX4_value 19 = .ok (.iload_n 3, 1) := by decide +kernel
theorem dX4_value_20 : decode cX4_value 20 = .ok (.invokestatic 34, 3) := by decide +kernel
theorem dX4_value_23 : decode cX4_value 23 = .ok (.istore 4, 2) := by decide +kernel
theorem dX4_value_25 : decode cX4_value 25 = .ok (.iload_n 1, 1) := by decide +kernel
theorem dX4_value_26 : decode cX4_value 26 = .ok (.iload 4, 2) := by decide +kernel
theorem dX4_value_28 : decode cX4_value 28 = .ok (.if_icmp .lt 9, 3) := by decide +kernel
theorem dX4_value_31 : decode cX4_value 31 = .ok (.iload_n 1, 1) := by decide +kernel
theorem dX4_value_32 : decode cX4_value 32 = .ok (.bipush 64, 2) := by decide +kernel
theorem dX4_value_34 : decode cX4_value 34 = .ok (.if_icmp .lt 5, 3) := by decide +kernel
theorem dX4_value_37 : decode cX4_value 37 = .ok (.iconst 0, 1) := by decide +kernel
theorem dX4_value_38 : decode cX4_value 38 = .ok (.ireturn, 1) := by decide +kernel
theorem dX4_value_39 : decode cX4_value 39 = .ok (.iload 4, 2) := by decide +kernel
theorem dX4_value_41 : decode cX4_value 41 = .ok (.ifCond .le 14, 3) := by decide +kernel
theorem dX4_value_44 : decode cX4_value 44 = .ok (.aload_n 0, 1) := by decide +kernel
theorem dX4_value_45 : decode cX4_value 45 = .ok (.getfield 15, 3) := by decide +kernel
theorem dX4_value_48 : decode cX4_value 48 = .ok (.iload_n 1, 1) := by decide +kernel
theorem dX4_value_49 : decode cX4_value 49 = .ok (.iconst 1, 1) := by decide +kernel
theorem dX4_value_50 : decode cX4_value 50 = .ok (.isub, 1) := by decide +kernel
theorem dX4_value_51 : decode cX4_value 51 = .ok (.iaload, 1) := by decide +kernel
theorem dX4_value_52 : decode cX4_value 52 = .ok (.goto 4, 3) := by decide +kernel
theorem dX4_value_55 : decode cX4_value 55 = .ok (.iconst 0, 1) := by decide +kernel
theorem dX4_value_56 : decode cX4_value 56 = .ok (.istore 5, 2) := by decide +kernel
theorem dX4_value_58 : decode cX4_value 58 = .ok (.iload 4, 2) := by decide +kernel
theorem dX4_value_60 : decode cX4_value 60 = .ok (.iconst 1, 1) := by decide +kernel
theorem dX4_value_61 : decode cX4_value 61 = .ok (.if_icmp .le 14, 3) := by decide +kernel
theorem dX4_value_64 : decode cX4_value 64 = .ok (.aload_n 0, 1) := by decide +kernel
theorem dX4_value_65 : decode cX4_value 65 = .ok (.getfield 15, 3) := by decide +kernel
theorem dX4_value_68 : decode cX4_value 68 = .ok (.iload_n 1, 1) := by decide +kernel
theorem dX4_value_69 : decode cX4_value 69 = .ok (.iconst 2, 1) := by decide +kernel
theorem dX4_value_70 : decode cX4_value 70 = .ok (.isub, 1) := by decide +kernel
theorem dX4_value_71 : decode cX4_value 71 = .ok (.iaload, 1) := by decide +kernel
theorem dX4_value_72 : decode cX4_value 72 = .ok (.goto 4, 3) := by decide +kernel
theorem dX4_value_75 : decode cX4_value 75 = .ok (.iconst 0, 1) := by decide +kernel
theorem dX4_value_76 : decode cX4_value 76 = .ok (.istore 6, 2) := by decide +kernel
theorem dX4_value_78 : decode cX4_value 78 = .ok (.iload_n 1, 1) := by decide +kernel
theorem dX4_value_79 : decode cX4_value 79 = .ok (.iload 4, 2) := by decide +kernel
theorem dX4_value_81 : decode cX4_value 81 = .ok (.isub, 1) := by decide +kernel
theorem dX4_value_82 : decode cX4_value 82 = .ok (.istore_n 1, 1) := by decide +kernel
theorem dX4_value_83 : decode cX4_value 83 = .ok (.iload_n 3, 1) := by decide +kernel
theorem dX4_value_84 : decode cX4_value 84 = .ok (.bipush (-2), 2) := by decide +kernel
theorem dX4_value_86 : decode cX4_value 86 = .ok (.if_icmp .eq 14, 3) := by decide +kernel
theorem dX4_value_89 : decode cX4_value 89 = .ok (.iload_n 3, 1) := by decide +kernel
theorem dX4_value_90 : decode cX4_value 90 = .ok (.bipush (-3), 2) := by decide +kernel
theorem dX4_value_92 : decode cX4_value 92 = .ok (.if_icmp .ne 11, 3) := by decide +kernel
theorem dX4_value_95 : decode cX4_value 95 = .ok (.iload 6, 2) := by decide +kernel
theorem dX4_value_97 : decode cX4_value 97 = .ok (.ifCond .eq 6, 3) := by decide +kernel
theorem dX4_value_100 : decode cX4_value 100 = .ok (.iload 5, 2) := by decide +kernel
theorem dX4_value_102 : decode cX4_value 102 = .ok (.ireturn, 1) := by decide +kernel
theorem dX4_value_103 : decode cX4_value 103 = .ok (.iload_n 3, 1) := by decide +kernel
theorem dX4_value_104 : decode cX4_value 104 = .ok (.bipush (-3), 2) := by decide +kernel
theorem dX4_value_106 : decode cX4_value 106 = .ok (.if_icmp .eq 21, 3) := by decide +kernel
theorem dX4_value_109 : decode cX4_value 109 = .ok (.aload_n 0, 1) := by decide +kernel
theorem dX4_value_110 : decode cX4_value 110 = .ok (.getfield 15, 3) := by decide +kernel
theorem dX4_value_113 : decode cX4_value 113 = .ok (.iload_n 1, 1) := by decide +kernel
theorem dX4_value_114 : decode cX4_value 114 = .ok (.aload_n 0, 1) := by decide +kernel
theorem dX4_value_115 : decode cX4_value 115 = .ok (.iload_n 3, 1) := by decide +kernel
theorem dX4_value_116 : decode cX4_value 116 = .ok (.iload 6, 2) := by decide +kernel
theorem dX4_value_118 : decode cX4_value 118 = .ok (.iload 5, 2) := by decide +kernel
theorem dX4_value_120 : decode cX4_value 120 = .ok (.invokevirtual 38, 3) := by decide +kernel
theorem dX4_value_123 : decode cX4_value 123 = .ok (.iastore, 1) := by decide +kernel
theorem dX4_value_124 : decode cX4_value 124 = .ok (.iinc 1 1, 3) := by decide +kernel
theorem dX4_value_127 : decode cX4_value 127 = .ok (.iinc 2 1, 3) := by decide +kernel
theorem dX4_value_130 : decode cX4_value 130 = .ok (.goto (-126), 3) := by decide +kernel
theorem dX4_value_133 : decode cX4_value 133 = .ok (.iconst 0, 1) := by decide +kernel
theorem dX4_value_134 : decode cX4_value 134 = .ok (.ireturn, 1) := by decide +kernel
def fX4_value_b127 (K4 : Int32 → Int32 → mS → Option (Int32 × mS)) (y1 : Int32) (y2 : Int32) (s : mS) : Option (Int32 × mS) :=
  bnd (y2 + (nI 1)) fun v10 =>
  K4 y1 v10 s

def fX4_value_b103 (K4 : Int32 → Int32 → mS → Option (Int32 × mS)) (y1 : Int32) (y2 : Int32) (y3 : Int32) (y5 : Int32) (y6 : Int32) (s : mS) : Option (Int32 × mS) :=
  if y3 = (-3) then
    fX4_value_b127 K4 y1 y2 s
  else
    bO (fX4_valueOfStep y3 y6 y5 s) fun r11 =>
    stA s aL_stack 64 y1 r11 fun s12 =>
    bnd (y1 + (nI 1)) fun v13 =>
    fX4_value_b127 K4 v13 y2 s12

def fX4_value_b76 (K4 : Int32 → Int32 → mS → Option (Int32 × mS)) (y1 : Int32) (y2 : Int32) (y3 : Int32) (y4 : Int32) (y5 : Int32) (z0 : Int32) (s : mS) : Option (Int32 × mS) :=
  bnd z0 fun v8 =>
  bnd (y1 - y4) fun v9 =>
  if y3 = (-2) then
    some (y5, s)
  else
    if y3 = (-3) then
      if v8 = 0 then
        fX4_value_b103 K4 v9 y2 y3 y5 v8 s
      else
        some (y5, s)
    else
      fX4_value_b103 K4 v9 y2 y3 y5 v8 s

def fX4_value_b56 (K4 : Int32 → Int32 → mS → Option (Int32 × mS)) (y1 : Int32) (y2 : Int32) (y3 : Int32) (y4 : Int32) (z0 : Int32) (s : mS) : Option (Int32 × mS) :=
  bnd z0 fun v7 =>
  if y4 ≤ (nI 1) then
    fX4_value_b76 K4 y1 y2 y3 y4 v7 (nI 0) s
  else
    ldA s aL_stack 64 (y1 - (nI 2)) fun v14 =>
    fX4_value_b76 K4 y1 y2 y3 y4 v7 v14 s

def fX4_value_b4 : Nat → Int32 → Int32 → mS → Option (Int32 × mS)
  | 0, _, _, _ => none
  | k + 1, y1, y2, s =>
    if (gI s iL_stepsSize) ≤ y2 then
      some ((nI 0), s)
    else
      ldA s aL_steps 121 y2 fun v3 =>
      bnd v3 fun v4 =>
      bO (fX4_operandsOf v4 s) fun r5 =>
      bnd r5 fun v6 =>
      if y1 < v6 then
        some ((nI 0), s)
      else
        if y1 < (nI 64) then
          if v6 ≤ 0 then
            fX4_value_b56 (fun u0 u1 u2 => fX4_value_b4 k u0 u1 u2) y1 y2 v4 v6 (nI 0) s
          else
            ldA s aL_stack 64 (y1 - (nI 1)) fun v15 =>
            fX4_value_b56 (fun u0 u1 u2 => fX4_value_b4 k u0 u1 u2) y1 y2 v4 v6 v15 s
        else
          some ((nI 0), s)

def fX4_value (s : mS) : Option (Int32 × mS) :=
  bnd (nI 0) fun v1 =>
  bnd (nI 0) fun v2 =>
  fX4_value_b4 mFu v1 v2 s

set_option maxRecDepth 20000 in
theorem wX4_value_b127 {ρ : mRo} {d : Nat} {P : mPo} {V : mS → List mE} (hV : mView LC V)  {res : (Int32 × mS)} {K4 : Int32 → Int32 → mS → Option (Int32 × mS)} (hK4 : ∀ (y1 : Int32) (y2 : Int32) (s : mS), K4 y1 y2 s = some res → mG ρ (mC ρ (d + 2)) 4 7 cX4_value (some .int) P 4 [(0, .ref qL), (1, .int y1), (2, .int y2)] [] (V s)) (hP : P (some (.int res.1)) (V res.2)) (y1 : Int32) (y2 : Int32) (s : mS) (hf : fX4_value_b127 K4 y1 y2 s = some res) : mG ρ (mC ρ (d + 2)) 4 7 cX4_value (some .int) P 127 [(0, .ref qL), (1, .int y1), (2, .int y2)] [] (V s) := by
  unfold fX4_value_b127 at hf
  refine e_iinc 2 dX4_value_127 (by decide) rfl hf (fun v10 hf => ?_)
  refine e_goto 4 dX4_value_130 (by decide) ?_
  refine e_pick [1, 2, 0] rfl ?_
  exact hK4 y1 v10 s hf
set_option maxRecDepth 20000 in
theorem wX4_value_b103 {ρ : mRo} {d : Nat} {P : mPo} {V : mS → List mE} (hV : mView LC V)  {res : (Int32 × mS)} {K4 : Int32 → Int32 → mS → Option (Int32 × mS)} (hK4 : ∀ (y1 : Int32) (y2 : Int32) (s : mS), K4 y1 y2 s = some res → mG ρ (mC ρ (d + 2)) 4 7 cX4_value (some .int) P 4 [(0, .ref qL), (1, .int y1), (2, .int y2)] [] (V s)) (hP : P (some (.int res.1)) (V res.2)) (y1 : Int32) (y2 : Int32) (y3 : Int32) (y5 : Int32) (y6 : Int32) (s : mS) (hf : fX4_value_b103 K4 y1 y2 y3 y5 y6 s = some res) : mG ρ (mC ρ (d + 2)) 4 7 cX4_value (some .int) P 103 [(0, .ref qL), (1, .int y1), (2, .int y2), (3, .int y3), (5, .int y5), (6, .int y6)] [] (V s) := by
  unfold fX4_value_b103 at hf
  refine e_iload_n 3 dX4_value_103 rfl rfl ?_
  refine e_bipush (w := (-3)) dX4_value_104 (by decide) ?_
  refine e_icmp_eq 127 dX4_value_106 (by decide) hf (fun hf => ?_) (fun hf => ?_)
  · refine e_pick [0, 1, 2] rfl ?_
    exact wX4_value_b127 hV hK4 hP y1 y2 s hf
  · refine e_aload_n 0 dX4_value_109 rfl rfl ?_
    refine e_getr hV dX4_value_110 rfl lc_L rfl ?_
    refine e_iload_n 1 dX4_value_113 rfl rfl ?_
    refine e_aload_n 0 dX4_value_114 rfl rfl ?_
    refine e_iload_n 3 dX4_value_115 rfl rfl ?_
    refine e_iload 5 dX4_value_116 rfl ?_
    refine e_iload 4 dX4_value_118 rfl ?_
    obtain ⟨r11, hg, hf⟩ := bO_some hf
    refine e_callV (as := [.int y3, .int y6, .int y5]) (v := (some (.int r11))) (s' := s) hV dX4_value_120 (Or.inl rfl) rfl rfl rfl rfl (Nat.le_of_ble_eq_true rfl) lc_L rfl rfl (fun Q hQ => tX4_valueOfStep (d := (d + 1)) hV  hg hQ) ?_
    refine e_iast hV dX4_value_123 lc_L_stack hf (fun s12 hf => ?_)
    refine e_iinc 1 dX4_value_124 (by decide) rfl hf (fun v13 hf => ?_)
    refine e_pick [1, 0, 2] rfl ?_
    exact wX4_value_b127 hV hK4 hP v13 y2 s12 hf
set_option maxRecDepth 20000 in
theorem wX4_value_b76 {ρ : mRo} {d : Nat} {P : mPo} {V : mS → List mE} (hV : mView LC V)  {res : (Int32 × mS)} {K4 : Int32 → Int32 → mS → Option (Int32 × mS)} (hK4 : ∀ (y1 : Int32) (y2 : Int32) (s : mS), K4 y1 y2 s = some res → mG ρ (mC ρ (d + 2)) 4 7 cX4_value (some .int) P 4 [(0, .ref qL), (1, .int y1), (2, .int y2)] [] (V s)) (hP : P (some (.int res.1)) (V res.2)) (y1 : Int32) (y2 : Int32) (y3 : Int32) (y4 : Int32) (y5 : Int32) (z0 : Int32) (s : mS) (hf : fX4_value_b76 K4 y1 y2 y3 y4 y5 z0 s = some res) : mG ρ (mC ρ (d + 2)) 4 7 cX4_value (some .int) P 76 [(0, .ref qL), (1, .int y1), (2, .int y2), (3, .int y3), (4, .int y4), (5, .int y5)] [.int z0] (V s) := by
  unfold fX4_value_b76 at hf
  refine e_istore dX4_value_76 (by decide) hf (fun v8 hf => ?_)
  refine e_iload_n 2 dX4_value_78 rfl rfl ?_
  refine e_iload 5 dX4_value_79 rfl ?_
  refine e_isub dX4_value_81 ?_
  refine e_istore_n dX4_value_82 rfl (by decide) hf (fun v9 hf => ?_)
  refine e_iload_n 4 dX4_value_83 rfl rfl ?_
  refine e_bipush (w := (-2)) dX4_value_84 (by decide) ?_
  refine e_icmp_eq 100 dX4_value_86 (by decide) hf (fun hf => ?_) (fun hf => ?_)
  · refine e_iload 6 dX4_value_100 rfl ?_
    obtain rfl := Option.some.inj hf
    exact e_iret dX4_value_102 trivial hP
  · refine e_iload_n 4 dX4_value_89 rfl rfl ?_
    refine e_bipush (w := (-3)) dX4_value_90 (by decide) ?_
    refine e_icmp_ne 103 dX4_value_92 (by decide) hf (fun hf => ?_) (fun hf => ?_)
    · refine e_pick [2, 0, 3, 4, 6, 1] rfl ?_
      exact wX4_value_b103 hV hK4 hP v9 y2 y3 y5 v8 s hf
    · refine e_iload 1 dX4_value_95 rfl ?_
      refine e_if_eq 103 dX4_value_97 (by decide) hf (fun hf => ?_) (fun hf => ?_)
      · refine e_pick [2, 0, 3, 4, 6, 1] rfl ?_
        exact wX4_value_b103 hV hK4 hP v9 y2 y3 y5 v8 s hf
      · refine e_iload 6 dX4_value_100 rfl ?_
        obtain rfl := Option.some.inj hf
        exact e_iret dX4_value_102 trivial hP
set_option maxRecDepth 20000 in
theorem wX4_value_b56 {ρ : mRo} {d : Nat} {P : mPo} {V : mS → List mE} (hV : mView LC V)  {res : (Int32 × mS)} {K4 : Int32 → Int32 → mS → Option (Int32 × mS)} (hK4 : ∀ (y1 : Int32) (y2 : Int32) (s : mS), K4 y1 y2 s = some res → mG ρ (mC ρ (d + 2)) 4 7 cX4_value (some .int) P 4 [(0, .ref qL), (1, .int y1), (2, .int y2)] [] (V s)) (hP : P (some (.int res.1)) (V res.2)) (y1 : Int32) (y2 : Int32) (y3 : Int32) (y4 : Int32) (z0 : Int32) (s : mS) (hf : fX4_value_b56 K4 y1 y2 y3 y4 z0 s = some res) : mG ρ (mC ρ (d + 2)) 4 7 cX4_value (some .int) P 56 [(0, .ref qL), (1, .int y1), (2, .int y2), (3, .int y3), (4, .int y4)] [.int z0] (V s) := by
  unfold fX4_value_b56 at hf
  refine e_istore dX4_value_56 (by decide) hf (fun v7 hf => ?_)
  refine e_iload 5 dX4_value_58 rfl ?_
  refine e_iconst (w := (nI 1)) dX4_value_60 (by decide) ?_
  refine e_icmp_le 75 dX4_value_61 (by decide) hf (fun hf => ?_) (fun hf => ?_)
  · refine e_iconst (w := (nI 0)) dX4_value_75 (by decide) ?_
    refine e_pick [1, 2, 3, 4, 5, 0] rfl ?_
    exact wX4_value_b76 hV hK4 hP y1 y2 y3 y4 v7 (nI 0) s hf
  · refine e_aload_n 1 dX4_value_64 rfl rfl ?_
    refine e_getr hV dX4_value_65 rfl lc_L rfl ?_
    refine e_iload_n 2 dX4_value_68 rfl rfl ?_
    refine e_iconst (w := (nI 2)) dX4_value_69 (by decide) ?_
    refine e_isub dX4_value_70 ?_
    refine e_iald hV dX4_value_71 lc_L_stack hf (fun v14 hf => ?_)
    refine e_goto 76 dX4_value_72 (by decide) ?_
    refine e_pick [1, 2, 3, 4, 5, 0] rfl ?_
    exact wX4_value_b76 hV hK4 hP y1 y2 y3 y4 v7 v14 s hf
set_option maxRecDepth 20000 in
theorem wX4_value_b4 {ρ : mRo} {d : Nat} {P : mPo} {V : mS → List mE} (hV : mView LC V)  {res : (Int32 × mS)} (hP : P (some (.int res.1)) (V res.2)) : ∀ (k : Nat) (y1 : Int32) (y2 : Int32) (s : mS), fX4_value_b4 k y1 y2 s = some res → mG ρ (mC ρ (d + 2)) 4 7 cX4_value (some .int) P 4 [(0, .ref qL), (1, .int y1), (2, .int y2)] [] (V s) := by
  intro k
  induction k with
  | zero => intro y1 y2 s hf; rw [fX4_value_b4] at hf; cases hf
  | succ k ih =>
    intro y1 y2 s hf
    rw [fX4_value_b4] at hf
    refine e_iload_n 2 dX4_value_4 rfl rfl ?_
    refine e_aload_n 0 dX4_value_5 rfl rfl ?_
    refine e_geti hV dX4_value_6 rfl lc_L rfl ?_
    refine e_icmp_ge 133 dX4_value_9 (by decide) hf (fun hf => ?_) (fun hf => ?_)
    · refine e_iconst (w := (nI 0)) dX4_value_133 (by decide) ?_
      obtain rfl := Option.some.inj hf
      exact e_iret dX4_value_134 trivial hP
    · refine e_aload_n 0 dX4_value_12 rfl rfl ?_
      refine e_getr hV dX4_value_13 rfl lc_L rfl ?_
      refine e_iload_n 2 dX4_value_16 rfl rfl ?_
      refine e_iald hV dX4_value_17 lc_L_steps hf (fun v3 hf => ?_)
      refine e_istore_n dX4_value_18 rfl (by decide) hf (fun v4 hf => ?_)
      refine e_iload_n 0 dX4_value_19 rfl rfl ?_
      obtain ⟨r5, hg, hf⟩ := bO_some hf
      refine e_callS (as := [.int v4]) (v := (some (.int r5))) (s' := s) dX4_value_20 rfl rfl rfl rfl rfl (Nat.le_of_ble_eq_true rfl) (fun Q hQ => tX4_operandsOf (d := d) hV  hg hQ) ?_
      refine e_istore dX4_value_23 (by decide) hf (fun v6 hf => ?_)
      refine e_iload_n 3 dX4_value_25 rfl rfl ?_
      refine e_iload 0 dX4_value_26 rfl ?_
      refine e_icmp_lt 37 dX4_value_28 (by decide) hf (fun hf => ?_) (fun hf => ?_)
      · refine e_iconst (w := (nI 0)) dX4_value_37 (by decide) ?_
        obtain rfl := Option.some.inj hf
        exact e_iret dX4_value_38 trivial hP
      · refine e_iload_n 3 dX4_value_31 rfl rfl ?_
        refine e_bipush (w := (nI 64)) dX4_value_32 (by decide) ?_
        refine e_icmp_lt 39 dX4_value_34 (by decide) hf (fun hf => ?_) (fun hf => ?_)
        · refine e_iload 0 dX4_value_39 rfl ?_
          refine e_if_le 55 dX4_value_41 (by decide) hf (fun hf => ?_) (fun hf => ?_)
          · refine e_iconst (w := (nI 0)) dX4_value_55 (by decide) ?_
            refine e_pick [2, 3, 4, 1, 0] rfl ?_
            exact wX4_value_b56 hV ih hP y1 y2 v4 v6 (nI 0) s hf
          · refine e_aload_n 2 dX4_value_44 rfl rfl ?_
            refine e_getr hV dX4_value_45 rfl lc_L rfl ?_
            refine e_iload_n 3 dX4_value_48 rfl rfl ?_
            refine e_iconst (w := (nI 1)) dX4_value_49 (by decide) ?_
            refine e_isub dX4_value_50 ?_
            refine e_iald hV dX4_value_51 lc_L_stack hf (fun v15 hf => ?_)
            refine e_goto 56 dX4_value_52 (by decide) ?_
            refine e_pick [2, 3, 4, 1, 0] rfl ?_
            exact wX4_value_b56 hV ih hP y1 y2 v4 v6 v15 s hf
        · refine e_iconst (w := (nI 0)) dX4_value_37 (by decide) ?_
          obtain rfl := Option.some.inj hf
          exact e_iret dX4_value_38 trivial hP
set_option maxRecDepth 20000 in
theorem tX4_value {ρ : mRo} {d : Nat} {P : mPo} {V : mS → List mE} (hV : mView LC V)  {s : mS} {res : (Int32 × mS)} (hf : fX4_value s = some res) (hP : P (some (.int res.1)) (V res.2)) : mC ρ (d + 3) 21 [.ref qL] (V s) P := by
  refine ⟨_, rfl, Nat.le_of_ble_eq_true rfl, by decide, ?_⟩
  show mG ρ (mC ρ (d + 2)) 4 7 cX4_value (some .int) P 0 [(0, .ref qL)] [] (V s)
  unfold fX4_value at hf
  refine e_iconst (w := (nI 0)) dX4_value_0 (by decide) ?_
  refine e_istore_n dX4_value_1 rfl (by decide) hf (fun v1 hf => ?_)
  refine e_iconst (w := (nI 0)) dX4_value_2 (by decide) ?_
  refine e_istore_n dX4_value_3 rfl (by decide) hf (fun v2 hf => ?_)
  refine e_pick [2, 1, 0] rfl ?_
  exact wX4_value_b4 hV hP mFu v1 v2 s hf

theorem dX5_copy_0 : decode cX5_copy 0 = .ok (.aload_n 0, 1) := by decide +kernel
theorem dX5_copy_1 : decode cX5_copy 1 = .ok (.aload_n 1, 1) := by decide +kernel
theorem dX5_copy_2 : decode cX5_copy 2 = .ok (.getfield 15, 3) := by decide +kernel
theorem dX5_copy_5 : decode cX5_copy 5 = .ok (.putfield 15, 3) := by decide +kernel
theorem dX5_copy_8 : decode cX5_copy 8 = .ok (.aload_n 0, 1) := by decide +kernel
theorem dX5_copy_9 : decode cX5_copy 9 = .ok (.aload_n 1, 1) := by decide +kernel
theorem dX5_copy_10 : decode cX5_copy 10 = .ok (.getfield 18, 3) := by decide +kernel
theorem dX5_copy_13 : decode cX5_copy 13 = .ok (.putfield 18, 3) := by decide +kernel
theorem dX5_copy_16 : decode cX5_copy 16 = .ok (.aload_n 0, 1) := by decide +kernel
theorem dX5_copy_17 : decode cX5_copy 17 = .ok (.aload_n 1, 1) := by decide +kernel
theorem dX5_copy_18 : decode cX5_copy 18 = .ok (.getfield 21, 3) := by decide +kernel
theorem dX5_copy_21 : decode cX5_copy 21 = .ok (.putfield 21, 3) := by decide +kernel
theorem dX5_copy_24 : decode cX5_copy 24 = .ok (.aload_n 0, 1) := by decide +kernel
theorem dX5_copy_25 : decode cX5_copy 25 = .ok (.aload_n 1, 1) := by decide +kernel
theorem dX5_copy_26 : decode cX5_copy 26 = .ok (.getfield 24, 3) := by decide +kernel
theorem dX5_copy_29 : decode cX5_copy 29 = .ok (.putfield 24, 3) := by decide +kernel
theorem dX5_copy_32 : decode cX5_copy 32 = .ok (.aload_n 0, 1) := by decide +kernel
theorem dX5_copy_33 : decode cX5_copy 33 = .ok (.aload_n 1, 1) := by decide +kernel
theorem dX5_copy_34 : decode cX5_copy 34 = .ok (.getfield 9, 3) := by decide +kernel
theorem dX5_copy_37 : decode cX5_copy 37 = .ok (.putfield 9, 3) := by decide +kernel
theorem dX5_copy_40 : decode cX5_copy 40 = .ok (.return_, 1) := by decide +kernel
def fX5_copy (k0 : Nat) (k1 : Nat) (s : mS) : Option mS :=
  bnd (pI s (iG_letters k0) (gI s (iG_letters k1))) fun s1 =>
  bnd (pI s1 (iG_cleanings k0) (gI s1 (iG_cleanings k1))) fun s2 =>
  bnd (pI s2 (iG_learnings k0) (gI s2 (iG_learnings k1))) fun s3 =>
  bnd (pI s3 (iG_showed k0) (gI s3 (iG_showed k1))) fun s4 =>
  bnd (pI s4 (iG_latest k0) (gI s4 (iG_latest k1))) fun s5 =>
  some s5

set_option maxRecDepth 20000 in
theorem tX5_copy {ρ : mRo} {d : Nat} {P : mPo} {V : mS → List mE} (hV : mView LC V)  {k0 : Nat} (hk0 : k0 < 2) {k1 : Nat} (hk1 : k1 < 2) {s : mS} {res : mS} (hf : fX5_copy k0 k1 s = some res) (hP : P none (V res)) : mC ρ (d + 1) 24 [.ref (qG k0), .ref (qG k1)] (V s) P := by
  refine ⟨_, rfl, Nat.le_of_ble_eq_true rfl, by decide, ?_⟩
  show mG ρ (mC ρ d) 5 2 cX5_copy none P 0 [(0, .ref (qG k0)), (1, .ref (qG k1))] [] (V s)
  unfold fX5_copy at hf
  refine e_aload_n 0 dX5_copy_0 rfl rfl ?_
  refine e_aload_n 1 dX5_copy_1 rfl rfl ?_
  refine e_geti hV dX5_copy_2 rfl (lc_G hk1) rfl ?_
  refine e_puti hV dX5_copy_5 rfl rfl rfl (Or.inl rfl) (lc_G hk0) rfl hf (fun s1 hf => ?_)
  refine e_aload_n 0 dX5_copy_8 rfl rfl ?_
  refine e_aload_n 1 dX5_copy_9 rfl rfl ?_
  refine e_geti hV dX5_copy_10 rfl (lc_G hk1) rfl ?_
  refine e_puti hV dX5_copy_13 rfl rfl rfl (Or.inl rfl) (lc_G hk0) rfl hf (fun s2 hf => ?_)
  refine e_aload_n 0 dX5_copy_16 rfl rfl ?_
  refine e_aload_n 1 dX5_copy_17 rfl rfl ?_
  refine e_geti hV dX5_copy_18 rfl (lc_G hk1) rfl ?_
  refine e_puti hV dX5_copy_21 rfl rfl rfl (Or.inl rfl) (lc_G hk0) rfl hf (fun s3 hf => ?_)
  refine e_aload_n 0 dX5_copy_24 rfl rfl ?_
  refine e_aload_n 1 dX5_copy_25 rfl rfl ?_
  refine e_geti hV dX5_copy_26 rfl (lc_G hk1) rfl ?_
  refine e_puti hV dX5_copy_29 rfl rfl rfl (Or.inl rfl) (lc_G hk0) rfl hf (fun s4 hf => ?_)
  refine e_aload_n 0 dX5_copy_32 rfl rfl ?_
  refine e_aload_n 1 dX5_copy_33 rfl rfl ?_
  refine e_geti hV dX5_copy_34 rfl (lc_G hk1) rfl ?_
  refine e_puti hV dX5_copy_37 rfl rfl rfl (Or.inl rfl) (lc_G hk0) rfl hf (fun s5 hf => ?_)
  obtain rfl := Option.some.inj hf
  exact e_ret dX5_copy_40 rfl hP

theorem dX6_has_0 : decode cX6_has 0 = .ok (.iload_n 1, 1) := by decide +kernel
theorem dX6_has_1 : decode cX6_has 1 = .ok (.ifCond .lt 15, 3) := by decide +kernel
theorem dX6_has_4 : decode cX6_has 4 = .ok (.iload_n 1, 1) := by decide +kernel
theorem dX6_has_5 : decode cX6_has 5 = .ok (.aload_n 0, 1) := by decide +kernel
theorem dX6_has_6 : decode cX6_has 6 = .ok (.getfield 25, 3) := by decide +kernel
theorem dX6_has_9 : decode cX6_has 9 = .ok (.if_icmp .ge 7, 3) := by decide +kernel
theorem dX6_has_12 : decode cX6_has 12 = .ok (.iconst 1, 1) := by decide +kernel
theorem dX6_has_13 : decode cX6_has 13 = .ok (.goto 4, 3) := by decide +kernel
theorem dX6_has_16 : decode cX6_has 16 = .ok (.iconst 0, 1) := by decide +kernel
theorem dX6_has_17 : decode cX6_has 17 = .ok (.ireturn, 1) := by decide +kernel
def fX6_has (k0 : Nat) (x1 : Int32) (s : mS) : Option Int32 :=
  if x1 < 0 then
    some (nI 0)
  else
    if (gI s (iM_size k0)) ≤ x1 then
      some (nI 0)
    else
      some (nI 1)

set_option maxRecDepth 20000 in
theorem tX6_has {ρ : mRo} {d : Nat} {P : mPo} {V : mS → List mE} (hV : mView LC V)  {k0 : Nat} (hk0 : k0 < 3) {x1 : Int32} {s : mS} {res : Int32} (hf : fX6_has k0 x1 s = some res) (hP : P (some (.int res)) (V s)) : mC ρ (d + 1) 25 [.ref (qM k0), .int x1] (V s) P := by
  refine ⟨_, rfl, Nat.le_of_ble_eq_true rfl, by decide, ?_⟩
  show mG ρ (mC ρ d) 6 2 cX6_has (some .boolean) P 0 [(0, .ref (qM k0)), (1, .int x1)] [] (V s)
  unfold fX6_has at hf
  refine e_iload_n 1 dX6_has_0 rfl rfl ?_
  refine e_if_lt 16 dX6_has_1 (by decide) hf (fun hf => ?_) (fun hf => ?_)
  · refine e_iconst (w := (nI 0)) dX6_has_16 (by decide) ?_
    obtain rfl := Option.some.inj hf
    exact e_iret dX6_has_17 (Or.inl rfl) hP
  · refine e_iload_n 1 dX6_has_4 rfl rfl ?_
    refine e_aload_n 0 dX6_has_5 rfl rfl ?_
    refine e_geti hV dX6_has_6 rfl (lc_M hk0) rfl ?_
    refine e_icmp_ge 16 dX6_has_9 (by decide) hf (fun hf => ?_) (fun hf => ?_)
    · refine e_iconst (w := (nI 0)) dX6_has_16 (by decide) ?_
      obtain rfl := Option.some.inj hf
      exact e_iret dX6_has_17 (Or.inl rfl) hP
    · refine e_iconst (w := (nI 1)) dX6_has_12 (by decide) ?_
      refine e_goto 17 dX6_has_13 (by decide) ?_
      obtain rfl := Option.some.inj hf
      exact e_iret dX6_has_17 (Or.inr rfl) hP

theorem dX6_isFull_0 : decode cX6_isFull 0 = .ok (.aload_n 0, 1) := by decide +kernel
theorem dX6_isFull_1 : decode cX6_isFull 1 = .ok (.getfield 25, 3) := by decide +kernel
theorem dX6_isFull_4 : decode cX6_isFull 4 = .ok (.bipush 8, 2) := by decide +kernel
theorem dX6_isFull_6 : decode cX6_isFull 6 = .ok (.if_icmp .lt 7, 3) := by decide +kernel
theorem dX6_isFull_9 : decode cX6_isFull 9 = .ok (.iconst 1, 1) := by decide +kernel
theorem dX6_isFull_10 : decode cX6_isFull 10 = .ok (.goto 4, 3) := by decide +kernel
theorem dX6_isFull_13 : decode cX6_isFull 13 = .ok (.iconst 0, 1) := by decide +kernel
theorem dX6_isFull_14 : decode cX6_isFull 14 = .ok (.ireturn, 1) := by decide +kernel
def fX6_isFull (k0 : Nat) (s : mS) : Option Int32 :=
  if (gI s (iM_size k0)) < (nI 8) then
    some (nI 0)
  else
    some (nI 1)

set_option maxRecDepth 20000 in
theorem tX6_isFull {ρ : mRo} {d : Nat} {P : mPo} {V : mS → List mE} (hV : mView LC V)  {k0 : Nat} (hk0 : k0 < 3) {s : mS} {res : Int32} (hf : fX6_isFull k0 s = some res) (hP : P (some (.int res)) (V s)) : mC ρ (d + 1) 26 [.ref (qM k0)] (V s) P := by
  refine ⟨_, rfl, Nat.le_of_ble_eq_true rfl, by decide, ?_⟩
  show mG ρ (mC ρ d) 6 1 cX6_isFull (some .boolean) P 0 [(0, .ref (qM k0))] [] (V s)
  unfold fX6_isFull at hf
  refine e_aload_n 0 dX6_isFull_0 rfl rfl ?_
  refine e_geti hV dX6_isFull_1 rfl (lc_M hk0) rfl ?_
  refine e_bipush (w := (nI 8)) dX6_isFull_4 (by decide) ?_
  refine e_icmp_lt 13 dX6_isFull_6 (by decide) hf (fun hf => ?_) (fun hf => ?_)
  · refine e_iconst (w := (nI 0)) dX6_isFull_13 (by decide) ?_
    obtain rfl := Option.some.inj hf
    exact e_iret dX6_isFull_14 (Or.inl rfl) hP
  · refine e_iconst (w := (nI 1)) dX6_isFull_9 (by decide) ?_
    refine e_goto 14 dX6_isFull_10 (by decide) ?_
    obtain rfl := Option.some.inj hf
    exact e_iret dX6_isFull_14 (Or.inr rfl) hP

theorem dX6_setNew_0 : decode cX6_setNew 0 = .ok (.aload_n 0, 1) := by decide +kernel
theorem dX6_setNew_1 : decode cX6_setNew 1 = .ok (.getfield 11, 3) := by decide +kernel
theorem dX6_setNew_4 : decode cX6_setNew 4 = .ok (.iconst 3, 1) := by decide +kernel
theorem dX6_setNew_5 : decode cX6_setNew 5 = .ok (.iload_n 1, 1) := by decide +kernel
theorem dX6_setNew_6 : decode cX6_setNew 6 = .ok (.imul, 1) := by decide +kernel
theorem dX6_setNew_7 : decode cX6_setNew 7 = .ok (.iload_n 2, 1) := by decide +kernel
theorem dX6_setNew_8 : decode cX6_setNew 8 = .ok (.iastore, 1) := by decide +kernel
theorem dX6_setNew_9 : decode cX6_setNew 9 = .ok (.aload_n 0, 1) := by decide +kernel
theorem dX6_setNew_10 : decode cX6_setNew 10 = .ok (.getfield 11, 3) := by decide +kernel
theorem dX6_setNew_13 : decode cX6_setNew 13 = .ok (.iconst 3, 1) := by decide +kernel
theorem dX6_setNew_14 : decode cX6_setNew 14 = .ok (.iload_n 1, 1) := by decide +kernel
theorem dX6_setNew_15 : decode cX6_setNew 15 = .ok (.imul, 1) := by decide +kernel
theorem dX6_setNew_16 : decode cX6_setNew 16 = .ok (.iconst 1, 1) := by decide +kernel
theorem dX6_setNew_17 : decode cX6_setNew 17 = .ok (.iadd, 1) := by decide +kernel
theorem dX6_setNew_18 : decode cX6_setNew 18 = .ok (.iload_n 3, 1) := by decide +kernel
theorem dX6_setNew_19 : decode cX6_setNew 19 = .ok (.iastore, 1) := by decide +kernel
theorem dX6_setNew_20 : decode cX6_setNew 20 = .ok (.aload_n 0, 1) := by decide +kernel
theorem dX6_setNew_21 : decode cX6_setNew 21 = .ok (.getfield 11, 3) := by decide +kernel
theorem dX6_setNew_24 : decode cX6_setNew 24 = .ok (.iconst 3, 1) := by decide +kernel
theorem dX6_setNew_25 : decode cX6_setNew 25 = .ok (.iload_n 1, 1) := by decide +kernel
theorem dX6_setNew_26 : decode cX6_setNew 26 = .ok (.imul, 1) := by decide +kernel
theorem dX6_setNew_27 : decode cX6_setNew 27 = .ok (.iconst 2, 1) := by decide +kernel
theorem dX6_setNew_28 : decode cX6_setNew 28 = .ok (.iadd, 1) := by decide +kernel
theorem dX6_setNew_29 : decode cX6_setNew 29 = .ok (.iload 4, 2) := by decide +kernel
theorem dX6_setNew_31 : decode cX6_setNew 31 = .ok (.iastore, 1) := by decide +kernel
theorem dX6_setNew_32 : decode cX6_setNew 32 = .ok (.aload_n 0, 1) := by decide +kernel
theorem dX6_setNew_33 : decode cX6_setNew 33 = .ok (.getfield 18, 3) := by decide +kernel
theorem dX6_setNew_36 : decode cX6_setNew 36 = .ok (.iload_n 1, 1) := by decide +kernel
theorem dX6_setNew_37 : decode cX6_setNew 37 = .ok (.iconst 0, 1) := by decide +kernel
theorem dX6_setNew_38 : decode cX6_setNew 38 = .ok (.iastore, 1) := by decide +kernel
theorem dX6_setNew_39 : decode cX6_setNew 39 = .ok (.return_, 1) := by decide +kernel
def fX6_setNew (k0 : Nat) (x1 : Int32) (x2 : Int32) (x3 : Int32) (x4 : Int32) (s : mS) : Option mS :=
  stA s (aM_pulls k0) 24 ((nI 3) * x1) x2 fun s1 =>
  stA s1 (aM_pulls k0) 24 (((nI 3) * x1) + (nI 1)) x3 fun s2 =>
  stA s2 (aM_pulls k0) 24 (((nI 3) * x1) + (nI 2)) x4 fun s3 =>
  stA s3 (aM_ages k0) 8 x1 (nI 0) fun s4 =>
  some s4

set_option maxRecDepth 20000 in
theorem tX6_setNew {ρ : mRo} {d : Nat} {P : mPo} {V : mS → List mE} (hV : mView LC V)  {k0 : Nat} (hk0 : k0 < 3) {x1 : Int32} {x2 : Int32} {x3 : Int32} {x4 : Int32} {s : mS} {res : mS} (hf : fX6_setNew k0 x1 x2 x3 x4 s = some res) (hP : P none (V res)) : mC ρ (d + 1) 28 [.ref (qM k0), .int x1, .int x2, .int x3, .int x4] (V s) P := by
  refine ⟨_, rfl, Nat.le_of_ble_eq_true rfl, by decide, ?_⟩
  show mG ρ (mC ρ d) 6 5 cX6_setNew none P 0 [(0, .ref (qM k0)), (1, .int x1), (2, .int x2), (3, .int x3), (4, .int x4)] [] (V s)
  unfold fX6_setNew at hf
  refine e_aload_n 0 dX6_setNew_0 rfl rfl ?_
  refine e_getr hV dX6_setNew_1 rfl (lc_M hk0) rfl ?_
  refine e_iconst (w := (nI 3)) dX6_setNew_4 (by decide) ?_
  refine e_iload_n 1 dX6_setNew_5 rfl rfl ?_
  refine e_imul dX6_setNew_6 ?_
  refine e_iload_n 2 dX6_setNew_7 rfl rfl ?_
  refine e_iast hV dX6_setNew_8 (lc_M_pulls hk0) hf (fun s1 hf => ?_)
  refine e_aload_n 0 dX6_setNew_9 rfl rfl ?_
  refine e_getr hV dX6_setNew_10 rfl (lc_M hk0) rfl ?_
  refine e_iconst (w := (nI 3)) dX6_setNew_13 (by decide) ?_
  refine e_iload_n 1 dX6_setNew_14 rfl rfl ?_
  refine e_imul dX6_setNew_15 ?_
  refine e_iconst (w := (nI 1)) dX6_setNew_16 (by decide) ?_
  refine e_iadd dX6_setNew_17 ?_
  refine e_iload_n 3 dX6_setNew_18 rfl rfl ?_
  refine e_iast hV dX6_setNew_19 (lc_M_pulls hk0) hf (fun s2 hf => ?_)
  refine e_aload_n 0 dX6_setNew_20 rfl rfl ?_
  refine e_getr hV dX6_setNew_21 rfl (lc_M hk0) rfl ?_
  refine e_iconst (w := (nI 3)) dX6_setNew_24 (by decide) ?_
  refine e_iload_n 1 dX6_setNew_25 rfl rfl ?_
  refine e_imul dX6_setNew_26 ?_
  refine e_iconst (w := (nI 2)) dX6_setNew_27 (by decide) ?_
  refine e_iadd dX6_setNew_28 ?_
  refine e_iload 4 dX6_setNew_29 rfl ?_
  refine e_iast hV dX6_setNew_31 (lc_M_pulls hk0) hf (fun s3 hf => ?_)
  refine e_aload_n 0 dX6_setNew_32 rfl rfl ?_
  refine e_getr hV dX6_setNew_33 rfl (lc_M hk0) rfl ?_
  refine e_iload_n 1 dX6_setNew_36 rfl rfl ?_
  refine e_iconst (w := (nI 0)) dX6_setNew_37 (by decide) ?_
  refine e_iast hV dX6_setNew_38 (lc_M_ages hk0) hf (fun s4 hf => ?_)
  obtain rfl := Option.some.inj hf
  exact e_ret dX6_setNew_39 rfl hP

theorem dX6_join_0 : decode cX6_join 0 = .ok (.aload_n 0, 1) := by decide +kernel
theorem dX6_join_1 : decode cX6_join 1 = .ok (.dup, 1) := by decide +kernel
theorem dX6_join_2 : decode cX6_join 2 = .ok (.getfield 25, 3) := by decide +kernel
theorem dX6_join_5 : decode cX6_join 5 = .ok (.iconst 1, 1) := by decide +kernel
theorem dX6_join_6 : decode cX6_join 6 = .ok (.iadd, 1) := by decide +kernel
theorem dX6_join_7 : decode cX6_join 7 = .ok (.putfield 25, 3) := by decide +kernel
theorem dX6_join_10 : decode cX6_join 10 = .ok (.aload_n 0, 1) := by decide +kernel
theorem dX6_join_11 : decode cX6_join 11 = .ok (.aload_n 0, 1) := by decide +kernel
theorem dX6_join_12 : decode cX6_join 12 = .ok (.getfield 25, 3) := by decide +kernel
theorem dX6_join_15 : decode cX6_join 15 = .ok (.iconst 1, 1) := by decide +kernel
theorem dX6_join_16 : decode cX6_join 16 = .ok (.isub, 1) := by decide +kernel
theorem dX6_join_17 : decode cX6_join 17 = .ok (.iload_n 1, 1) := by decide +kernel
theorem dX6_join_18 : decode cX6_join 18 = .ok (.iload_n 2, 1) := by decide +kernel
theorem dX6_join_19 : decode cX6_join 19 = .ok (.iload_n 3, 1) := by decide +kernel
theorem dX6_join_20 : decode cX6_join 20 = .ok (.invokevirtual 28, 3) := by decide +kernel
theorem dX6_join_23 : decode cX6_join 23 = .ok (.aload_n 0, 1) := by decide +kernel
theorem dX6_join_24 : decode cX6_join 24 = .ok (.getfield 25, 3) := by decide +kernel
theorem dX6_join_27 : decode cX6_join 27 = .ok (.iconst 1, 1) := by decide +kernel
theorem dX6_join_28 : decode cX6_join 28 = .ok (.isub, 1) := by decide +kernel
theorem dX6_join_29 : decode cX6_join 29 = .ok (.ireturn, 1) := by decide +kernel
def fX6_join (k0 : Nat) (x1 : Int32) (x2 : Int32) (x3 : Int32) (s : mS) : Option (Int32 × mS) :=
  bnd (pI s (iM_size k0) ((gI s (iM_size k0)) + (nI 1))) fun s1 =>
  bO (fX6_setNew k0 ((gI s1 (iM_size k0)) - (nI 1)) x1 x2 x3 s1) fun s2 =>
  some ((gI s2 (iM_size k0)) - (nI 1), s2)

set_option maxRecDepth 20000 in
theorem tX6_join {ρ : mRo} {d : Nat} {P : mPo} {V : mS → List mE} (hV : mView LC V)  {k0 : Nat} (hk0 : k0 < 3) {x1 : Int32} {x2 : Int32} {x3 : Int32} {s : mS} {res : (Int32 × mS)} (hf : fX6_join k0 x1 x2 x3 s = some res) (hP : P (some (.int res.1)) (V res.2)) : mC ρ (d + 2) 27 [.ref (qM k0), .int x1, .int x2, .int x3] (V s) P := by
  refine ⟨_, rfl, Nat.le_of_ble_eq_true rfl, by decide, ?_⟩
  show mG ρ (mC ρ (d + 1)) 6 4 cX6_join (some .int) P 0 [(0, .ref (qM k0)), (1, .int x1), (2, .int x2), (3, .int x3)] [] (V s)
  unfold fX6_join at hf
  refine e_aload_n 0 dX6_join_0 rfl rfl ?_
  refine e_dup dX6_join_1 rfl ?_
  refine e_geti hV dX6_join_2 rfl (lc_M hk0) rfl ?_
  refine e_iconst (w := (nI 1)) dX6_join_5 (by decide) ?_
  refine e_iadd dX6_join_6 ?_
  refine e_puti hV dX6_join_7 rfl rfl rfl (Or.inl rfl) (lc_M hk0) rfl hf (fun s1 hf => ?_)
  refine e_aload_n 0 dX6_join_10 rfl rfl ?_
  refine e_aload_n 0 dX6_join_11 rfl rfl ?_
  refine e_geti hV dX6_join_12 rfl (lc_M hk0) rfl ?_
  refine e_iconst (w := (nI 1)) dX6_join_15 (by decide) ?_
  refine e_isub dX6_join_16 ?_
  refine e_iload_n 1 dX6_join_17 rfl rfl ?_
  refine e_iload_n 2 dX6_join_18 rfl rfl ?_
  refine e_iload_n 3 dX6_join_19 rfl rfl ?_
  obtain ⟨s2, hg, hf⟩ := bO_some hf
  refine e_callV (as := [.int ((gI s1 (iM_size k0)) - (nI 1)), .int x1, .int x2, .int x3]) (v := none) (s' := s2) hV dX6_join_20 (Or.inl rfl) rfl rfl rfl rfl (Nat.le_of_ble_eq_true rfl) (lc_M hk0) rfl rfl (fun Q hQ => tX6_setNew (d := d) hV hk0 hg hQ) ?_
  refine e_aload_n 0 dX6_join_23 rfl rfl ?_
  refine e_geti hV dX6_join_24 rfl (lc_M hk0) rfl ?_
  refine e_iconst (w := (nI 1)) dX6_join_27 (by decide) ?_
  refine e_isub dX6_join_28 ?_
  obtain rfl := Option.some.inj hf
  exact e_iret dX6_join_29 trivial hP

theorem dX6_pull_0 : decode cX6_pull 0 = .ok (.aload_n 0, 1) := by decide +kernel
theorem dX6_pull_1 : decode cX6_pull 1 = .ok (.getfield 11, 3) := by decide +kernel
theorem dX6_pull_4 : decode cX6_pull 4 = .ok (.iconst 3, 1) := by decide +kernel
theorem dX6_pull_5 : decode cX6_pull 5 = .ok (.iload_n 1, 1) := by decide +kernel
theorem dX6_pull_6 : decode cX6_pull 6 = .ok (.imul, 1) := by decide +kernel
theorem dX6_pull_7 : decode cX6_pull 7 = .ok (.iload_n 2, 1) := by decide +kernel
theorem dX6_pull_8 : decode cX6_pull 8 = .ok (.iadd, 1) := by decide +kernel
theorem dX6_pull_9 : decode cX6_pull 9 = .ok (.iaload, 1) := by decide +kernel
theorem dX6_pull_10 : decode cX6_pull 10 = .ok (.ireturn, 1) := by decide +kernel
def fX6_pull (k0 : Nat) (x1 : Int32) (x2 : Int32) (s : mS) : Option Int32 :=
  ldA s (aM_pulls k0) 24 (((nI 3) * x1) + x2) fun v1 =>
  some v1

set_option maxRecDepth 20000 in
theorem tX6_pull {ρ : mRo} {d : Nat} {P : mPo} {V : mS → List mE} (hV : mView LC V)  {k0 : Nat} (hk0 : k0 < 3) {x1 : Int32} {x2 : Int32} {s : mS} {res : Int32} (hf : fX6_pull k0 x1 x2 s = some res) (hP : P (some (.int res)) (V s)) : mC ρ (d + 1) 29 [.ref (qM k0), .int x1, .int x2] (V s) P := by
  refine ⟨_, rfl, Nat.le_of_ble_eq_true rfl, by decide, ?_⟩
  show mG ρ (mC ρ d) 6 3 cX6_pull (some .int) P 0 [(0, .ref (qM k0)), (1, .int x1), (2, .int x2)] [] (V s)
  unfold fX6_pull at hf
  refine e_aload_n 0 dX6_pull_0 rfl rfl ?_
  refine e_getr hV dX6_pull_1 rfl (lc_M hk0) rfl ?_
  refine e_iconst (w := (nI 3)) dX6_pull_4 (by decide) ?_
  refine e_iload_n 1 dX6_pull_5 rfl rfl ?_
  refine e_imul dX6_pull_6 ?_
  refine e_iload_n 2 dX6_pull_7 rfl rfl ?_
  refine e_iadd dX6_pull_8 ?_
  refine e_iald hV dX6_pull_9 (lc_M_pulls hk0) hf (fun v1 hf => ?_)
  obtain rfl := Option.some.inj hf
  exact e_iret dX6_pull_10 trivial hP

theorem dX6_pullCode_0 : decode cX6_pullCode 0 = .ok (.aload_n 0, 1) := by decide +kernel
theorem dX6_pullCode_1 : decode cX6_pullCode 1 = .ok (.iload_n 1, 1) := by decide +kernel
theorem dX6_pullCode_2 : decode cX6_pullCode 2 = .ok (.iconst 0, 1) := by decide +kernel
theorem dX6_pullCode_3 : decode cX6_pullCode 3 = .ok (.invokevirtual 32, 3) := by decide +kernel
theorem dX6_pullCode_6 : decode cX6_pullCode 6 = .ok (.aload_n 0, 1) := by decide +kernel
theorem dX6_pullCode_7 : decode cX6_pullCode 7 = .ok (.iload_n 1, 1) := by decide +kernel
theorem dX6_pullCode_8 : decode cX6_pullCode 8 = .ok (.iconst 1, 1) := by decide +kernel
theorem dX6_pullCode_9 : decode cX6_pullCode 9 = .ok (.invokevirtual 32, 3) := by decide +kernel
theorem dX6_pullCode_12 : decode cX6_pullCode 12 = .ok (.aload_n 0, 1) := by decide +kernel
theorem dX6_pullCode_13 : decode cX6_pullCode 13 = .ok (.iload_n 1, 1) := by decide +kernel
theorem dX6_pullCode_14 : decode cX6_pullCode 14 = .ok (.iconst 2, 1) := by decide +kernel
theorem dX6_pullCode_15 : decode cX6_pullCode 15 = .ok (.invokevirtual 32, 3) := by decide +kernel
theorem dX6_pullCode_18 : decode cX6_pullCode 18 = .ok (.invokestatic 36, 3) := by decide +kernel
theorem dX6_pullCode_21 : decode cX6_pullCode 21 = .ok (.ireturn, 1) := by decide +kernel
def fX6_pullCode (k0 : Nat) (x1 : Int32) (s : mS) : Option Int32 :=
  bO (fX6_pull k0 x1 (nI 0) s) fun r1 =>
  bO (fX6_pull k0 x1 (nI 1) s) fun r2 =>
  bO (fX6_pull k0 x1 (nI 2) s) fun r3 =>
  bO (fX2_code r1 r2 r3 s) fun r4 =>
  some r4

set_option maxRecDepth 20000 in
theorem tX6_pullCode {ρ : mRo} {d : Nat} {P : mPo} {V : mS → List mE} (hV : mView LC V)  {k0 : Nat} (hk0 : k0 < 3) {x1 : Int32} {s : mS} {res : Int32} (hf : fX6_pullCode k0 x1 s = some res) (hP : P (some (.int res)) (V s)) : mC ρ (d + 2) 30 [.ref (qM k0), .int x1] (V s) P := by
  refine ⟨_, rfl, Nat.le_of_ble_eq_true rfl, by decide, ?_⟩
  show mG ρ (mC ρ (d + 1)) 6 2 cX6_pullCode (some .int) P 0 [(0, .ref (qM k0)), (1, .int x1)] [] (V s)
  unfold fX6_pullCode at hf
  refine e_aload_n 0 dX6_pullCode_0 rfl rfl ?_
  refine e_iload_n 1 dX6_pullCode_1 rfl rfl ?_
  refine e_iconst (w := (nI 0)) dX6_pullCode_2 (by decide) ?_
  obtain ⟨r1, hg, hf⟩ := bO_some hf
  refine e_callV (as := [.int x1, .int (nI 0)]) (v := (some (.int r1))) (s' := s) hV dX6_pullCode_3 (Or.inl rfl) rfl rfl rfl rfl (Nat.le_of_ble_eq_true rfl) (lc_M hk0) rfl rfl (fun Q hQ => tX6_pull (d := d) hV hk0 hg hQ) ?_
  refine e_aload_n 0 dX6_pullCode_6 rfl rfl ?_
  refine e_iload_n 1 dX6_pullCode_7 rfl rfl ?_
  refine e_iconst (w := (nI 1)) dX6_pullCode_8 (by decide) ?_
  obtain ⟨r2, hg, hf⟩ := bO_some hf
  refine e_callV (as := [.int x1, .int (nI 1)]) (v := (some (.int r2))) (s' := s) hV dX6_pullCode_9 (Or.inl rfl) rfl rfl rfl rfl (Nat.le_of_ble_eq_true rfl) (lc_M hk0) rfl rfl (fun Q hQ => tX6_pull (d := d) hV hk0 hg hQ) ?_
  refine e_aload_n 0 dX6_pullCode_12 rfl rfl ?_
  refine e_iload_n 1 dX6_pullCode_13 rfl rfl ?_
  refine e_iconst (w := (nI 2)) dX6_pullCode_14 (by decide) ?_
  obtain ⟨r3, hg, hf⟩ := bO_some hf
  refine e_callV (as := [.int x1, .int (nI 2)]) (v := (some (.int r3))) (s' := s) hV dX6_pullCode_15 (Or.inl rfl) rfl rfl rfl rfl (Nat.le_of_ble_eq_true rfl) (lc_M hk0) rfl rfl (fun Q hQ => tX6_pull (d := d) hV hk0 hg hQ) ?_
  obtain ⟨r4, hg, hf⟩ := bO_some hf
  refine e_callS (as := [.int r1, .int r2, .int r3]) (v := (some (.int r4))) (s' := s) dX6_pullCode_18 rfl rfl rfl rfl rfl (Nat.le_of_ble_eq_true rfl) (fun Q hQ => tX2_code (d := d) hV  hg hQ) ?_
  obtain rfl := Option.some.inj hf
  exact e_iret dX6_pullCode_21 trivial hP

theorem dX6_layBack_0 : decode cX6_layBack 0 = .ok (.aload_n 1, 1) := by decide +kernel
theorem dX6_layBack_1 : decode cX6_layBack 1 = .ok (.getfield 11, 3) := by decide +kernel
theorem dX6_layBack_4 : decode cX6_layBack 4 = .ok (.iconst 0, 1) := by decide +kernel
theorem dX6_layBack_5 : decode cX6_layBack 5 = .ok (.aload_n 0, 1) := by decide +kernel
theorem dX6_layBack_6 : decode cX6_layBack 6 = .ok (.getfield 11, 3) := by decide +kernel
theorem dX6_layBack_9 : decode cX6_layBack 9 = .ok (.iconst 0, 1) := by decide +kernel
theorem dX6_layBack_10 : decode cX6_layBack 10 = .ok (.iconst 3, 1) := by decide +kernel
theorem dX6_layBack_11 : decode cX6_layBack 11 = .ok (.aload_n 1, 1) := by decide +kernel
theorem dX6_layBack_12 : decode cX6_layBack 12 = .ok (.getfield 25, 3) := by decide +kernel
theorem dX6_layBack_15 : decode cX6_layBack 15 = .ok (.imul, 1) := by decide +kernel
theorem dX6_layBack_16 : decode cX6_layBack 16 = .ok (.invokestatic 44, 3) := by decide +kernel
theorem dX6_layBack_19 : decode cX6_layBack 19 = .ok (.aload_n 1, 1) := by decide +kernel
theorem dX6_layBack_20 : decode cX6_layBack 20 = .ok (.getfield 18, 3) := by decide +kernel
theorem dX6_layBack_23 : decode cX6_layBack 23 = .ok (.iconst 0, 1) := by decide +kernel
theorem dX6_layBack_24 : decode cX6_layBack 24 = .ok (.aload_n 0, 1) := by decide +kernel
theorem dX6_layBack_25 : decode cX6_layBack 25 = .ok (.getfield 18, 3) := by decide +kernel
theorem dX6_layBack_28 : decode cX6_layBack 28 = .ok (.iconst 0, 1) := by decide +kernel
theorem dX6_layBack_29 : decode cX6_layBack 29 = .ok (.aload_n 1, 1) := by decide +kernel
theorem dX6_layBack_30 : decode cX6_layBack 30 = .ok (.getfield 25, 3) := by decide +kernel
theorem dX6_layBack_33 : decode cX6_layBack 33 = .ok (.invokestatic 44, 3) := by decide +kernel
theorem dX6_layBack_36 : decode cX6_layBack 36 = .ok (.return_, 1) := by decide +kernel
def fX6_layBack (k0 : Nat) (k1 : Nat) (s : mS) : Option mS :=
  cpA s (aM_pulls k1) 24 (aM_pulls k0) 24 (nI 0) (nI 0) ((nI 3) * (gI s (iM_size k1))) fun s1 =>
  cpA s1 (aM_ages k1) 8 (aM_ages k0) 8 (nI 0) (nI 0) (gI s1 (iM_size k1)) fun s2 =>
  some s2

set_option maxRecDepth 20000 in
theorem tX6_layBack {ρ : mRo} {d : Nat} {P : mPo} {V : mS → List mE} (hV : mView LC V)  {k0 : Nat} (hk0 : k0 < 3) {k1 : Nat} (hk1 : k1 < 3) {s : mS} {res : mS} (hf : fX6_layBack k0 k1 s = some res) (hP : P none (V res)) : mC ρ (d + 1) 32 [.ref (qM k0), .ref (qM k1)] (V s) P := by
  refine ⟨_, rfl, Nat.le_of_ble_eq_true rfl, by decide, ?_⟩
  show mG ρ (mC ρ d) 6 2 cX6_layBack none P 0 [(0, .ref (qM k0)), (1, .ref (qM k1))] [] (V s)
  unfold fX6_layBack at hf
  refine e_aload_n 1 dX6_layBack_0 rfl rfl ?_
  refine e_getr hV dX6_layBack_1 rfl (lc_M hk1) rfl ?_
  refine e_iconst (w := (nI 0)) dX6_layBack_4 (by decide) ?_
  refine e_aload_n 0 dX6_layBack_5 rfl rfl ?_
  refine e_getr hV dX6_layBack_6 rfl (lc_M hk0) rfl ?_
  refine e_iconst (w := (nI 0)) dX6_layBack_9 (by decide) ?_
  refine e_iconst (w := (nI 3)) dX6_layBack_10 (by decide) ?_
  refine e_aload_n 1 dX6_layBack_11 rfl rfl ?_
  refine e_geti hV dX6_layBack_12 rfl (lc_M hk1) rfl ?_
  refine e_imul dX6_layBack_15 ?_
  refine e_cpA hV dX6_layBack_16 (by decide) (Nat.le_of_ble_eq_true rfl) (lc_M_pulls hk1) (lc_M_pulls hk0) hf (fun s1 hf => ?_)
  refine e_aload_n 1 dX6_layBack_19 rfl rfl ?_
  refine e_getr hV dX6_layBack_20 rfl (lc_M hk1) rfl ?_
  refine e_iconst (w := (nI 0)) dX6_layBack_23 (by decide) ?_
  refine e_aload_n 0 dX6_layBack_24 rfl rfl ?_
  refine e_getr hV dX6_layBack_25 rfl (lc_M hk0) rfl ?_
  refine e_iconst (w := (nI 0)) dX6_layBack_28 (by decide) ?_
  refine e_aload_n 1 dX6_layBack_29 rfl rfl ?_
  refine e_geti hV dX6_layBack_30 rfl (lc_M hk1) rfl ?_
  refine e_cpA hV dX6_layBack_33 (by decide) (Nat.le_of_ble_eq_true rfl) (lc_M_ages hk1) (lc_M_ages hk0) hf (fun s2 hf => ?_)
  obtain rfl := Option.some.inj hf
  exact e_ret dX6_layBack_36 rfl hP

theorem dX6_copy_0 : decode cX6_copy 0 = .ok (.aload_n 0, 1) := by decide +kernel
theorem dX6_copy_1 : decode cX6_copy 1 = .ok (.aload_n 1, 1) := by decide +kernel
theorem dX6_copy_2 : decode cX6_copy 2 = .ok (.invokevirtual 40, 3) := by decide +kernel
theorem dX6_copy_5 : decode cX6_copy 5 = .ok (.aload_n 0, 1) := by decide +kernel
theorem dX6_copy_6 : decode cX6_copy 6 = .ok (.aload_n 1, 1) := by decide +kernel
theorem dX6_copy_7 : decode cX6_copy 7 = .ok (.getfield 25, 3) := by decide +kernel
theorem dX6_copy_10 : decode cX6_copy 10 = .ok (.putfield 25, 3) := by decide +kernel
theorem dX6_copy_13 : decode cX6_copy 13 = .ok (.aload_n 0, 1) := by decide +kernel
theorem dX6_copy_14 : decode cX6_copy 14 = .ok (.aload_n 1, 1) := by decide +kernel
theorem dX6_copy_15 : decode cX6_copy 15 = .ok (.getfield 21, 3) := by decide +kernel
theorem dX6_copy_18 : decode cX6_copy 18 = .ok (.putfield 21, 3) := by decide +kernel
theorem dX6_copy_21 : decode cX6_copy 21 = .ok (.return_, 1) := by decide +kernel
def fX6_copy (k0 : Nat) (k1 : Nat) (s : mS) : Option mS :=
  bO (fX6_layBack k0 k1 s) fun s1 =>
  bnd (pI s1 (iM_size k0) (gI s1 (iM_size k1))) fun s2 =>
  bnd (pI s2 (iM_ribbon k0) (gI s2 (iM_ribbon k1))) fun s3 =>
  some s3

set_option maxRecDepth 20000 in
theorem tX6_copy {ρ : mRo} {d : Nat} {P : mPo} {V : mS → List mE} (hV : mView LC V)  {k0 : Nat} (hk0 : k0 < 3) {k1 : Nat} (hk1 : k1 < 3) {s : mS} {res : mS} (hf : fX6_copy k0 k1 s = some res) (hP : P none (V res)) : mC ρ (d + 2) 31 [.ref (qM k0), .ref (qM k1)] (V s) P := by
  refine ⟨_, rfl, Nat.le_of_ble_eq_true rfl, by decide, ?_⟩
  show mG ρ (mC ρ (d + 1)) 6 2 cX6_copy none P 0 [(0, .ref (qM k0)), (1, .ref (qM k1))] [] (V s)
  unfold fX6_copy at hf
  refine e_aload_n 0 dX6_copy_0 rfl rfl ?_
  refine e_aload_n 1 dX6_copy_1 rfl rfl ?_
  obtain ⟨s1, hg, hf⟩ := bO_some hf
  refine e_callV (as := [.ref (qM k1)]) (v := none) (s' := s1) hV dX6_copy_2 (Or.inl rfl) rfl rfl rfl rfl (Nat.le_of_ble_eq_true rfl) (lc_M hk0) rfl rfl (fun Q hQ => tX6_layBack (d := d) hV hk0 hk1 hg hQ) ?_
  refine e_aload_n 0 dX6_copy_5 rfl rfl ?_
  refine e_aload_n 1 dX6_copy_6 rfl rfl ?_
  refine e_geti hV dX6_copy_7 rfl (lc_M hk1) rfl ?_
  refine e_puti hV dX6_copy_10 rfl rfl rfl (Or.inl rfl) (lc_M hk0) rfl hf (fun s2 hf => ?_)
  refine e_aload_n 0 dX6_copy_13 rfl rfl ?_
  refine e_aload_n 1 dX6_copy_14 rfl rfl ?_
  refine e_geti hV dX6_copy_15 rfl (lc_M hk1) rfl ?_
  refine e_puti hV dX6_copy_18 rfl rfl rfl (Or.inl rfl) (lc_M hk0) rfl hf (fun s3 hf => ?_)
  obtain rfl := Option.some.inj hf
  exact e_ret dX6_copy_21 rfl hP

theorem dX6_markPulls_0 : decode cX6_markPulls 0 = .ok (.aload_n 0, 1) := by decide +kernel
theorem dX6_markPulls_1 : decode cX6_markPulls 1 = .ok (.getfield 11, 3) := by decide +kernel
theorem dX6_markPulls_4 : decode cX6_markPulls 4 = .ok (.iconst 0, 1) := by decide +kernel
theorem dX6_markPulls_5 : decode cX6_markPulls 5 = .ok (.aload_n 0, 1) := by decide +kernel
theorem dX6_markPulls_6 : decode cX6_markPulls 6 = .ok (.getfield 15, 3) := by decide +kernel
theorem dX6_markPulls_9 : decode cX6_markPulls 9 = .ok (.iconst 0, 1) := by decide +kernel
theorem dX6_markPulls_10 : decode cX6_markPulls 10 = .ok (.iconst 3, 1) := by decide +kernel
theorem dX6_markPulls_11 : decode cX6_markPulls 11 = .ok (.aload_n 0, 1) := by decide +kernel
theorem dX6_markPulls_12 : decode cX6_markPulls 12 = .ok (.getfield 25, 3) := by decide +kernel
theorem dX6_markPulls_15 : decode cX6_markPulls 15 = .ok (.imul, 1) := by decide +kernel
theorem dX6_markPulls_16 : decode cX6_markPulls 16 = .ok (.invokestatic 44, 3) := by decide +kernel
theorem dX6_markPulls_19 : decode cX6_markPulls 19 = .ok (.return_, 1) := by decide +kernel
def fX6_markPulls (k0 : Nat) (s : mS) : Option mS :=
  cpA s (aM_pulls k0) 24 (aM_marks k0) 24 (nI 0) (nI 0) ((nI 3) * (gI s (iM_size k0))) fun s1 =>
  some s1

set_option maxRecDepth 20000 in
theorem tX6_markPulls {ρ : mRo} {d : Nat} {P : mPo} {V : mS → List mE} (hV : mView LC V)  {k0 : Nat} (hk0 : k0 < 3) {s : mS} {res : mS} (hf : fX6_markPulls k0 s = some res) (hP : P none (V res)) : mC ρ (d + 1) 33 [.ref (qM k0)] (V s) P := by
  refine ⟨_, rfl, Nat.le_of_ble_eq_true rfl, by decide, ?_⟩
  show mG ρ (mC ρ d) 6 1 cX6_markPulls none P 0 [(0, .ref (qM k0))] [] (V s)
  unfold fX6_markPulls at hf
  refine e_aload_n 0 dX6_markPulls_0 rfl rfl ?_
  refine e_getr hV dX6_markPulls_1 rfl (lc_M hk0) rfl ?_
  refine e_iconst (w := (nI 0)) dX6_markPulls_4 (by decide) ?_
  refine e_aload_n 0 dX6_markPulls_5 rfl rfl ?_
  refine e_getr hV dX6_markPulls_6 rfl (lc_M hk0) rfl ?_
  refine e_iconst (w := (nI 0)) dX6_markPulls_9 (by decide) ?_
  refine e_iconst (w := (nI 3)) dX6_markPulls_10 (by decide) ?_
  refine e_aload_n 0 dX6_markPulls_11 rfl rfl ?_
  refine e_geti hV dX6_markPulls_12 rfl (lc_M hk0) rfl ?_
  refine e_imul dX6_markPulls_15 ?_
  refine e_cpA hV dX6_markPulls_16 (by decide) (Nat.le_of_ble_eq_true rfl) (lc_M_pulls hk0) (lc_M_marks hk0) hf (fun s1 hf => ?_)
  obtain rfl := Option.some.inj hf
  exact e_ret dX6_markPulls_19 rfl hP

theorem dX6_haveMoved_0 : decode cX6_haveMoved 0 = .ok (.iconst 0, 1) := by decide +kernel
theorem dX6_haveMoved_1 : decode cX6_haveMoved 1 = .ok (.istore_n 1, 1) := by decide +kernel
theorem dX6_haveMoved_2 : decode cX6_haveMoved 2 = .ok (.iload_n 1, 1) := by decide +kernel
theorem dX6_haveMoved_3 : decode cX6_haveMoved 3 = .ok (.iconst 3, 1) := by decide +kernel
theorem dX6_haveMoved_4 : decode cX6_haveMoved 4 = .ok (.aload_n 0, 1) := by decide +kernel
theorem dX6_haveMoved_5 : decode cX6_haveMoved 5 = .ok (.getfield 25, 3) := by decide +kernel
theorem dX6_haveMoved_8 : decode cX6_haveMoved 8 = .ok (.imul, 1) := by decide +kernel
theorem dX6_haveMoved_9 : decode cX6_haveMoved 9 = .ok (.if_icmp .ge 26, 3) := by decide +kernel
theorem dX6_haveMoved_12 : decode cX6_haveMoved 12 = .ok (.aload_n 0, 1) := by decide +kernel
theorem dX6_haveMoved_13 : decode cX6_haveMoved 13 = .ok (.getfield 11, 3) := by decide +kernel
theorem dX6_haveMoved_16 : decode cX6_haveMoved 16 = .ok (.iload_n 1, 1) := by decide +kernel
theorem dX6_haveMoved_17 : decode cX6_haveMoved 17 = .ok (.iaload, 1) := by decide +kernel
theorem dX6_haveMoved_18 : decode cX6_haveMoved 18 = .ok (.aload_n 0, 1) := by decide +kernel
theorem dX6_haveMoved_19 : decode cX6_haveMoved 19 = .ok (.getfield 15, 3) := by decide +kernel
theorem dX6_haveMoved_22 : decode cX6_haveMoved 22 = .ok (.iload_n 1, 1) := by decide +kernel
theorem dX6_haveMoved_23 : decode cX6_haveMoved 23 = .ok (.iaload, 1) := by decide +kernel
theorem dX6_haveMoved_24 : decode cX6_haveMoved 24 = .ok (.if_icmp .eq 5, 3) := by decide +kernel
theorem dX6_haveMoved_27 : decode cX6_haveMoved 27 = .ok (.iconst 1, 1) := by decide +kernel
theorem dX6_haveMoved_28 : decode cX6_haveMoved 28 = .ok (.ireturn, 1) := by decide +kernel
theorem dX6_haveMoved_29 : decode cX6_haveMoved 29 = .ok (.iinc 1 1, 3) := by decide +kernel
theorem dX6_haveMoved_32 : decode cX6_haveMoved 32 = .ok (.goto (-30), 3) := by decide +kernel
theorem dX6_haveMoved_35 : decode cX6_haveMoved 35 = .ok (.iconst 0, 1) := by decide +kernel
theorem dX6_haveMoved_36 : decode cX6_haveMoved 36 = .ok (.ireturn, 1) := by decide +kernel
def fX6_haveMoved_b2 : Nat → Nat → Int32 → mS → Option Int32
  | 0, _, _, _ => none
  | k + 1, k0, y1, s =>
    if ((nI 3) * (gI s (iM_size k0))) ≤ y1 then
      some (nI 0)
    else
      ldA s (aM_pulls k0) 24 y1 fun v2 =>
      ldA s (aM_marks k0) 24 y1 fun v3 =>
      if v2 = v3 then
        bnd (y1 + (nI 1)) fun v4 =>
        fX6_haveMoved_b2 k k0 v4 s
      else
        some (nI 1)

def fX6_haveMoved (k0 : Nat) (s : mS) : Option Int32 :=
  bnd (nI 0) fun v1 =>
  fX6_haveMoved_b2 mFu k0 v1 s

set_option maxRecDepth 20000 in
theorem wX6_haveMoved_b2 {ρ : mRo} {d : Nat} {P : mPo} {V : mS → List mE} (hV : mView LC V)  {res : Int32} {s : mS} (hP : P (some (.int res)) (V s)) : ∀ (k : Nat) (k0 : Nat) (hk0 : k0 < 3) (y1 : Int32), fX6_haveMoved_b2 k k0 y1 s = some res → mG ρ (mC ρ d) 6 2 cX6_haveMoved (some .boolean) P 2 [(0, .ref (qM k0)), (1, .int y1)] [] (V s) := by
  intro k
  induction k with
  | zero => intro k0 hk0 y1 hf; rw [fX6_haveMoved_b2] at hf; cases hf
  | succ k ih =>
    intro k0 hk0 y1 hf
    rw [fX6_haveMoved_b2] at hf
    refine e_iload_n 1 dX6_haveMoved_2 rfl rfl ?_
    refine e_iconst (w := (nI 3)) dX6_haveMoved_3 (by decide) ?_
    refine e_aload_n 0 dX6_haveMoved_4 rfl rfl ?_
    refine e_geti hV dX6_haveMoved_5 rfl (lc_M hk0) rfl ?_
    refine e_imul dX6_haveMoved_8 ?_
    refine e_icmp_ge 35 dX6_haveMoved_9 (by decide) hf (fun hf => ?_) (fun hf => ?_)
    · refine e_iconst (w := (nI 0)) dX6_haveMoved_35 (by decide) ?_
      obtain rfl := Option.some.inj hf
      exact e_iret dX6_haveMoved_36 (Or.inl rfl) hP
    · refine e_aload_n 0 dX6_haveMoved_12 rfl rfl ?_
      refine e_getr hV dX6_haveMoved_13 rfl (lc_M hk0) rfl ?_
      refine e_iload_n 1 dX6_haveMoved_16 rfl rfl ?_
      refine e_iald hV dX6_haveMoved_17 (lc_M_pulls hk0) hf (fun v2 hf => ?_)
      refine e_aload_n 0 dX6_haveMoved_18 rfl rfl ?_
      refine e_getr hV dX6_haveMoved_19 rfl (lc_M hk0) rfl ?_
      refine e_iload_n 1 dX6_haveMoved_22 rfl rfl ?_
      refine e_iald hV dX6_haveMoved_23 (lc_M_marks hk0) hf (fun v3 hf => ?_)
      refine e_icmp_eq 29 dX6_haveMoved_24 (by decide) hf (fun hf => ?_) (fun hf => ?_)
      · refine e_iinc 1 dX6_haveMoved_29 (by decide) rfl hf (fun v4 hf => ?_)
        refine e_goto 2 dX6_haveMoved_32 (by decide) ?_
        refine e_pick [1, 0] rfl ?_
        exact ih k0 hk0 v4 hf
      · refine e_iconst (w := (nI 1)) dX6_haveMoved_27 (by decide) ?_
        obtain rfl := Option.some.inj hf
        exact e_iret dX6_haveMoved_28 (Or.inr rfl) hP
set_option maxRecDepth 20000 in
theorem tX6_haveMoved {ρ : mRo} {d : Nat} {P : mPo} {V : mS → List mE} (hV : mView LC V)  {k0 : Nat} (hk0 : k0 < 3) {s : mS} {res : Int32} (hf : fX6_haveMoved k0 s = some res) (hP : P (some (.int res)) (V s)) : mC ρ (d + 1) 34 [.ref (qM k0)] (V s) P := by
  refine ⟨_, rfl, Nat.le_of_ble_eq_true rfl, by decide, ?_⟩
  show mG ρ (mC ρ d) 6 2 cX6_haveMoved (some .boolean) P 0 [(0, .ref (qM k0))] [] (V s)
  unfold fX6_haveMoved at hf
  refine e_iconst (w := (nI 0)) dX6_haveMoved_0 (by decide) ?_
  refine e_istore_n dX6_haveMoved_1 rfl (by decide) hf (fun v1 hf => ?_)
  refine e_pick [1, 0] rfl ?_
  exact wX6_haveMoved_b2 hV hP mFu k0 hk0 v1 hf

theorem dX6_passNight_0 : decode cX6_passNight 0 = .ok (.aload_n 0, 1) := by decide +kernel
theorem dX6_passNight_1 : decode cX6_passNight 1 = .ok (.invokevirtual 50, 3) := by decide +kernel
theorem dX6_passNight_4 : decode cX6_passNight 4 = .ok (.iconst 3, 1) := by decide +kernel
theorem dX6_passNight_5 : decode cX6_passNight 5 = .ok (.aload_n 0, 1) := by decide +kernel
theorem dX6_passNight_6 : decode cX6_passNight 6 = .ok (.getfield 25, 3) := by decide +kernel
theorem dX6_passNight_9 : decode cX6_passNight 9 = .ok (.imul, 1) := by decide +kernel
theorem dX6_passNight_10 : decode cX6_passNight 10 = .ok (.istore_n 1, 1) := by decide +kernel
theorem dX6_passNight_11 : decode cX6_passNight 11 = .ok (.iconst 0, 1) := by decide +kernel
theorem dX6_passNight_12 : decode cX6_passNight 12 = .ok (.istore_n 2, 1) := by decide +kernel
theorem dX6_passNight_13 : decode cX6_passNight 13 = .ok (.iload_n 2, 1) := by decide +kernel
theorem dX6_passNight_14 : decode cX6_passNight 14 = .ok (.iload_n 1, 1) := by decide +kernel
theorem dX6_passNight_15 : decode cX6_passNight 15 = .ok (.if_icmp .ge 49, 3) := by decide +kernel
theorem dX6_passNight_18 : decode cX6_passNight 18 = .ok (.iload_n 2, 1) := by decide +kernel
theorem dX6_passNight_19 : decode cX6_passNight 19 = .ok (.iconst 3, 1) := by decide +kernel
theorem dX6_passNight_20 : decode cX6_passNight 20 = .ok (.iadd, 1) := by decide +kernel
theorem dX6_passNight_21 : decode cX6_passNight 21 = .ok (.iload_n 1, 1) := by decide +kernel
theorem dX6_passNight_22 : decode cX6_passNight 22 = .ok (.if_icmp .ge 9, 3) := by decide +kernel
theorem dX6_passNight_25 : decode cX6_passNight 25 = .ok (.iload_n 2, 1) := by decide +kernel
theorem dX6_passNight_26 : decode cX6_passNight 26 = .ok (.iconst 3, 1) := by decide +kernel
theorem dX6_passNight_27 : decode cX6_passNight 27 = .ok (.iadd, 1) := by decide +kernel
theorem dX6_passNight_28 : decode cX6_passNight 28 = .ok (.goto 8, 3) := by decide +kernel
theorem dX6_passNight_31 : decode cX6_passNight 31 = .ok (.iload_n 2, 1) := by decide +kernel
theorem dX6_passNight_32 : decode cX6_passNight 32 = .ok (.iconst 3, 1) := by decide +kernel
theorem dX6_passNight_33 : decode cX6_passNight 33 = .ok (.iadd, 1) := by decide +kernel
theorem dX6_passNight_34 : decode cX6_passNight 34 = .ok (.iload_n 1, 1) := by decide +kernel
theorem dX6_passNight_35 : decode cX6_passNight 35 = .ok (.isub, 1) := by decide +kernel
theorem dX6_passNight_36 : decode cX6_passNight 36 = .ok (.istore_n 3, 1) := by decide +kernel
theorem dX6_passNight_37 : decode cX6_passNight 37 = .ok (.aload_n 0, 1) := by decide +kernel
theorem dX6_passNight_38 : decode cX6_passNight 38 = .ok (.getfield 11, 3) := by decide +kernel
theorem dX6_passNight_41 : decode cX6_passNight 41 = .ok (.iload_n 2, 1) := by decide +kernel
theorem dX6_passNight_42 : decode cX6_passNight 42 = .ok (.aload_n 0, 1) := by decide +kernel
theorem dX6_passNight_43 : decode cX6_passNight 43 = .ok (.getfield 15, 3) := by decide +kernel
theorem dX6_passNight_46 : decode cX6_passNight 46 = .ok (.iload_n 2, 1) := by decide +kernel
theorem dX6_passNight_47 : decode cX6_passNight 47 = .ok (.iaload, 1) := by decide +kernel
theorem dX6_passNight_48 : decode cX6_passNight 48 = .ok (.aload_n 0, 1) := by decide +kernel
theorem dX6_passNight_49 : decode cX6_passNight 49 = .ok (.getfield 15, 3) := by decide +kernel
theorem dX6_passNight_52 : decode cX6_passNight 52 = .ok (.iload_n 3, 1) := by decide +kernel
theorem dX6_passNight_53 : decode cX6_passNight 53 = .ok (.iaload, 1) := by decide +kernel
theorem dX6_passNight_54 : decode cX6_passNight 54 = .ok (.invokestatic 53, 3) := by decide +kernel
theorem dX6_passNight_57 : decode cX6_passNight 57 = .ok (.iastore, 1) := by decide +kernel
theorem dX6_passNight_58 : decode cX6_passNight 58 = .ok (.iinc 2 1, 3) := by decide +kernel
theorem dX6_passNight_61 : decode cX6_passNight 61 = .ok (.goto (-48), 3) := by decide +kernel
theorem dX6_passNight_64 : decode cX6_passNight 64 = .ok (.return_, 1) := by decide +kernel
def fX6_passNight_b36 (K13 : Nat → Int32 → Int32 → mS → Option mS) (k0 : Nat) (y1 : Int32) (y2 : Int32) (z0 : Int32) (s : mS) : Option mS :=
  bnd z0 fun v4 =>
  ldA s (aM_marks k0) 24 y2 fun v5 =>
  ldA s (aM_marks k0) 24 v4 fun v6 =>
  bO (fX2_nearer v5 v6 s) fun r7 =>
  stA s (aM_pulls k0) 24 y2 r7 fun s8 =>
  bnd (y2 + (nI 1)) fun v9 =>
  K13 k0 y1 v9 s8

def fX6_passNight_b13 : Nat → Nat → Int32 → Int32 → mS → Option mS
  | 0, _, _, _, _ => none
  | k + 1, k0, y1, y2, s =>
    if y1 ≤ y2 then
      some s
    else
      if y1 ≤ (y2 + (nI 3)) then
        fX6_passNight_b36 (fun u0 u1 u2 u3 => fX6_passNight_b13 k u0 u1 u2 u3) k0 y1 y2 ((y2 + (nI 3)) - y1) s
      else
        fX6_passNight_b36 (fun u0 u1 u2 u3 => fX6_passNight_b13 k u0 u1 u2 u3) k0 y1 y2 (y2 + (nI 3)) s

def fX6_passNight (k0 : Nat) (s : mS) : Option mS :=
  bO (fX6_markPulls k0 s) fun s1 =>
  bnd ((nI 3) * (gI s1 (iM_size k0))) fun v2 =>
  bnd (nI 0) fun v3 =>
  fX6_passNight_b13 mFu k0 v2 v3 s1

set_option maxRecDepth 20000 in
theorem wX6_passNight_b36 {ρ : mRo} {d : Nat} {P : mPo} {V : mS → List mE} (hV : mView LC V)  {res : mS} {K13 : Nat → Int32 → Int32 → mS → Option mS} (hK13 : ∀ (k0 : Nat) (hk0 : k0 < 3) (y1 : Int32) (y2 : Int32) (s : mS), K13 k0 y1 y2 s = some res → mG ρ (mC ρ (d + 1)) 6 4 cX6_passNight none P 13 [(0, .ref (qM k0)), (1, .int y1), (2, .int y2)] [] (V s)) (hP : P none (V res)) (k0 : Nat) (hk0 : k0 < 3) (y1 : Int32) (y2 : Int32) (z0 : Int32) (s : mS) (hf : fX6_passNight_b36 K13 k0 y1 y2 z0 s = some res) : mG ρ (mC ρ (d + 1)) 6 4 cX6_passNight none P 36 [(0, .ref (qM k0)), (1, .int y1), (2, .int y2)] [.int z0] (V s) := by
  unfold fX6_passNight_b36 at hf
  refine e_istore_n dX6_passNight_36 rfl (by decide) hf (fun v4 hf => ?_)
  refine e_aload_n 1 dX6_passNight_37 rfl rfl ?_
  refine e_getr hV dX6_passNight_38 rfl (lc_M hk0) rfl ?_
  refine e_iload_n 3 dX6_passNight_41 rfl rfl ?_
  refine e_aload_n 1 dX6_passNight_42 rfl rfl ?_
  refine e_getr hV dX6_passNight_43 rfl (lc_M hk0) rfl ?_
  refine e_iload_n 3 dX6_passNight_46 rfl rfl ?_
  refine e_iald hV dX6_passNight_47 (lc_M_marks hk0) hf (fun v5 hf => ?_)
  refine e_aload_n 1 dX6_passNight_48 rfl rfl ?_
  refine e_getr hV dX6_passNight_49 rfl (lc_M hk0) rfl ?_
  refine e_iload_n 0 dX6_passNight_52 rfl rfl ?_
  refine e_iald hV dX6_passNight_53 (lc_M_marks hk0) hf (fun v6 hf => ?_)
  obtain ⟨r7, hg, hf⟩ := bO_some hf
  refine e_callS (as := [.int v5, .int v6]) (v := (some (.int r7))) (s' := s) dX6_passNight_54 rfl rfl rfl rfl rfl (Nat.le_of_ble_eq_true rfl) (fun Q hQ => tX2_nearer (d := d) hV  hg hQ) ?_
  refine e_iast hV dX6_passNight_57 (lc_M_pulls hk0) hf (fun s8 hf => ?_)
  refine e_iinc 3 dX6_passNight_58 (by decide) rfl hf (fun v9 hf => ?_)
  refine e_goto 13 dX6_passNight_61 (by decide) ?_
  refine e_pick [2, 3, 0] rfl ?_
  exact hK13 k0 hk0 y1 v9 s8 hf
set_option maxRecDepth 20000 in
theorem wX6_passNight_b13 {ρ : mRo} {d : Nat} {P : mPo} {V : mS → List mE} (hV : mView LC V)  {res : mS} (hP : P none (V res)) : ∀ (k : Nat) (k0 : Nat) (hk0 : k0 < 3) (y1 : Int32) (y2 : Int32) (s : mS), fX6_passNight_b13 k k0 y1 y2 s = some res → mG ρ (mC ρ (d + 1)) 6 4 cX6_passNight none P 13 [(0, .ref (qM k0)), (1, .int y1), (2, .int y2)] [] (V s) := by
  intro k
  induction k with
  | zero => intro k0 hk0 y1 y2 s hf; rw [fX6_passNight_b13] at hf; cases hf
  | succ k ih =>
    intro k0 hk0 y1 y2 s hf
    rw [fX6_passNight_b13] at hf
    refine e_iload_n 2 dX6_passNight_13 rfl rfl ?_
    refine e_iload_n 1 dX6_passNight_14 rfl rfl ?_
    refine e_icmp_ge 64 dX6_passNight_15 (by decide) hf (fun hf => ?_) (fun hf => ?_)
    · obtain rfl := Option.some.inj hf
      exact e_ret dX6_passNight_64 rfl hP
    · refine e_iload_n 2 dX6_passNight_18 rfl rfl ?_
      refine e_iconst (w := (nI 3)) dX6_passNight_19 (by decide) ?_
      refine e_iadd dX6_passNight_20 ?_
      refine e_iload_n 1 dX6_passNight_21 rfl rfl ?_
      refine e_icmp_ge 31 dX6_passNight_22 (by decide) hf (fun hf => ?_) (fun hf => ?_)
      · refine e_iload_n 2 dX6_passNight_31 rfl rfl ?_
        refine e_iconst (w := (nI 3)) dX6_passNight_32 (by decide) ?_
        refine e_iadd dX6_passNight_33 ?_
        refine e_iload_n 1 dX6_passNight_34 rfl rfl ?_
        refine e_isub dX6_passNight_35 ?_
        refine e_pick [0, 1, 2] rfl ?_
        exact wX6_passNight_b36 hV ih hP k0 hk0 y1 y2 ((y2 + (nI 3)) - y1) s hf
      · refine e_iload_n 2 dX6_passNight_25 rfl rfl ?_
        refine e_iconst (w := (nI 3)) dX6_passNight_26 (by decide) ?_
        refine e_iadd dX6_passNight_27 ?_
        refine e_goto 36 dX6_passNight_28 (by decide) ?_
        refine e_pick [0, 1, 2] rfl ?_
        exact wX6_passNight_b36 hV ih hP k0 hk0 y1 y2 (y2 + (nI 3)) s hf
set_option maxRecDepth 20000 in
theorem tX6_passNight {ρ : mRo} {d : Nat} {P : mPo} {V : mS → List mE} (hV : mView LC V)  {k0 : Nat} (hk0 : k0 < 3) {s : mS} {res : mS} (hf : fX6_passNight k0 s = some res) (hP : P none (V res)) : mC ρ (d + 2) 35 [.ref (qM k0)] (V s) P := by
  refine ⟨_, rfl, Nat.le_of_ble_eq_true rfl, by decide, ?_⟩
  show mG ρ (mC ρ (d + 1)) 6 4 cX6_passNight none P 0 [(0, .ref (qM k0))] [] (V s)
  unfold fX6_passNight at hf
  refine e_aload_n 0 dX6_passNight_0 rfl rfl ?_
  obtain ⟨s1, hg, hf⟩ := bO_some hf
  refine e_callV (as := []) (v := none) (s' := s1) hV dX6_passNight_1 (Or.inl rfl) rfl rfl rfl rfl (Nat.le_of_ble_eq_true rfl) (lc_M hk0) rfl rfl (fun Q hQ => tX6_markPulls (d := d) hV hk0 hg hQ) ?_
  refine e_iconst (w := (nI 3)) dX6_passNight_4 (by decide) ?_
  refine e_aload_n 0 dX6_passNight_5 rfl rfl ?_
  refine e_geti hV dX6_passNight_6 rfl (lc_M hk0) rfl ?_
  refine e_imul dX6_passNight_9 ?_
  refine e_istore_n dX6_passNight_10 rfl (by decide) hf (fun v2 hf => ?_)
  refine e_iconst (w := (nI 0)) dX6_passNight_11 (by decide) ?_
  refine e_istore_n dX6_passNight_12 rfl (by decide) hf (fun v3 hf => ?_)
  refine e_pick [2, 1, 0] rfl ?_
  exact wX6_passNight_b13 hV hP mFu k0 hk0 v2 v3 s1 hf

theorem dX6_areAllAlike_0 : decode cX6_areAllAlike 0 = .ok (.iconst 3, 1) := by decide +kernel
theorem dX6_areAllAlike_1 : decode cX6_areAllAlike 1 = .ok (.istore_n 1, 1) := by decide +kernel
theorem dX6_areAllAlike_2 : decode cX6_areAllAlike 2 = .ok (.iload_n 1, 1) := by decide +kernel
theorem dX6_areAllAlike_3 : decode cX6_areAllAlike 3 = .ok (.iconst 3, 1) := by decide +kernel
theorem dX6_areAllAlike_4 : decode cX6_areAllAlike 4 = .ok (.aload_n 0, 1) := by decide +kernel
theorem dX6_areAllAlike_5 : decode cX6_areAllAlike 5 = .ok (.getfield 25, 3) := by decide +kernel
theorem dX6_areAllAlike_8 : decode cX6_areAllAlike 8 = .ok (.imul, 1) := by decide +kernel
theorem dX6_areAllAlike_9 : decode cX6_areAllAlike 9 = .ok (.if_icmp .ge 28, 3) := by decide +kernel
theorem dX6_areAllAlike_12 : decode cX6_areAllAlike 12 = .ok (.aload_n 0, 1) := by decide +kernel
theorem dX6_areAllAlike_13 : decode cX6_areAllAlike 13 = .ok (.getfield 11, 3) := by decide +kernel
theorem dX6_areAllAlike_16 : decode cX6_areAllAlike 16 = .ok (.iload_n 1, 1) := by decide +kernel
theorem dX6_areAllAlike_17 : decode cX6_areAllAlike 17 = .ok (.iaload, 1) := by decide +kernel
theorem dX6_areAllAlike_18 : decode cX6_areAllAlike 18 = .ok (.aload_n 0, 1) := by decide +kernel
theorem dX6_areAllAlike_19 : decode cX6_areAllAlike 19 = .ok (.getfield 11, 3) := by decide +kernel
theorem dX6_areAllAlike_22 : decode cX6_areAllAlike 22 = .ok (.iload_n 1, 1) := by decide +kernel
theorem dX6_areAllAlike_23 : decode cX6_areAllAlike 23 = .ok (.iconst 3, 1) := by decide +kernel
theorem dX6_areAllAlike_24 : decode cX6_areAllAlike 24 = .ok (.isub, 1) := by decide +kernel
theorem dX6_areAllAlike_25 : decode cX6_areAllAlike 25 = .ok (.iaload, 1) := by decide +kernel
theorem dX6_areAllAlike_26 : decode cX6_areAllAlike 26 = .ok (.if_icmp .eq 5, 3) := by decide +kernel
theorem dX6_areAllAlike_29 : decode cX6_areAllAlike 29 = .ok (.iconst 0, 1) := by decide +kernel
theorem dX6_areAllAlike_30 : decode cX6_areAllAlike 30 = .ok (.ireturn, 1) := by decide +kernel
theorem dX6_areAllAlike_31 : decode cX6_areAllAlike 31 = .ok (.iinc 1 1, 3) := by decide +kernel
theorem dX6_areAllAlike_34 : decode cX6_areAllAlike 34 = .ok (.goto (-32), 3) := by decide +kernel
theorem dX6_areAllAlike_37 : decode cX6_areAllAlike 37 = .ok (.iconst 1, 1) := by decide +kernel
theorem dX6_areAllAlike_38 : decode cX6_areAllAlike 38 = .ok (.ireturn, 1) := by decide +kernel
def fX6_areAllAlike_b2 : Nat → Nat → Int32 → mS → Option Int32
  | 0, _, _, _ => none
  | k + 1, k0, y1, s =>
    if ((nI 3) * (gI s (iM_size k0))) ≤ y1 then
      some (nI 1)
    else
      ldA s (aM_pulls k0) 24 y1 fun v2 =>
      ldA s (aM_pulls k0) 24 (y1 - (nI 3)) fun v3 =>
      if v2 = v3 then
        bnd (y1 + (nI 1)) fun v4 =>
        fX6_areAllAlike_b2 k k0 v4 s
      else
        some (nI 0)

def fX6_areAllAlike (k0 : Nat) (s : mS) : Option Int32 :=
  bnd (nI 3) fun v1 =>
  fX6_areAllAlike_b2 mFu k0 v1 s

set_option maxRecDepth 20000 in
theorem wX6_areAllAlike_b2 {ρ : mRo} {d : Nat} {P : mPo} {V : mS → List mE} (hV : mView LC V)  {res : Int32} {s : mS} (hP : P (some (.int res)) (V s)) : ∀ (k : Nat) (k0 : Nat) (hk0 : k0 < 3) (y1 : Int32), fX6_areAllAlike_b2 k k0 y1 s = some res → mG ρ (mC ρ d) 6 2 cX6_areAllAlike (some .boolean) P 2 [(0, .ref (qM k0)), (1, .int y1)] [] (V s) := by
  intro k
  induction k with
  | zero => intro k0 hk0 y1 hf; rw [fX6_areAllAlike_b2] at hf; cases hf
  | succ k ih =>
    intro k0 hk0 y1 hf
    rw [fX6_areAllAlike_b2] at hf
    refine e_iload_n 1 dX6_areAllAlike_2 rfl rfl ?_
    refine e_iconst (w := (nI 3)) dX6_areAllAlike_3 (by decide) ?_
    refine e_aload_n 0 dX6_areAllAlike_4 rfl rfl ?_
    refine e_geti hV dX6_areAllAlike_5 rfl (lc_M hk0) rfl ?_
    refine e_imul dX6_areAllAlike_8 ?_
    refine e_icmp_ge 37 dX6_areAllAlike_9 (by decide) hf (fun hf => ?_) (fun hf => ?_)
    · refine e_iconst (w := (nI 1)) dX6_areAllAlike_37 (by decide) ?_
      obtain rfl := Option.some.inj hf
      exact e_iret dX6_areAllAlike_38 (Or.inr rfl) hP
    · refine e_aload_n 0 dX6_areAllAlike_12 rfl rfl ?_
      refine e_getr hV dX6_areAllAlike_13 rfl (lc_M hk0) rfl ?_
      refine e_iload_n 1 dX6_areAllAlike_16 rfl rfl ?_
      refine e_iald hV dX6_areAllAlike_17 (lc_M_pulls hk0) hf (fun v2 hf => ?_)
      refine e_aload_n 0 dX6_areAllAlike_18 rfl rfl ?_
      refine e_getr hV dX6_areAllAlike_19 rfl (lc_M hk0) rfl ?_
      refine e_iload_n 1 dX6_areAllAlike_22 rfl rfl ?_
      refine e_iconst (w := (nI 3)) dX6_areAllAlike_23 (by decide) ?_
      refine e_isub dX6_areAllAlike_24 ?_
      refine e_iald hV dX6_areAllAlike_25 (lc_M_pulls hk0) hf (fun v3 hf => ?_)
      refine e_icmp_eq 31 dX6_areAllAlike_26 (by decide) hf (fun hf => ?_) (fun hf => ?_)
      · refine e_iinc 1 dX6_areAllAlike_31 (by decide) rfl hf (fun v4 hf => ?_)
        refine e_goto 2 dX6_areAllAlike_34 (by decide) ?_
        refine e_pick [1, 0] rfl ?_
        exact ih k0 hk0 v4 hf
      · refine e_iconst (w := (nI 0)) dX6_areAllAlike_29 (by decide) ?_
        obtain rfl := Option.some.inj hf
        exact e_iret dX6_areAllAlike_30 (Or.inl rfl) hP
set_option maxRecDepth 20000 in
theorem tX6_areAllAlike {ρ : mRo} {d : Nat} {P : mPo} {V : mS → List mE} (hV : mView LC V)  {k0 : Nat} (hk0 : k0 < 3) {s : mS} {res : Int32} (hf : fX6_areAllAlike k0 s = some res) (hP : P (some (.int res)) (V s)) : mC ρ (d + 1) 36 [.ref (qM k0)] (V s) P := by
  refine ⟨_, rfl, Nat.le_of_ble_eq_true rfl, by decide, ?_⟩
  show mG ρ (mC ρ d) 6 2 cX6_areAllAlike (some .boolean) P 0 [(0, .ref (qM k0))] [] (V s)
  unfold fX6_areAllAlike at hf
  refine e_iconst (w := (nI 3)) dX6_areAllAlike_0 (by decide) ?_
  refine e_istore_n dX6_areAllAlike_1 rfl (by decide) hf (fun v1 hf => ?_)
  refine e_pick [1, 0] rfl ?_
  exact wX6_areAllAlike_b2 hV hP mFu k0 hk0 v1 hf

theorem dX7_isRow_0 : decode cX7_isRow 0 = .ok (.aload_n 0, 1) := by decide +kernel
theorem dX7_isRow_1 : decode cX7_isRow 1 = .ok (.getfield 13, 3) := by decide +kernel
theorem dX7_isRow_4 : decode cX7_isRow 4 = .ok (.iconst (-1), 1) := by decide +kernel
theorem dX7_isRow_5 : decode cX7_isRow 5 = .ok (.if_icmp .eq 7, 3) := by decide +kernel
theorem dX7_isRow_8 : decode cX7_isRow 8 = .ok (.iconst 1, 1) := by decide +kernel
theorem dX7_isRow_9 : decode cX7_isRow 9 = .ok (.goto 4, 3) := by decide +kernel
theorem dX7_isRow_12 : decode cX7_isRow 12 = .ok (.iconst 0, 1) := by decide +kernel
theorem dX7_isRow_13 : decode cX7_isRow 13 = .ok (.ireturn, 1) := by decide +kernel
def fX7_isRow (k0 : Nat) (s : mS) : Option Int32 :=
  if (gI s (iS_sort k0)) = (-1) then
    some (nI 0)
  else
    some (nI 1)

set_option maxRecDepth 20000 in
theorem tX7_isRow {ρ : mRo} {d : Nat} {P : mPo} {V : mS → List mE} (hV : mView LC V)  {k0 : Nat} (hk0 : k0 < 6) {s : mS} {res : Int32} (hf : fX7_isRow k0 s = some res) (hP : P (some (.int res)) (V s)) : mC ρ (d + 1) 37 [.ref (qS k0)] (V s) P := by
  refine ⟨_, rfl, Nat.le_of_ble_eq_true rfl, by decide, ?_⟩
  show mG ρ (mC ρ d) 7 1 cX7_isRow (some .boolean) P 0 [(0, .ref (qS k0))] [] (V s)
  unfold fX7_isRow at hf
  refine e_aload_n 0 dX7_isRow_0 rfl rfl ?_
  refine e_geti hV dX7_isRow_1 rfl (lc_S hk0) rfl ?_
  refine e_iconst (w := (-1)) dX7_isRow_4 (by decide) ?_
  refine e_icmp_eq 12 dX7_isRow_5 (by decide) hf (fun hf => ?_) (fun hf => ?_)
  · refine e_iconst (w := (nI 0)) dX7_isRow_12 (by decide) ?_
    obtain rfl := Option.some.inj hf
    exact e_iret dX7_isRow_13 (Or.inl rfl) hP
  · refine e_iconst (w := (nI 1)) dX7_isRow_8 (by decide) ?_
    refine e_goto 13 dX7_isRow_9 (by decide) ?_
    obtain rfl := Option.some.inj hf
    exact e_iret dX7_isRow_13 (Or.inr rfl) hP

theorem dX7_isRowOf_0 : decode cX7_isRowOf 0 = .ok (.aload_n 0, 1) := by decide +kernel
theorem dX7_isRowOf_1 : decode cX7_isRowOf 1 = .ok (.getfield 13, 3) := by decide +kernel
theorem dX7_isRowOf_4 : decode cX7_isRowOf 4 = .ok (.iload_n 1, 1) := by decide +kernel
theorem dX7_isRowOf_5 : decode cX7_isRowOf 5 = .ok (.if_icmp .ne 7, 3) := by decide +kernel
theorem dX7_isRowOf_8 : decode cX7_isRowOf 8 = .ok (.iconst 1, 1) := by decide +kernel
theorem dX7_isRowOf_9 : decode cX7_isRowOf 9 = .ok (.goto 4, 3) := by decide +kernel
theorem dX7_isRowOf_12 : decode cX7_isRowOf 12 = .ok (.iconst 0, 1) := by decide +kernel
theorem dX7_isRowOf_13 : decode cX7_isRowOf 13 = .ok (.ireturn, 1) := by decide +kernel
def fX7_isRowOf (k0 : Nat) (x1 : Int32) (s : mS) : Option Int32 :=
  if (gI s (iS_sort k0)) = x1 then
    some (nI 1)
  else
    some (nI 0)

set_option maxRecDepth 20000 in
theorem tX7_isRowOf {ρ : mRo} {d : Nat} {P : mPo} {V : mS → List mE} (hV : mView LC V)  {k0 : Nat} (hk0 : k0 < 6) {x1 : Int32} {s : mS} {res : Int32} (hf : fX7_isRowOf k0 x1 s = some res) (hP : P (some (.int res)) (V s)) : mC ρ (d + 1) 38 [.ref (qS k0), .int x1] (V s) P := by
  refine ⟨_, rfl, Nat.le_of_ble_eq_true rfl, by decide, ?_⟩
  show mG ρ (mC ρ d) 7 2 cX7_isRowOf (some .boolean) P 0 [(0, .ref (qS k0)), (1, .int x1)] [] (V s)
  unfold fX7_isRowOf at hf
  refine e_aload_n 0 dX7_isRowOf_0 rfl rfl ?_
  refine e_geti hV dX7_isRowOf_1 rfl (lc_S hk0) rfl ?_
  refine e_iload_n 1 dX7_isRowOf_4 rfl rfl ?_
  refine e_icmp_ne 12 dX7_isRowOf_5 (by decide) hf (fun hf => ?_) (fun hf => ?_)
  · refine e_iconst (w := (nI 0)) dX7_isRowOf_12 (by decide) ?_
    obtain rfl := Option.some.inj hf
    exact e_iret dX7_isRowOf_13 (Or.inl rfl) hP
  · refine e_iconst (w := (nI 1)) dX7_isRowOf_8 (by decide) ?_
    refine e_goto 13 dX7_isRowOf_9 (by decide) ?_
    obtain rfl := Option.some.inj hf
    exact e_iret dX7_isRowOf_13 (Or.inr rfl) hP

theorem dX7_isEmpty_0 : decode cX7_isEmpty 0 = .ok (.aload_n 0, 1) := by decide +kernel
theorem dX7_isEmpty_1 : decode cX7_isEmpty 1 = .ok (.getfield 13, 3) := by decide +kernel
theorem dX7_isEmpty_4 : decode cX7_isEmpty 4 = .ok (.iconst (-1), 1) := by decide +kernel
theorem dX7_isEmpty_5 : decode cX7_isEmpty 5 = .ok (.if_icmp .ne 15, 3) := by decide +kernel
theorem dX7_isEmpty_8 : decode cX7_isEmpty 8 = .ok (.aload_n 0, 1) := by decide +kernel
theorem dX7_isEmpty_9 : decode cX7_isEmpty 9 = .ok (.getfield 17, 3) := by decide +kernel
theorem dX7_isEmpty_12 : decode cX7_isEmpty 12 = .ok (.iconst (-1), 1) := by decide +kernel
theorem dX7_isEmpty_13 : decode cX7_isEmpty 13 = .ok (.if_icmp .ne 7, 3) := by decide +kernel
theorem dX7_isEmpty_16 : decode cX7_isEmpty 16 = .ok (.iconst 1, 1) := by decide +kernel
theorem dX7_isEmpty_17 : decode cX7_isEmpty 17 = .ok (.goto 4, 3) := by decide +kernel
theorem dX7_isEmpty_20 : decode cX7_isEmpty 20 = .ok (.iconst 0, 1) := by decide +kernel
theorem dX7_isEmpty_21 : decode cX7_isEmpty 21 = .ok (.ireturn, 1) := by decide +kernel
def fX7_isEmpty (k0 : Nat) (s : mS) : Option Int32 :=
  if (gI s (iS_sort k0)) = (-1) then
    if (gI s (iS_ghost k0)) = (-1) then
      some (nI 1)
    else
      some (nI 0)
  else
    some (nI 0)

set_option maxRecDepth 20000 in
theorem tX7_isEmpty {ρ : mRo} {d : Nat} {P : mPo} {V : mS → List mE} (hV : mView LC V)  {k0 : Nat} (hk0 : k0 < 6) {s : mS} {res : Int32} (hf : fX7_isEmpty k0 s = some res) (hP : P (some (.int res)) (V s)) : mC ρ (d + 1) 39 [.ref (qS k0)] (V s) P := by
  refine ⟨_, rfl, Nat.le_of_ble_eq_true rfl, by decide, ?_⟩
  show mG ρ (mC ρ d) 7 1 cX7_isEmpty (some .boolean) P 0 [(0, .ref (qS k0))] [] (V s)
  unfold fX7_isEmpty at hf
  refine e_aload_n 0 dX7_isEmpty_0 rfl rfl ?_
  refine e_geti hV dX7_isEmpty_1 rfl (lc_S hk0) rfl ?_
  refine e_iconst (w := (-1)) dX7_isEmpty_4 (by decide) ?_
  refine e_icmp_ne 20 dX7_isEmpty_5 (by decide) hf (fun hf => ?_) (fun hf => ?_)
  · refine e_iconst (w := (nI 0)) dX7_isEmpty_20 (by decide) ?_
    obtain rfl := Option.some.inj hf
    exact e_iret dX7_isEmpty_21 (Or.inl rfl) hP
  · refine e_aload_n 0 dX7_isEmpty_8 rfl rfl ?_
    refine e_geti hV dX7_isEmpty_9 rfl (lc_S hk0) rfl ?_
    refine e_iconst (w := (-1)) dX7_isEmpty_12 (by decide) ?_
    refine e_icmp_ne 20 dX7_isEmpty_13 (by decide) hf (fun hf => ?_) (fun hf => ?_)
    · refine e_iconst (w := (nI 0)) dX7_isEmpty_20 (by decide) ?_
      obtain rfl := Option.some.inj hf
      exact e_iret dX7_isEmpty_21 (Or.inl rfl) hP
    · refine e_iconst (w := (nI 1)) dX7_isEmpty_16 (by decide) ?_
      refine e_goto 21 dX7_isEmpty_17 (by decide) ?_
      obtain rfl := Option.some.inj hf
      exact e_iret dX7_isEmpty_21 (Or.inr rfl) hP

theorem dX7_holdGhost_0 : decode cX7_holdGhost 0 = .ok (.aload_n 0, 1) := by decide +kernel
theorem dX7_holdGhost_1 : decode cX7_holdGhost 1 = .ok (.iconst (-1), 1) := by decide +kernel
theorem dX7_holdGhost_2 : decode cX7_holdGhost 2 = .ok (.putfield 13, 3) := by decide +kernel
theorem dX7_holdGhost_5 : decode cX7_holdGhost 5 = .ok (.aload_n 0, 1) := by decide +kernel
theorem dX7_holdGhost_6 : decode cX7_holdGhost 6 = .ok (.iconst 0, 1) := by decide +kernel
theorem dX7_holdGhost_7 : decode cX7_holdGhost 7 = .ok (.putfield 20, 3) := by decide +kernel
theorem dX7_holdGhost_10 : decode cX7_holdGhost 10 = .ok (.aload_n 0, 1) := by decide +kernel
theorem dX7_holdGhost_11 : decode cX7_holdGhost 11 = .ok (.iload_n 1, 1) := by decide +kernel
theorem dX7_holdGhost_12 : decode cX7_holdGhost 12 = .ok (.putfield 17, 3) := by decide +kernel
theorem dX7_holdGhost_15 : decode cX7_holdGhost 15 = .ok (.return_, 1) := by decide +kernel
def fX7_holdGhost (k0 : Nat) (x1 : Int32) (s : mS) : Option mS :=
  bnd (pI s (iS_sort k0) (-1)) fun s1 =>
  bnd (pI s1 (iS_size k0) (nI 0)) fun s2 =>
  bnd (pI s2 (iS_ghost k0) x1) fun s3 =>
  some s3

set_option maxRecDepth 20000 in
theorem tX7_holdGhost {ρ : mRo} {d : Nat} {P : mPo} {V : mS → List mE} (hV : mView LC V)  {k0 : Nat} (hk0 : k0 < 6) {x1 : Int32} {s : mS} {res : mS} (hf : fX7_holdGhost k0 x1 s = some res) (hP : P none (V res)) : mC ρ (d + 1) 40 [.ref (qS k0), .int x1] (V s) P := by
  refine ⟨_, rfl, Nat.le_of_ble_eq_true rfl, by decide, ?_⟩
  show mG ρ (mC ρ d) 7 2 cX7_holdGhost none P 0 [(0, .ref (qS k0)), (1, .int x1)] [] (V s)
  unfold fX7_holdGhost at hf
  refine e_aload_n 0 dX7_holdGhost_0 rfl rfl ?_
  refine e_iconst (w := (-1)) dX7_holdGhost_1 (by decide) ?_
  refine e_puti hV dX7_holdGhost_2 rfl rfl rfl (Or.inl rfl) (lc_S hk0) rfl hf (fun s1 hf => ?_)
  refine e_aload_n 0 dX7_holdGhost_5 rfl rfl ?_
  refine e_iconst (w := (nI 0)) dX7_holdGhost_6 (by decide) ?_
  refine e_puti hV dX7_holdGhost_7 rfl rfl rfl (Or.inl rfl) (lc_S hk0) rfl hf (fun s2 hf => ?_)
  refine e_aload_n 0 dX7_holdGhost_10 rfl rfl ?_
  refine e_iload_n 1 dX7_holdGhost_11 rfl rfl ?_
  refine e_puti hV dX7_holdGhost_12 rfl rfl rfl (Or.inl rfl) (lc_S hk0) rfl hf (fun s3 hf => ?_)
  obtain rfl := Option.some.inj hf
  exact e_ret dX7_holdGhost_15 rfl hP

theorem dJ7_fill_d0a16_0 : decode cJ7_fill_d0a16 0 = .ok (.iconst 0, 1) := by decide +kernel
theorem dJ7_fill_d0a16_1 : decode cJ7_fill_d0a16 1 = .ok (.istore_n 3, 1) := by decide +kernel
theorem dJ7_fill_d0a16_2 : decode cJ7_fill_d0a16 2 = .ok (.aload_n 0, 1) := by decide +kernel
theorem dJ7_fill_d0a16_3 : decode cJ7_fill_d0a16 3 = .ok (.arraylength, 1) := by decide +kernel
theorem dJ7_fill_d0a16_4 : decode cJ7_fill_d0a16 4 = .ok (.istore 4, 2) := by decide +kernel
theorem dJ7_fill_d0a16_6 : decode cJ7_fill_d0a16 6 = .ok (.iload_n 3, 1) := by decide +kernel
theorem dJ7_fill_d0a16_7 : decode cJ7_fill_d0a16 7 = .ok (.iload 4, 2) := by decide +kernel
theorem dJ7_fill_d0a16_9 : decode cJ7_fill_d0a16 9 = .ok (.if_icmp .ge 13, 3) := by decide +kernel
theorem dJ7_fill_d0a16_12 : decode cJ7_fill_d0a16 12 = .ok (.aload_n 0, 1) := by decide +kernel
theorem dJ7_fill_d0a16_13 : decode cJ7_fill_d0a16 13 = .ok (.iload_n 3, 1) := by decide +kernel
theorem dJ7_fill_d0a16_14 : decode cJ7_fill_d0a16 14 = .ok (.lload_n 1, 1) := by decide +kernel
theorem dJ7_fill_d0a16_15 : decode cJ7_fill_d0a16 15 = .ok (.lastore, 1) := by decide +kernel
theorem dJ7_fill_d0a16_16 : decode cJ7_fill_d0a16 16 = .ok (.iinc 3 1, 3) := by decide +kernel
theorem dJ7_fill_d0a16_19 : decode cJ7_fill_d0a16 19 = .ok (.goto (-13), 3) := by decide +kernel
theorem dJ7_fill_d0a16_22 : decode cJ7_fill_d0a16 22 = .ok (.return_, 1) := by decide +kernel
def fJ7_fill_d0a16_b6 (n0 d0 : Nat) : Nat → Int64 → Int32 → Int32 → mS → Option mS
  | 0, _, _, _, _ => none
  | k + 1, y1, y3, y4, s =>
    if y4 ≤ y3 then
      some s
    else
      stL s d0 n0 y3 y1 fun s3 =>
      bnd (y3 + (nI 1)) fun v4 =>
      fJ7_fill_d0a16_b6 n0 d0 k y1 v4 y4 s3

def fJ7_fill_d0a16 (n0 d0 : Nat) (x1 : Int64) (s : mS) : Option mS :=
  bnd (nI 0) fun v1 =>
  bnd (nI n0) fun v2 =>
  fJ7_fill_d0a16_b6 n0 d0 mFu x1 v1 v2 s

set_option maxRecDepth 20000 in
theorem wJ7_fill_d0a16_b6 {ρ : mRo} {d : Nat} {P : mPo} {V : mS → List mE} {L : Nat → Option mLE} (hV : mView L V)  {q0 n0 d0 : Nat} (hq0 : L q0 = some (.inr (.inr (.inl (n0, d0))))) {res : mS} (hP : P none (V res)) : ∀ (k : Nat) (y1 : Int64) (y3 : Int32) (y4 : Int32) (s : mS), fJ7_fill_d0a16_b6 n0 d0 k y1 y3 y4 s = some res → mG ρ (mC ρ d) 15 5 cJ7_fill_d0a16 none P 6 [(0, .ref q0), (1, .long y1), (3, .int y3), (4, .int y4)] [] (V s) := by
  intro k
  induction k with
  | zero => intro y1 y3 y4 s hf; rw [fJ7_fill_d0a16_b6] at hf; cases hf
  | succ k ih =>
    intro y1 y3 y4 s hf
    rw [fJ7_fill_d0a16_b6] at hf
    refine e_iload_n 2 dJ7_fill_d0a16_6 rfl rfl ?_
    refine e_iload 3 dJ7_fill_d0a16_7 rfl ?_
    refine e_icmp_ge 22 dJ7_fill_d0a16_9 (by decide) hf (fun hf => ?_) (fun hf => ?_)
    · obtain rfl := Option.some.inj hf
      exact e_ret dJ7_fill_d0a16_22 rfl hP
    · refine e_aload_n 0 dJ7_fill_d0a16_12 rfl rfl ?_
      refine e_iload_n 2 dJ7_fill_d0a16_13 rfl rfl ?_
      refine e_lload_n 1 dJ7_fill_d0a16_14 rfl rfl ?_
      refine e_last hV dJ7_fill_d0a16_15 hq0 hf (fun s3 hf => ?_)
      refine e_iinc 2 dJ7_fill_d0a16_16 (by decide) rfl hf (fun v4 hf => ?_)
      refine e_goto 6 dJ7_fill_d0a16_19 (by decide) ?_
      refine e_pick [1, 2, 0, 3] rfl ?_
      exact ih y1 v4 y4 s3 hf
set_option maxRecDepth 20000 in
theorem tJ7_fill_d0a16 {ρ : mRo} {d : Nat} {P : mPo} {V : mS → List mE} {L : Nat → Option mLE} (hV : mView L V)  {q0 n0 d0 : Nat} (hq0 : L q0 = some (.inr (.inr (.inl (n0, d0))))) {x1 : Int64} {s : mS} {res : mS} (hf : fJ7_fill_d0a16 n0 d0 x1 s = some res) (hP : P none (V res)) : mC ρ (d + 1) 234 [.ref q0, .long x1] (V s) P := by
  refine ⟨_, rfl, Nat.le_of_ble_eq_true rfl, by decide, ?_⟩
  show mG ρ (mC ρ d) 15 5 cJ7_fill_d0a16 none P 0 [(0, .ref q0), (1, .long x1)] [] (V s)
  unfold fJ7_fill_d0a16 at hf
  refine e_iconst (w := (nI 0)) dJ7_fill_d0a16_0 (by decide) ?_
  refine e_istore_n dJ7_fill_d0a16_1 rfl (by decide) hf (fun v1 hf => ?_)
  refine e_aload_n 1 dJ7_fill_d0a16_2 rfl rfl ?_
  refine e_alenJ (w := (nI n0)) hV dJ7_fill_d0a16_3 hq0 rfl ?_
  refine e_istore dJ7_fill_d0a16_4 (by decide) hf (fun v2 hf => ?_)
  refine e_pick [2, 3, 1, 0] rfl ?_
  exact wJ7_fill_d0a16_b6 hV hq0 hP mFu x1 v1 v2 s hf

theorem dX7_holdRow_0 : decode cX7_holdRow 0 = .ok (.aload_n 0, 1) := by decide +kernel
theorem dX7_holdRow_1 : decode cX7_holdRow 1 = .ok (.getfield 9, 3) := by decide +kernel
theorem dX7_holdRow_4 : decode cX7_holdRow 4 = .ok (.lconst 0, 1) := by decide +kernel
theorem dX7_holdRow_5 : decode cX7_holdRow 5 = .ok (.invokestatic 23, 3) := by decide +kernel
theorem dX7_holdRow_8 : decode cX7_holdRow 8 = .ok (.aload_n 0, 1) := by decide +kernel
theorem dX7_holdRow_9 : decode cX7_holdRow 9 = .ok (.iload_n 1, 1) := by decide +kernel
theorem dX7_holdRow_10 : decode cX7_holdRow 10 = .ok (.putfield 13, 3) := by decide +kernel
theorem dX7_holdRow_13 : decode cX7_holdRow 13 = .ok (.aload_n 0, 1) := by decide +kernel
theorem dX7_holdRow_14 : decode cX7_holdRow 14 = .ok (.iload_n 2, 1) := by decide +kernel
theorem dX7_holdRow_15 : decode cX7_holdRow 15 = .ok (.putfield 20, 3) := by decide +kernel
theorem dX7_holdRow_18 : decode cX7_holdRow 18 = .ok (.aload_n 0, 1) := by decide +kernel
theorem dX7_holdRow_19 : decode cX7_holdRow 19 = .ok (.iconst (-1), 1) := by decide +kernel
theorem dX7_holdRow_20 : decode cX7_holdRow 20 = .ok (.putfield 17, 3) := by decide +kernel
theorem dX7_holdRow_23 : decode cX7_holdRow 23 = .ok (.return_, 1) := by decide +kernel
def fX7_holdRow (k0 : Nat) (x1 : Int32) (x2 : Int32) (s : mS) : Option mS :=
  bO (fJ7_fill_d0a16 60 (lS_cells k0) 0 s) fun s1 =>
  bnd (pI s1 (iS_sort k0) x1) fun s2 =>
  bnd (pI s2 (iS_size k0) x2) fun s3 =>
  bnd (pI s3 (iS_ghost k0) (-1)) fun s4 =>
  some s4

set_option maxRecDepth 20000 in
theorem tX7_holdRow {ρ : mRo} {d : Nat} {P : mPo} {V : mS → List mE} (hV : mView LC V)  {k0 : Nat} (hk0 : k0 < 6) {x1 : Int32} {x2 : Int32} {s : mS} {res : mS} (hf : fX7_holdRow k0 x1 x2 s = some res) (hP : P none (V res)) : mC ρ (d + 2) 41 [.ref (qS k0), .int x1, .int x2] (V s) P := by
  refine ⟨_, rfl, Nat.le_of_ble_eq_true rfl, by decide, ?_⟩
  show mG ρ (mC ρ (d + 1)) 7 3 cX7_holdRow none P 0 [(0, .ref (qS k0)), (1, .int x1), (2, .int x2)] [] (V s)
  unfold fX7_holdRow at hf
  refine e_aload_n 0 dX7_holdRow_0 rfl rfl ?_
  refine e_getr hV dX7_holdRow_1 rfl (lc_S hk0) rfl ?_
  refine e_lconst (w := 0) dX7_holdRow_4 (by decide) ?_
  obtain ⟨s1, hg, hf⟩ := bO_some hf
  refine e_callS (as := [.ref (qS_cells k0), .long 0]) (v := none) (s' := s1) dX7_holdRow_5 rfl rfl rfl rfl rfl (Nat.le_of_ble_eq_true rfl) (fun Q hQ => tJ7_fill_d0a16 (d := d) hV (lc_S_cells hk0) hg hQ) ?_
  refine e_aload_n 0 dX7_holdRow_8 rfl rfl ?_
  refine e_iload_n 1 dX7_holdRow_9 rfl rfl ?_
  refine e_puti hV dX7_holdRow_10 rfl rfl rfl (Or.inl rfl) (lc_S hk0) rfl hf (fun s2 hf => ?_)
  refine e_aload_n 0 dX7_holdRow_13 rfl rfl ?_
  refine e_iload_n 2 dX7_holdRow_14 rfl rfl ?_
  refine e_puti hV dX7_holdRow_15 rfl rfl rfl (Or.inl rfl) (lc_S hk0) rfl hf (fun s3 hf => ?_)
  refine e_aload_n 0 dX7_holdRow_18 rfl rfl ?_
  refine e_iconst (w := (-1)) dX7_holdRow_19 (by decide) ?_
  refine e_puti hV dX7_holdRow_20 rfl rfl rfl (Or.inl rfl) (lc_S hk0) rfl hf (fun s4 hf => ?_)
  obtain rfl := Option.some.inj hf
  exact e_ret dX7_holdRow_23 rfl hP

theorem dX7_hasSpan_0 : decode cX7_hasSpan 0 = .ok (.iload_n 1, 1) := by decide +kernel
theorem dX7_hasSpan_1 : decode cX7_hasSpan 1 = .ok (.ifCond .lt 29, 3) := by decide +kernel
theorem dX7_hasSpan_4 : decode cX7_hasSpan 4 = .ok (.iload_n 2, 1) := by decide +kernel
theorem dX7_hasSpan_5 : decode cX7_hasSpan 5 = .ok (.ifCond .lt 25, 3) := by decide +kernel
theorem dX7_hasSpan_8 : decode cX7_hasSpan 8 = .ok (.iload_n 2, 1) := by decide +kernel
theorem dX7_hasSpan_9 : decode cX7_hasSpan 9 = .ok (.aload_n 0, 1) := by decide +kernel
theorem dX7_hasSpan_10 : decode cX7_hasSpan 10 = .ok (.getfield 20, 3) := by decide +kernel
theorem dX7_hasSpan_13 : decode cX7_hasSpan 13 = .ok (.if_icmp .gt 17, 3) := by decide +kernel
theorem dX7_hasSpan_16 : decode cX7_hasSpan 16 = .ok (.iload_n 1, 1) := by decide +kernel
theorem dX7_hasSpan_17 : decode cX7_hasSpan 17 = .ok (.aload_n 0, 1) := by decide +kernel
theorem dX7_hasSpan_18 : decode cX7_hasSpan 18 = .ok (.getfield 20, 3) := by decide +kernel
theorem dX7_hasSpan_21 : decode cX7_hasSpan 21 = .ok (.iload_n 2, 1) := by decide +kernel
theorem dX7_hasSpan_22 : decode cX7_hasSpan 22 = .ok (.isub, 1) := by decide +kernel
theorem dX7_hasSpan_23 : decode cX7_hasSpan 23 = .ok (.if_icmp .gt 7, 3) := by decide +kernel
theorem dX7_hasSpan_26 : decode cX7_hasSpan 26 = .ok (.iconst 1, 1) := by decide +kernel
theorem dX7_hasSpan_27 : decode cX7_hasSpan 27 = .ok (.goto 4, 3) := by decide +kernel
theorem dX7_hasSpan_30 : decode cX7_hasSpan 30 = .ok (.iconst 0, 1) := by decide +kernel
theorem dX7_hasSpan_31 : decode cX7_hasSpan 31 = .ok (.ireturn, 1) := by decide +kernel
def fX7_hasSpan (k0 : Nat) (x1 : Int32) (x2 : Int32) (s : mS) : Option Int32 :=
  if x1 < 0 then
    some (nI 0)
  else
    if x2 < 0 then
      some (nI 0)
    else
      if (gI s (iS_size k0)) < x2 then
        some (nI 0)
      else
        if ((gI s (iS_size k0)) - x2) < x1 then
          some (nI 0)
        else
          some (nI 1)

set_option maxRecDepth 20000 in
theorem tX7_hasSpan {ρ : mRo} {d : Nat} {P : mPo} {V : mS → List mE} (hV : mView LC V)  {k0 : Nat} (hk0 : k0 < 6) {x1 : Int32} {x2 : Int32} {s : mS} {res : Int32} (hf : fX7_hasSpan k0 x1 x2 s = some res) (hP : P (some (.int res)) (V s)) : mC ρ (d + 1) 42 [.ref (qS k0), .int x1, .int x2] (V s) P := by
  refine ⟨_, rfl, Nat.le_of_ble_eq_true rfl, by decide, ?_⟩
  show mG ρ (mC ρ d) 7 3 cX7_hasSpan (some .boolean) P 0 [(0, .ref (qS k0)), (1, .int x1), (2, .int x2)] [] (V s)
  unfold fX7_hasSpan at hf
  refine e_iload_n 1 dX7_hasSpan_0 rfl rfl ?_
  refine e_if_lt 30 dX7_hasSpan_1 (by decide) hf (fun hf => ?_) (fun hf => ?_)
  · refine e_iconst (w := (nI 0)) dX7_hasSpan_30 (by decide) ?_
    obtain rfl := Option.some.inj hf
    exact e_iret dX7_hasSpan_31 (Or.inl rfl) hP
  · refine e_iload_n 2 dX7_hasSpan_4 rfl rfl ?_
    refine e_if_lt 30 dX7_hasSpan_5 (by decide) hf (fun hf => ?_) (fun hf => ?_)
    · refine e_iconst (w := (nI 0)) dX7_hasSpan_30 (by decide) ?_
      obtain rfl := Option.some.inj hf
      exact e_iret dX7_hasSpan_31 (Or.inl rfl) hP
    · refine e_iload_n 2 dX7_hasSpan_8 rfl rfl ?_
      refine e_aload_n 0 dX7_hasSpan_9 rfl rfl ?_
      refine e_geti hV dX7_hasSpan_10 rfl (lc_S hk0) rfl ?_
      refine e_icmp_gt 30 dX7_hasSpan_13 (by decide) hf (fun hf => ?_) (fun hf => ?_)
      · refine e_iconst (w := (nI 0)) dX7_hasSpan_30 (by decide) ?_
        obtain rfl := Option.some.inj hf
        exact e_iret dX7_hasSpan_31 (Or.inl rfl) hP
      · refine e_iload_n 1 dX7_hasSpan_16 rfl rfl ?_
        refine e_aload_n 0 dX7_hasSpan_17 rfl rfl ?_
        refine e_geti hV dX7_hasSpan_18 rfl (lc_S hk0) rfl ?_
        refine e_iload_n 2 dX7_hasSpan_21 rfl rfl ?_
        refine e_isub dX7_hasSpan_22 ?_
        refine e_icmp_gt 30 dX7_hasSpan_23 (by decide) hf (fun hf => ?_) (fun hf => ?_)
        · refine e_iconst (w := (nI 0)) dX7_hasSpan_30 (by decide) ?_
          obtain rfl := Option.some.inj hf
          exact e_iret dX7_hasSpan_31 (Or.inl rfl) hP
        · refine e_iconst (w := (nI 1)) dX7_hasSpan_26 (by decide) ?_
          refine e_goto 31 dX7_hasSpan_27 (by decide) ?_
          obtain rfl := Option.some.inj hf
          exact e_iret dX7_hasSpan_31 (Or.inr rfl) hP

theorem dX7_lowest_0 : decode cX7_lowest 0 = .ok (.aload_n 0, 1) := by decide +kernel
theorem dX7_lowest_1 : decode cX7_lowest 1 = .ok (.getfield 13, 3) := by decide +kernel
theorem dX7_lowest_4 : decode cX7_lowest 4 = .ok (.tableswitch 48 0 3 #[32, 37, 42, 46], 32) := by decide +kernel
theorem dX7_lowest_36 : decode cX7_lowest 36 = .ok (.lload_n 1, 1) := by decide +kernel
theorem dX7_lowest_37 : decode cX7_lowest 37 = .ok (.l2i, 1) := by decide +kernel
theorem dX7_lowest_38 : decode cX7_lowest 38 = .ok (.i2b, 1) := by decide +kernel
theorem dX7_lowest_39 : decode cX7_lowest 39 = .ok (.i2l, 1) := by decide +kernel
theorem dX7_lowest_40 : decode cX7_lowest 40 = .ok (.lreturn, 1) := by decide +kernel
theorem dX7_lowest_41 : decode cX7_lowest 41 = .ok (.lload_n 1, 1) := by decide +kernel
theorem dX7_lowest_42 : decode cX7_lowest 42 = .ok (.l2i, 1) := by decide +kernel
theorem dX7_lowest_43 : decode cX7_lowest 43 = .ok (.i2s, 1) := by decide +kernel
theorem dX7_lowest_44 : decode cX7_lowest 44 = .ok (.i2l, 1) := by decide +kernel
theorem dX7_lowest_45 : decode cX7_lowest 45 = .ok (.lreturn, 1) := by decide +kernel
theorem dX7_lowest_46 : decode cX7_lowest 46 = .ok (.lload_n 1, 1) := by decide +kernel
theorem dX7_lowest_47 : decode cX7_lowest 47 = .ok (.l2i, 1) := by decide +kernel
theorem dX7_lowest_48 : decode cX7_lowest 48 = .ok (.i2l, 1) := by decide +kernel
theorem dX7_lowest_49 : decode cX7_lowest 49 = .ok (.lreturn, 1) := by decide +kernel
theorem dX7_lowest_50 : decode cX7_lowest 50 = .ok (.lload_n 1, 1) := by decide +kernel
theorem dX7_lowest_51 : decode cX7_lowest 51 = .ok (.lreturn, 1) := by decide +kernel
theorem dX7_lowest_52 : decode cX7_lowest 52 = .ok (.lload_n 1, 1) := by decide +kernel
theorem dX7_lowest_53 : decode cX7_lowest 53 = .ok (.lconst 0, 1) := by decide +kernel
theorem dX7_lowest_54 : decode cX7_lowest 54 = .ok (.lcmp, 1) := by decide +kernel
theorem dX7_lowest_55 : decode cX7_lowest 55 = .ok (.ifCond .eq 7, 3) := by decide +kernel
theorem dX7_lowest_58 : decode cX7_lowest 58 = .ok (.lconst 1, 1) := by decide +kernel
theorem dX7_lowest_59 : decode cX7_lowest 59 = .ok (.goto 4, 3) := by decide +kernel
theorem dX7_lowest_62 : decode cX7_lowest 62 = .ok (.lconst 0, 1) := by decide +kernel
theorem dX7_lowest_63 : decode cX7_lowest 63 = .ok (.lreturn, 1) := by decide +kernel
def fX7_lowest (k0 : Nat) (x1 : Int64) (s : mS) : Option Int64 :=
  if (gI s (iS_sort k0)) = (nI 0) then
    some (Int32.toInt64 ((Int32.toInt8 (Int64.toInt32 x1)).toInt32))
  else if (gI s (iS_sort k0)) = (nI 1) then
    some (Int32.toInt64 ((Int32.toInt16 (Int64.toInt32 x1)).toInt32))
  else if (gI s (iS_sort k0)) = (nI 2) then
    some (Int32.toInt64 (Int64.toInt32 x1))
  else if (gI s (iS_sort k0)) = (nI 3) then
    some x1
  else
    if (lg_cmp x1 0) = 0 then
      some 0
    else
      some 1

set_option maxRecDepth 20000 in
theorem tX7_lowest {ρ : mRo} {d : Nat} {P : mPo} {V : mS → List mE} (hV : mView LC V)  {k0 : Nat} (hk0 : k0 < 6) {x1 : Int64} {s : mS} {res : Int64} (hf : fX7_lowest k0 x1 s = some res) (hP : P (some (.long res)) (V s)) : mC ρ (d + 1) 43 [.ref (qS k0), .long x1] (V s) P := by
  refine ⟨_, rfl, Nat.le_of_ble_eq_true rfl, by decide, ?_⟩
  show mG ρ (mC ρ d) 7 3 cX7_lowest (some .long) P 0 [(0, .ref (qS k0)), (1, .long x1)] [] (V s)
  unfold fX7_lowest at hf
  refine e_aload_n 0 dX7_lowest_0 rfl rfl ?_
  refine e_geti hV dX7_lowest_1 rfl (lc_S hk0) rfl ?_
  by_cases hc0 : (gI s (iS_sort k0)) = (nI 0)
  · rw [if_pos hc0] at hf
    refine e_tabI (off := 32) (tgt := 36) dX7_lowest_4 hc0 (by decide) (by decide) ?_
    refine e_lload_n 1 dX7_lowest_36 rfl rfl ?_
    refine e_l2i dX7_lowest_37 ?_
    refine e_i2b dX7_lowest_38 ?_
    refine e_i2l dX7_lowest_39 ?_
    obtain rfl := Option.some.inj hf
    exact e_lret dX7_lowest_40 rfl hP
  rw [if_neg hc0] at hf
  by_cases hc1 : (gI s (iS_sort k0)) = (nI 1)
  · rw [if_pos hc1] at hf
    refine e_tabI (off := 37) (tgt := 41) dX7_lowest_4 hc1 (by decide) (by decide) ?_
    refine e_lload_n 1 dX7_lowest_41 rfl rfl ?_
    refine e_l2i dX7_lowest_42 ?_
    refine e_i2s dX7_lowest_43 ?_
    refine e_i2l dX7_lowest_44 ?_
    obtain rfl := Option.some.inj hf
    exact e_lret dX7_lowest_45 rfl hP
  rw [if_neg hc1] at hf
  by_cases hc2 : (gI s (iS_sort k0)) = (nI 2)
  · rw [if_pos hc2] at hf
    refine e_tabI (off := 42) (tgt := 46) dX7_lowest_4 hc2 (by decide) (by decide) ?_
    refine e_lload_n 1 dX7_lowest_46 rfl rfl ?_
    refine e_l2i dX7_lowest_47 ?_
    refine e_i2l dX7_lowest_48 ?_
    obtain rfl := Option.some.inj hf
    exact e_lret dX7_lowest_49 rfl hP
  rw [if_neg hc2] at hf
  by_cases hc3 : (gI s (iS_sort k0)) = (nI 3)
  · rw [if_pos hc3] at hf
    refine e_tabI (off := 46) (tgt := 50) dX7_lowest_4 hc3 (by decide) (by decide) ?_
    refine e_lload_n 1 dX7_lowest_50 rfl rfl ?_
    obtain rfl := Option.some.inj hf
    exact e_lret dX7_lowest_51 rfl hP
  rw [if_neg hc3] at hf
  refine e_tabD (tgt := 52) (ks := [(nI 0), (nI 1), (nI 2), (nI 3)]) dX7_lowest_4 (by decide) (fun z hz => ?_) ?_
  · simp only [List.mem_cons, List.not_mem_nil, or_false] at hz
    rcases hz with rfl | rfl | rfl | rfl
    · exact hc0
    · exact hc1
    · exact hc2
    · exact hc3
  refine e_lload_n 1 dX7_lowest_52 rfl rfl ?_
  refine e_lconst (w := 0) dX7_lowest_53 (by decide) ?_
  refine e_lcmp dX7_lowest_54 ?_
  refine e_if_eq 62 dX7_lowest_55 (by decide) hf (fun hf => ?_) (fun hf => ?_)
  · refine e_lconst (w := 0) dX7_lowest_62 (by decide) ?_
    obtain rfl := Option.some.inj hf
    exact e_lret dX7_lowest_63 rfl hP
  · refine e_lconst (w := 1) dX7_lowest_58 (by decide) ?_
    refine e_goto 63 dX7_lowest_59 (by decide) ?_
    obtain rfl := Option.some.inj hf
    exact e_lret dX7_lowest_63 rfl hP

theorem dX8_isFull_0 : decode cX8_isFull 0 = .ok (.aload_n 0, 1) := by decide +kernel
theorem dX8_isFull_1 : decode cX8_isFull 1 = .ok (.getfield 16, 3) := by decide +kernel
theorem dX8_isFull_4 : decode cX8_isFull 4 = .ok (.bipush 120, 2) := by decide +kernel
theorem dX8_isFull_6 : decode cX8_isFull 6 = .ok (.if_icmp .lt 7, 3) := by decide +kernel
theorem dX8_isFull_9 : decode cX8_isFull 9 = .ok (.iconst 1, 1) := by decide +kernel
theorem dX8_isFull_10 : decode cX8_isFull 10 = .ok (.goto 4, 3) := by decide +kernel
theorem dX8_isFull_13 : decode cX8_isFull 13 = .ok (.iconst 0, 1) := by decide +kernel
theorem dX8_isFull_14 : decode cX8_isFull 14 = .ok (.ireturn, 1) := by decide +kernel
def fX8_isFull (s : mS) : Option Int32 :=
  if (gI s iP_size) < (nI 120) then
    some (nI 0)
  else
    some (nI 1)

set_option maxRecDepth 20000 in
theorem tX8_isFull {ρ : mRo} {d : Nat} {P : mPo} {V : mS → List mE} (hV : mView LC V)  {s : mS} {res : Int32} (hf : fX8_isFull s = some res) (hP : P (some (.int res)) (V s)) : mC ρ (d + 1) 44 [.ref qP] (V s) P := by
  refine ⟨_, rfl, Nat.le_of_ble_eq_true rfl, by decide, ?_⟩
  show mG ρ (mC ρ d) 8 1 cX8_isFull (some .boolean) P 0 [(0, .ref qP)] [] (V s)
  unfold fX8_isFull at hf
  refine e_aload_n 0 dX8_isFull_0 rfl rfl ?_
  refine e_geti hV dX8_isFull_1 rfl lc_P rfl ?_
  refine e_bipush (w := (nI 120)) dX8_isFull_4 (by decide) ?_
  refine e_icmp_lt 13 dX8_isFull_6 (by decide) hf (fun hf => ?_) (fun hf => ?_)
  · refine e_iconst (w := (nI 0)) dX8_isFull_13 (by decide) ?_
    obtain rfl := Option.some.inj hf
    exact e_iret dX8_isFull_14 (Or.inl rfl) hP
  · refine e_iconst (w := (nI 1)) dX8_isFull_9 (by decide) ?_
    refine e_goto 14 dX8_isFull_10 (by decide) ?_
    obtain rfl := Option.some.inj hf
    exact e_iret dX8_isFull_14 (Or.inr rfl) hP

theorem dX8_addByte_0 : decode cX8_addByte 0 = .ok (.aload_n 0, 1) := by decide +kernel
theorem dX8_addByte_1 : decode cX8_addByte 1 = .ok (.getfield 9, 3) := by decide +kernel
theorem dX8_addByte_4 : decode cX8_addByte 4 = .ok (.aload_n 0, 1) := by decide +kernel
theorem dX8_addByte_5 : decode cX8_addByte 5 = .ok (.getfield 16, 3) := by decide +kernel
theorem dX8_addByte_8 : decode cX8_addByte 8 = .ok (.iload_n 1, 1) := by decide +kernel
theorem dX8_addByte_9 : decode cX8_addByte 9 = .ok (.iastore, 1) := by decide +kernel
theorem dX8_addByte_10 : decode cX8_addByte 10 = .ok (.aload_n 0, 1) := by decide +kernel
theorem dX8_addByte_11 : decode cX8_addByte 11 = .ok (.dup, 1) := by decide +kernel
theorem dX8_addByte_12 : decode cX8_addByte 12 = .ok (.getfield 16, 3) := by decide +kernel
theorem dX8_addByte_15 : decode cX8_addByte 15 = .ok (.iconst 1, 1) := by decide +kernel
theorem dX8_addByte_16 : decode cX8_addByte 16 = .ok (.iadd, 1) := by decide +kernel
theorem dX8_addByte_17 : decode cX8_addByte 17 = .ok (.putfield 16, 3) := by decide +kernel
theorem dX8_addByte_20 : decode cX8_addByte 20 = .ok (.aload_n 0, 1) := by decide +kernel
theorem dX8_addByte_21 : decode cX8_addByte 21 = .ok (.getfield 16, 3) := by decide +kernel
theorem dX8_addByte_24 : decode cX8_addByte 24 = .ok (.ireturn, 1) := by decide +kernel
def fX8_addByte (x1 : Int32) (s : mS) : Option (Int32 × mS) :=
  stA s aP_bytes 120 (gI s iP_size) x1 fun s1 =>
  bnd (pI s1 iP_size ((gI s1 iP_size) + (nI 1))) fun s2 =>
  some (gI s2 iP_size, s2)

set_option maxRecDepth 20000 in
theorem tX8_addByte {ρ : mRo} {d : Nat} {P : mPo} {V : mS → List mE} (hV : mView LC V)  {x1 : Int32} {s : mS} {res : (Int32 × mS)} (hf : fX8_addByte x1 s = some res) (hP : P (some (.int res.1)) (V res.2)) : mC ρ (d + 1) 45 [.ref qP, .int x1] (V s) P := by
  refine ⟨_, rfl, Nat.le_of_ble_eq_true rfl, by decide, ?_⟩
  show mG ρ (mC ρ d) 8 2 cX8_addByte (some .int) P 0 [(0, .ref qP), (1, .int x1)] [] (V s)
  unfold fX8_addByte at hf
  refine e_aload_n 0 dX8_addByte_0 rfl rfl ?_
  refine e_getr hV dX8_addByte_1 rfl lc_P rfl ?_
  refine e_aload_n 0 dX8_addByte_4 rfl rfl ?_
  refine e_geti hV dX8_addByte_5 rfl lc_P rfl ?_
  refine e_iload_n 1 dX8_addByte_8 rfl rfl ?_
  refine e_iast hV dX8_addByte_9 lc_P_bytes hf (fun s1 hf => ?_)
  refine e_aload_n 0 dX8_addByte_10 rfl rfl ?_
  refine e_dup dX8_addByte_11 rfl ?_
  refine e_geti hV dX8_addByte_12 rfl lc_P rfl ?_
  refine e_iconst (w := (nI 1)) dX8_addByte_15 (by decide) ?_
  refine e_iadd dX8_addByte_16 ?_
  refine e_puti hV dX8_addByte_17 rfl rfl rfl (Or.inl rfl) lc_P rfl hf (fun s2 hf => ?_)
  refine e_aload_n 0 dX8_addByte_20 rfl rfl ?_
  refine e_geti hV dX8_addByte_21 rfl lc_P rfl ?_
  obtain rfl := Option.some.inj hf
  exact e_iret dX8_addByte_24 trivial hP

theorem dX8_next_0 : decode cX8_next 0 = .ok (.aload_n 0, 1) := by decide +kernel
theorem dX8_next_1 : decode cX8_next 1 = .ok (.getfield 20, 3) := by decide +kernel
theorem dX8_next_4 : decode cX8_next 4 = .ok (.aload_n 0, 1) := by decide +kernel
theorem dX8_next_5 : decode cX8_next 5 = .ok (.getfield 16, 3) := by decide +kernel
theorem dX8_next_8 : decode cX8_next 8 = .ok (.if_icmp .ge 15, 3) := by decide +kernel
theorem dX8_next_11 : decode cX8_next 11 = .ok (.aload_n 0, 1) := by decide +kernel
theorem dX8_next_12 : decode cX8_next 12 = .ok (.getfield 9, 3) := by decide +kernel
theorem dX8_next_15 : decode cX8_next 15 = .ok (.aload_n 0, 1) := by decide +kernel
theorem dX8_next_16 : decode cX8_next 16 = .ok (.getfield 20, 3) := by decide +kernel
theorem dX8_next_19 : decode cX8_next 19 = .ok (.iaload, 1) := by decide +kernel
theorem dX8_next_20 : decode cX8_next 20 = .ok (.goto 4, 3) := by decide +kernel
theorem dX8_next_23 : decode cX8_next 23 = .ok (.iconst (-1), 1) := by decide +kernel
theorem dX8_next_24 : decode cX8_next 24 = .ok (.ireturn, 1) := by decide +kernel
def fX8_next (s : mS) : Option Int32 :=
  if (gI s iP_size) ≤ (gI s iP_at) then
    some (-1)
  else
    ldA s aP_bytes 120 (gI s iP_at) fun v1 =>
    some v1

set_option maxRecDepth 20000 in
theorem tX8_next {ρ : mRo} {d : Nat} {P : mPo} {V : mS → List mE} (hV : mView LC V)  {s : mS} {res : Int32} (hf : fX8_next s = some res) (hP : P (some (.int res)) (V s)) : mC ρ (d + 1) 51 [.ref qP] (V s) P := by
  refine ⟨_, rfl, Nat.le_of_ble_eq_true rfl, by decide, ?_⟩
  show mG ρ (mC ρ d) 8 1 cX8_next (some .int) P 0 [(0, .ref qP)] [] (V s)
  unfold fX8_next at hf
  refine e_aload_n 0 dX8_next_0 rfl rfl ?_
  refine e_geti hV dX8_next_1 rfl lc_P rfl ?_
  refine e_aload_n 0 dX8_next_4 rfl rfl ?_
  refine e_geti hV dX8_next_5 rfl lc_P rfl ?_
  refine e_icmp_ge 23 dX8_next_8 (by decide) hf (fun hf => ?_) (fun hf => ?_)
  · refine e_iconst (w := (-1)) dX8_next_23 (by decide) ?_
    obtain rfl := Option.some.inj hf
    exact e_iret dX8_next_24 trivial hP
  · refine e_aload_n 0 dX8_next_11 rfl rfl ?_
    refine e_getr hV dX8_next_12 rfl lc_P rfl ?_
    refine e_aload_n 0 dX8_next_15 rfl rfl ?_
    refine e_geti hV dX8_next_16 rfl lc_P rfl ?_
    refine e_iald hV dX8_next_19 lc_P_bytes hf (fun v1 hf => ?_)
    refine e_goto 24 dX8_next_20 (by decide) ?_
    obtain rfl := Option.some.inj hf
    exact e_iret dX8_next_24 trivial hP

theorem dX8_addStep_0 : decode cX8_addStep 0 = .ok (.aload_n 0, 1) := by decide +kernel
theorem dX8_addStep_1 : decode cX8_addStep 1 = .ok (.getfield 23, 3) := by decide +kernel
theorem dX8_addStep_4 : decode cX8_addStep 4 = .ok (.bipush 121, 2) := by decide +kernel
theorem dX8_addStep_6 : decode cX8_addStep 6 = .ok (.if_icmp .ge 23, 3) := by decide +kernel
theorem dX8_addStep_9 : decode cX8_addStep 9 = .ok (.aload_n 0, 1) := by decide +kernel
theorem dX8_addStep_10 : decode cX8_addStep 10 = .ok (.getfield 13, 3) := by decide +kernel
theorem dX8_addStep_13 : decode cX8_addStep 13 = .ok (.aload_n 0, 1) := by decide +kernel
theorem dX8_addStep_14 : decode cX8_addStep 14 = .ok (.getfield 23, 3) := by decide +kernel
theorem dX8_addStep_17 : decode cX8_addStep 17 = .ok (.iload_n 1, 1) := by decide +kernel
theorem dX8_addStep_18 : decode cX8_addStep 18 = .ok (.iastore, 1) := by decide +kernel
theorem dX8_addStep_19 : decode cX8_addStep 19 = .ok (.aload_n 0, 1) := by decide +kernel
theorem dX8_addStep_20 : decode cX8_addStep 20 = .ok (.dup, 1) := by decide +kernel
theorem dX8_addStep_21 : decode cX8_addStep 21 = .ok (.getfield 23, 3) := by decide +kernel
theorem dX8_addStep_24 : decode cX8_addStep 24 = .ok (.iconst 1, 1) := by decide +kernel
theorem dX8_addStep_25 : decode cX8_addStep 25 = .ok (.iadd, 1) := by decide +kernel
theorem dX8_addStep_26 : decode cX8_addStep 26 = .ok (.putfield 23, 3) := by decide +kernel
theorem dX8_addStep_29 : decode cX8_addStep 29 = .ok (.return_, 1) := by decide +kernel
def fX8_addStep (x1 : Int32) (s : mS) : Option mS :=
  if (nI 121) ≤ (gI s iP_stepsSize) then
    some s
  else
    stA s aP_steps 121 (gI s iP_stepsSize) x1 fun s1 =>
    bnd (pI s1 iP_stepsSize ((gI s1 iP_stepsSize) + (nI 1))) fun s2 =>
    some s2

set_option maxRecDepth 20000 in
theorem tX8_addStep {ρ : mRo} {d : Nat} {P : mPo} {V : mS → List mE} (hV : mView LC V)  {x1 : Int32} {s : mS} {res : mS} (hf : fX8_addStep x1 s = some res) (hP : P none (V res)) : mC ρ (d + 1) 53 [.ref qP, .int x1] (V s) P := by
  refine ⟨_, rfl, Nat.le_of_ble_eq_true rfl, by decide, ?_⟩
  show mG ρ (mC ρ d) 8 2 cX8_addStep none P 0 [(0, .ref qP), (1, .int x1)] [] (V s)
  unfold fX8_addStep at hf
  refine e_aload_n 0 dX8_addStep_0 rfl rfl ?_
  refine e_geti hV dX8_addStep_1 rfl lc_P rfl ?_
  refine e_bipush (w := (nI 121)) dX8_addStep_4 (by decide) ?_
  refine e_icmp_ge 29 dX8_addStep_6 (by decide) hf (fun hf => ?_) (fun hf => ?_)
  · obtain rfl := Option.some.inj hf
    exact e_ret dX8_addStep_29 rfl hP
  · refine e_aload_n 0 dX8_addStep_9 rfl rfl ?_
    refine e_getr hV dX8_addStep_10 rfl lc_P rfl ?_
    refine e_aload_n 0 dX8_addStep_13 rfl rfl ?_
    refine e_geti hV dX8_addStep_14 rfl lc_P rfl ?_
    refine e_iload_n 1 dX8_addStep_17 rfl rfl ?_
    refine e_iast hV dX8_addStep_18 lc_P_steps hf (fun s1 hf => ?_)
    refine e_aload_n 0 dX8_addStep_19 rfl rfl ?_
    refine e_dup dX8_addStep_20 rfl ?_
    refine e_geti hV dX8_addStep_21 rfl lc_P rfl ?_
    refine e_iconst (w := (nI 1)) dX8_addStep_24 (by decide) ?_
    refine e_iadd dX8_addStep_25 ?_
    refine e_puti hV dX8_addStep_26 rfl rfl rfl (Or.inl rfl) lc_P rfl hf (fun s2 hf => ?_)
    obtain rfl := Option.some.inj hf
    exact e_ret dX8_addStep_29 rfl hP

theorem dX8_isDigit_0 : decode cX8_isDigit 0 = .ok (.iload_n 0, 1) := by decide +kernel
theorem dX8_isDigit_1 : decode cX8_isDigit 1 = .ok (.bipush 48, 2) := by decide +kernel
theorem dX8_isDigit_3 : decode cX8_isDigit 3 = .ok (.if_icmp .lt 13, 3) := by decide +kernel
theorem dX8_isDigit_6 : decode cX8_isDigit 6 = .ok (.iload_n 0, 1) := by decide +kernel
theorem dX8_isDigit_7 : decode cX8_isDigit 7 = .ok (.bipush 57, 2) := by decide +kernel
theorem dX8_isDigit_9 : decode cX8_isDigit 9 = .ok (.if_icmp .gt 7, 3) := by decide +kernel
theorem dX8_isDigit_12 : decode cX8_isDigit 12 = .ok (.iconst 1, 1) := by decide +kernel
theorem dX8_isDigit_13 : decode cX8_isDigit 13 = .ok (.goto 4, 3) := by decide +kernel
theorem dX8_isDigit_16 : decode cX8_isDigit 16 = .ok (.iconst 0, 1) := by decide +kernel
theorem dX8_isDigit_17 : decode cX8_isDigit 17 = .ok (.ireturn, 1) := by decide +kernel
def fX8_isDigit (x0 : Int32) (s : mS) : Option Int32 :=
  if x0 < (nI 48) then
    some (nI 0)
  else
    if (nI 57) < x0 then
      some (nI 0)
    else
      some (nI 1)

set_option maxRecDepth 20000 in
theorem tX8_isDigit {ρ : mRo} {d : Nat} {P : mPo} {V : mS → List mE} (hV : mView LC V)  {x0 : Int32} {s : mS} {res : Int32} (hf : fX8_isDigit x0 s = some res) (hP : P (some (.int res)) (V s)) : mC ρ (d + 1) 54 [.int x0] (V s) P := by
  refine ⟨_, rfl, Nat.le_of_ble_eq_true rfl, by decide, ?_⟩
  show mG ρ (mC ρ d) 8 1 cX8_isDigit (some .boolean) P 0 [(0, .int x0)] [] (V s)
  unfold fX8_isDigit at hf
  refine e_iload_n 0 dX8_isDigit_0 rfl rfl ?_
  refine e_bipush (w := (nI 48)) dX8_isDigit_1 (by decide) ?_
  refine e_icmp_lt 16 dX8_isDigit_3 (by decide) hf (fun hf => ?_) (fun hf => ?_)
  · refine e_iconst (w := (nI 0)) dX8_isDigit_16 (by decide) ?_
    obtain rfl := Option.some.inj hf
    exact e_iret dX8_isDigit_17 (Or.inl rfl) hP
  · refine e_iload_n 0 dX8_isDigit_6 rfl rfl ?_
    refine e_bipush (w := (nI 57)) dX8_isDigit_7 (by decide) ?_
    refine e_icmp_gt 16 dX8_isDigit_9 (by decide) hf (fun hf => ?_) (fun hf => ?_)
    · refine e_iconst (w := (nI 0)) dX8_isDigit_16 (by decide) ?_
      obtain rfl := Option.some.inj hf
      exact e_iret dX8_isDigit_17 (Or.inl rfl) hP
    · refine e_iconst (w := (nI 1)) dX8_isDigit_12 (by decide) ?_
      refine e_goto 17 dX8_isDigit_13 (by decide) ?_
      obtain rfl := Option.some.inj hf
      exact e_iret dX8_isDigit_17 (Or.inr rfl) hP

theorem dX8_readNumber_0 : decode cX8_readNumber 0 = .ok (.iconst 0, 1) := by decide +kernel
theorem dX8_readNumber_1 : decode cX8_readNumber 1 = .ok (.istore_n 1, 1) := by decide +kernel
theorem dX8_readNumber_2 : decode cX8_readNumber 2 = .ok (.iconst 0, 1) := by decide +kernel
theorem dX8_readNumber_3 : decode cX8_readNumber 3 = .ok (.istore_n 2, 1) := by decide +kernel
theorem dX8_readNumber_4 : decode cX8_readNumber 4 = .ok (.iload_n 2, 1) := by decide +kernel
theorem dX8_readNumber_5 : decode cX8_readNumber 5 = .ok (.iconst 4, 1) := by decide +kernel
theorem dX8_readNumber_6 : decode cX8_readNumber 6 = .ok (.if_icmp .ge 42, 3) := by decide +kernel
theorem dX8_readNumber_9 : decode cX8_readNumber 9 = .ok (.aload_n 0, 1) := by decide +kernel
theorem dX8_readNumber_10 : decode cX8_readNumber 10 = .ok (.invokevirtual 45, 3) := by decide +kernel
theorem dX8_readNumber_13 : decode cX8_readNumber 13 = .ok (.invokestatic 53, 3) := by decide +kernel
theorem dX8_readNumber_16 : decode cX8_readNumber 16 = .ok (.ifCond .eq 32, 3) := by decide +kernel
theorem dX8_readNumber_19 : decode cX8_readNumber 19 = .ok (.bipush 10, 2) := by decide +kernel
theorem dX8_readNumber_21 : decode cX8_readNumber 21 = .ok (.iload_n 1, 1) := by decide +kernel
theorem dX8_readNumber_22 : decode cX8_readNumber 22 = .ok (.imul, 1) := by decide +kernel
theorem dX8_readNumber_23 : decode cX8_readNumber 23 = .ok (.aload_n 0, 1) := by decide +kernel
theorem dX8_readNumber_24 : decode cX8_readNumber 24 = .ok (.invokevirtual 45, 3) := by decide +kernel
theorem dX8_readNumber_27 : decode cX8_readNumber 27 = .ok (.iadd, 1) := by decide +kernel
theorem dX8_readNumber_28 : decode cX8_readNumber 28 = .ok (.bipush 48, 2) := by decide +kernel
theorem dX8_readNumber_30 : decode cX8_readNumber 30 = .ok (.isub, 1) := by decide +kernel
theorem dX8_readNumber_31 : decode cX8_readNumber 31 = .ok (.istore_n 1, 1) := by decide +kernel
theorem dX8_readNumber_32 : decode cX8_readNumber 32 = .ok (.aload_n 0, 1) := by decide +kernel
theorem dX8_readNumber_33 : decode cX8_readNumber 33 = .ok (.dup, 1) := by decide +kernel
theorem dX8_readNumber_34 : decode cX8_readNumber 34 = .ok (.getfield 20, 3) := by decide +kernel
theorem dX8_readNumber_37 : decode cX8_readNumber 37 = .ok (.iconst 1, 1) := by decide +kernel
theorem dX8_readNumber_38 : decode cX8_readNumber 38 = .ok (.iadd, 1) := by decide +kernel
theorem dX8_readNumber_39 : decode cX8_readNumber 39 = .ok (.putfield 20, 3) := by decide +kernel
theorem dX8_readNumber_42 : decode cX8_readNumber 42 = .ok (.iinc 2 1, 3) := by decide +kernel
theorem dX8_readNumber_45 : decode cX8_readNumber 45 = .ok (.goto (-41), 3) := by decide +kernel
theorem dX8_readNumber_48 : decode cX8_readNumber 48 = .ok (.aload_n 0, 1) := by decide +kernel
theorem dX8_readNumber_49 : decode cX8_readNumber 49 = .ok (.iload_n 1, 1) := by decide +kernel
theorem dX8_readNumber_50 : decode cX8_readNumber 50 = .ok (.invokevirtual 38, 3) := by decide +kernel
theorem dX8_readNumber_53 : decode cX8_readNumber 53 = .ok (.return_, 1) := by decide +kernel
def fX8_readNumber_b48 (y1 : Int32) (s : mS) : Option mS :=
  bO (fX8_addStep y1 s) fun s3 =>
  some s3

def fX8_readNumber_b4 : Nat → Int32 → Int32 → mS → Option mS
  | 0, _, _, _ => none
  | k + 1, y1, y2, s =>
    if (nI 4) ≤ y2 then
      fX8_readNumber_b48 y1 s
    else
      bO (fX8_next s) fun r4 =>
      bO (fX8_isDigit r4 s) fun r5 =>
      if r5 = 0 then
        fX8_readNumber_b48 y1 s
      else
        bO (fX8_next s) fun r6 =>
        bnd ((((nI 10) * y1) + r6) - (nI 48)) fun v7 =>
        bnd (pI s iP_at ((gI s iP_at) + (nI 1))) fun s8 =>
        bnd (y2 + (nI 1)) fun v9 =>
        fX8_readNumber_b4 k v7 v9 s8

def fX8_readNumber (s : mS) : Option mS :=
  bnd (nI 0) fun v1 =>
  bnd (nI 0) fun v2 =>
  fX8_readNumber_b4 mFu v1 v2 s

set_option maxRecDepth 20000 in
theorem wX8_readNumber_b48 {ρ : mRo} {d : Nat} {P : mPo} {V : mS → List mE} (hV : mView LC V)  {res : mS} (hP : P none (V res)) (y1 : Int32) (s : mS) (hf : fX8_readNumber_b48 y1 s = some res) : mG ρ (mC ρ (d + 1)) 8 3 cX8_readNumber none P 48 [(0, .ref qP), (1, .int y1)] [] (V s) := by
  unfold fX8_readNumber_b48 at hf
  refine e_aload_n 0 dX8_readNumber_48 rfl rfl ?_
  refine e_iload_n 1 dX8_readNumber_49 rfl rfl ?_
  obtain ⟨s3, hg, hf⟩ := bO_some hf
  refine e_callV (as := [.int y1]) (v := none) (s' := s3) hV dX8_readNumber_50 (Or.inl rfl) rfl rfl rfl rfl (Nat.le_of_ble_eq_true rfl) lc_P rfl rfl (fun Q hQ => tX8_addStep (d := d) hV  hg hQ) ?_
  obtain rfl := Option.some.inj hf
  exact e_ret dX8_readNumber_53 rfl hP
set_option maxRecDepth 20000 in
theorem wX8_readNumber_b4 {ρ : mRo} {d : Nat} {P : mPo} {V : mS → List mE} (hV : mView LC V)  {res : mS} (hP : P none (V res)) : ∀ (k : Nat) (y1 : Int32) (y2 : Int32) (s : mS), fX8_readNumber_b4 k y1 y2 s = some res → mG ρ (mC ρ (d + 1)) 8 3 cX8_readNumber none P 4 [(0, .ref qP), (1, .int y1), (2, .int y2)] [] (V s) := by
  intro k
  induction k with
  | zero => intro y1 y2 s hf; rw [fX8_readNumber_b4] at hf; cases hf
  | succ k ih =>
    intro y1 y2 s hf
    rw [fX8_readNumber_b4] at hf
    refine e_iload_n 2 dX8_readNumber_4 rfl rfl ?_
    refine e_iconst (w := (nI 4)) dX8_readNumber_5 (by decide) ?_
    refine e_icmp_ge 48 dX8_readNumber_6 (by decide) hf (fun hf => ?_) (fun hf => ?_)
    · refine e_pick [0, 1] rfl ?_
      exact wX8_readNumber_b48 hV hP y1 s hf
    · refine e_aload_n 0 dX8_readNumber_9 rfl rfl ?_
      obtain ⟨r4, hg, hf⟩ := bO_some hf
      refine e_callV (as := []) (v := (some (.int r4))) (s' := s) hV dX8_readNumber_10 (Or.inl rfl) rfl rfl rfl rfl (Nat.le_of_ble_eq_true rfl) lc_P rfl rfl (fun Q hQ => tX8_next (d := d) hV  hg hQ) ?_
      obtain ⟨r5, hg, hf⟩ := bO_some hf
      refine e_callS (as := [.int r4]) (v := (some (.int r5))) (s' := s) dX8_readNumber_13 rfl rfl rfl rfl rfl (Nat.le_of_ble_eq_true rfl) (fun Q hQ => tX8_isDigit (d := d) hV  hg hQ) ?_
      refine e_if_eq 48 dX8_readNumber_16 (by decide) hf (fun hf => ?_) (fun hf => ?_)
      · refine e_pick [0, 1] rfl ?_
        exact wX8_readNumber_b48 hV hP y1 s hf
      · refine e_bipush (w := (nI 10)) dX8_readNumber_19 (by decide) ?_
        refine e_iload_n 1 dX8_readNumber_21 rfl rfl ?_
        refine e_imul dX8_readNumber_22 ?_
        refine e_aload_n 0 dX8_readNumber_23 rfl rfl ?_
        obtain ⟨r6, hg, hf⟩ := bO_some hf
        refine e_callV (as := []) (v := (some (.int r6))) (s' := s) hV dX8_readNumber_24 (Or.inl rfl) rfl rfl rfl rfl (Nat.le_of_ble_eq_true rfl) lc_P rfl rfl (fun Q hQ => tX8_next (d := d) hV  hg hQ) ?_
        refine e_iadd dX8_readNumber_27 ?_
        refine e_bipush (w := (nI 48)) dX8_readNumber_28 (by decide) ?_
        refine e_isub dX8_readNumber_30 ?_
        refine e_istore_n dX8_readNumber_31 rfl (by decide) hf (fun v7 hf => ?_)
        refine e_aload_n 1 dX8_readNumber_32 rfl rfl ?_
        refine e_dup dX8_readNumber_33 rfl ?_
        refine e_geti hV dX8_readNumber_34 rfl lc_P rfl ?_
        refine e_iconst (w := (nI 1)) dX8_readNumber_37 (by decide) ?_
        refine e_iadd dX8_readNumber_38 ?_
        refine e_puti hV dX8_readNumber_39 rfl rfl rfl (Or.inl rfl) lc_P rfl hf (fun s8 hf => ?_)
        refine e_iinc 2 dX8_readNumber_42 (by decide) rfl hf (fun v9 hf => ?_)
        refine e_goto 4 dX8_readNumber_45 (by decide) ?_
        refine e_pick [2, 1, 0] rfl ?_
        exact ih v7 v9 s8 hf
set_option maxRecDepth 20000 in
theorem tX8_readNumber {ρ : mRo} {d : Nat} {P : mPo} {V : mS → List mE} (hV : mView LC V)  {s : mS} {res : mS} (hf : fX8_readNumber s = some res) (hP : P none (V res)) : mC ρ (d + 2) 50 [.ref qP] (V s) P := by
  refine ⟨_, rfl, Nat.le_of_ble_eq_true rfl, by decide, ?_⟩
  show mG ρ (mC ρ (d + 1)) 8 3 cX8_readNumber none P 0 [(0, .ref qP)] [] (V s)
  unfold fX8_readNumber at hf
  refine e_iconst (w := (nI 0)) dX8_readNumber_0 (by decide) ?_
  refine e_istore_n dX8_readNumber_1 rfl (by decide) hf (fun v1 hf => ?_)
  refine e_iconst (w := (nI 0)) dX8_readNumber_2 (by decide) ?_
  refine e_istore_n dX8_readNumber_3 rfl (by decide) hf (fun v2 hf => ?_)
  refine e_pick [2, 1, 0] rfl ?_
  exact wX8_readNumber_b4 hV hP mFu v1 v2 s hf

theorem dX8_takes_0 : decode cX8_takes 0 = .ok (.aload_n 0, 1) := by decide +kernel
theorem dX8_takes_1 : decode cX8_takes 1 = .ok (.invokevirtual 45, 3) := by decide +kernel
theorem dX8_takes_4 : decode cX8_takes 4 = .ok (.iload_n 1, 1) := by decide +kernel
theorem dX8_takes_5 : decode cX8_takes 5 = .ok (.if_icmp .eq 5, 3) := by decide +kernel
theorem dX8_takes_8 : decode cX8_takes 8 = .ok (.iconst 0, 1) := by decide +kernel
theorem dX8_takes_9 : decode cX8_takes 9 = .ok (.ireturn, 1) := by decide +kernel
theorem dX8_takes_10 : decode cX8_takes 10 = .ok (.aload_n 0, 1) := by decide +kernel
theorem dX8_takes_11 : decode cX8_takes 11 = .ok (.dup, 1) := by decide +kernel
theorem dX8_takes_12 : decode cX8_takes 12 = .ok (.getfield 20, 3) := by decide +kernel
theorem dX8_takes_15 : decode cX8_takes 15 = .ok (.iconst 1, 1) := by decide +kernel
theorem dX8_takes_16 : decode cX8_takes 16 = .ok (.iadd, 1) := by decide +kernel
theorem dX8_takes_17 : decode cX8_takes 17 = .ok (.putfield 20, 3) := by decide +kernel
theorem dX8_takes_20 : decode cX8_takes 20 = .ok (.iconst 1, 1) := by decide +kernel
theorem dX8_takes_21 : decode cX8_takes 21 = .ok (.ireturn, 1) := by decide +kernel
def fX8_takes (x1 : Int32) (s : mS) : Option (Int32 × mS) :=
  bO (fX8_next s) fun r1 =>
  if r1 = x1 then
    bnd (pI s iP_at ((gI s iP_at) + (nI 1))) fun s2 =>
    some ((nI 1), s2)
  else
    some ((nI 0), s)

set_option maxRecDepth 20000 in
theorem tX8_takes {ρ : mRo} {d : Nat} {P : mPo} {V : mS → List mE} (hV : mView LC V)  {x1 : Int32} {s : mS} {res : (Int32 × mS)} (hf : fX8_takes x1 s = some res) (hP : P (some (.int res.1)) (V res.2)) : mC ρ (d + 2) 52 [.ref qP, .int x1] (V s) P := by
  refine ⟨_, rfl, Nat.le_of_ble_eq_true rfl, by decide, ?_⟩
  show mG ρ (mC ρ (d + 1)) 8 2 cX8_takes (some .boolean) P 0 [(0, .ref qP), (1, .int x1)] [] (V s)
  unfold fX8_takes at hf
  refine e_aload_n 0 dX8_takes_0 rfl rfl ?_
  obtain ⟨r1, hg, hf⟩ := bO_some hf
  refine e_callV (as := []) (v := (some (.int r1))) (s' := s) hV dX8_takes_1 (Or.inl rfl) rfl rfl rfl rfl (Nat.le_of_ble_eq_true rfl) lc_P rfl rfl (fun Q hQ => tX8_next (d := d) hV  hg hQ) ?_
  refine e_iload_n 1 dX8_takes_4 rfl rfl ?_
  refine e_icmp_eq 10 dX8_takes_5 (by decide) hf (fun hf => ?_) (fun hf => ?_)
  · refine e_aload_n 0 dX8_takes_10 rfl rfl ?_
    refine e_dup dX8_takes_11 rfl ?_
    refine e_geti hV dX8_takes_12 rfl lc_P rfl ?_
    refine e_iconst (w := (nI 1)) dX8_takes_15 (by decide) ?_
    refine e_iadd dX8_takes_16 ?_
    refine e_puti hV dX8_takes_17 rfl rfl rfl (Or.inl rfl) lc_P rfl hf (fun s2 hf => ?_)
    refine e_iconst (w := (nI 1)) dX8_takes_20 (by decide) ?_
    obtain rfl := Option.some.inj hf
    exact e_iret dX8_takes_21 (Or.inr rfl) hP
  · refine e_iconst (w := (nI 0)) dX8_takes_8 (by decide) ?_
    obtain rfl := Option.some.inj hf
    exact e_iret dX8_takes_9 (Or.inl rfl) hP
