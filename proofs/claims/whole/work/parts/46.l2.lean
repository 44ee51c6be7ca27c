/-! THE LAW: its cases -/
section L2
variable {z : mm_Z} {h : mm_H} {K : Cf} {T N W : Nat}
section L2a
variable {C : Nat → List Value → mm_H → mm_R → Prop} {j pc n x y : Nat} {ls : List Slot} {st : List Value} {r : mm_R}
theorem ev_alenS {q : Nat} (ha : mm_at j pc = some (.arraylength, n, x, y)) (k : mm_Ev z C j (n, ls, .int (nI z.1) :: st, h) r) : mm_Ev z C j (pc, ls, .retAddr q :: st, h) r := ev_go ha rfl k
theorem ev_ialdS {q i : Nat} (ha : mm_at j pc = some (.iaload, n, x, y)) (hi : i < z.1) (h31 : i < 2 ^ 31) (k : mm_Ev z C j (n, ls, .int (z.2 i) :: st, h) r) : mm_Ev z C j (pc, ls, .int (nI i) :: .retAddr q :: st, h) r :=
  ev_go ha (by simp only [mm_exec, mm_iald]; rw [nI_clamp h31, if_pos ⟨nI_pos h31, hi⟩]; rfl) k
theorem ev_ist {q : Nat} {v : Int32} {s : Slot} (ha : mm_at j pc = some (.istore q, n, x, y)) (hl : ls[q]? = some s) (hs : mm_slot1 s = true) (k : mm_Ev z C j (n, ls.set q (.val (.int v)), st, h) r) : mm_Ev z C j (pc, ls, .int v :: st, h) r :=
  ev_go ha (by show mm_istore n q ls (.int v :: st) h = _; unfold mm_istore mm_set; dsimp only; rw [hl]; dsimp only; rw [if_pos hs]; rfl) k
theorem ev_inc4 {q i : Nat} (ha : mm_at j pc = some (.iinc q 4, n, x, y)) (hl : ls[q]? = some (.val (.int (nI i)))) (k : mm_Ev z C j (n, ls.set q (.val (.int (nI (i + 4)))), st, h) r) : mm_Ev z C j (pc, ls, st, h) r :=
  ev_go ha (by simp only [mm_exec, mm_iinc, hl]; rw [← nI_add i 4]; rfl) k
theorem ev_tsw {d lo hi : Int} {offs : Array Int} {v : Int32} {t : Nat} (ha : mm_at j pc = some (.tableswitch d lo hi offs, n, x, y)) (hs : mm_tsw pc d lo hi offs ls (.int v :: st) h = some (.inl (t, ls, st, h))) (k : mm_Ev z C j (t, ls, st, h) r) : mm_Ev z C j (pc, ls, .int v :: st, h) r := ev_go ha hs k
end L2a
def lls (K : Cf) (i : Nat) (s5 s6 : Slot) : List Slot := [.val (.retAddr 0), .val (.ref 0), .val (.ref (K.tb + 9)), .val (.ref (K.tb + 21)), .val (.int (nI i)), s5, s6]
/-- behind one case of the switch -/
def CS (z : mm_Z) (K : Cf) (h : mm_H) (T N W i : Nat) (s5 s6 : Slot) (pc : Nat) : Prop := ∃ h2 s5' s6', LW K h2 (T + 8) (N + 1) (W + 6) ∧ mm_slot1 s5' = true ∧ mm_slot1 s6' = true ∧ ∀ R, mm_Ev z (mm_cal z 6) 104 (1267, lls K i s5' s6', [], h2) R → mm_Ev z (mm_cal z 6) 104 (pc, lls K i s5 s6, [], h) R
theorem cs_plunge (hL : LW K h T N W) (hT : T + 8 < 2 ^ 30) {i : Nat} (hi : i + 4 ≤ z.1) (hz : z.1 < 10000) {s5 s6 : Slot} (hs5 : mm_slot1 s5 = true) (hs6 : mm_slot1 s6 = true) : CS z K h T N W i s5 s6 156 := by
  by_cases hb : z.2 (i + 3) = 0
  · skip
    obtain ⟨kd, h1, h2, vo, c1, ⟨fs1, q1⟩, c2, hLW, ho, ⟨fs2, q2⟩, c3⟩ := op_plunge (z := z) hL (z.2 (i + 1)) (z.2 (i + 2)) false
    refine ⟨h2, .val (.int kd), s6, hLW, rfl, hs6, fun R k => ?_⟩
    refine ev_go at_104_156 rfl ?_
    refine ev_go at_104_157 rfl ?_
    refine ev_go at_104_158 rfl ?_
    refine ev_ic (nI 1) at_104_160 (by decide) ?_
    refine ev_go at_104_161 rfl ?_
    first | refine ev_top (congrArg Value.int (nI_add _ _)) ?_ | skip
    refine ev_ialdS at_104_162 (by omega) (by omega) ?_
    refine ev_go at_104_163 rfl ?_
    refine ev_go at_104_164 rfl ?_
    refine ev_ic (nI 2) at_104_166 (by decide) ?_
    refine ev_go at_104_167 rfl ?_
    first | refine ev_top (congrArg Value.int (nI_add _ _)) ?_ | skip
    refine ev_ialdS at_104_168 (by omega) (by omega) ?_
    refine ev_go at_104_169 rfl ?_
    refine ev_go at_104_170 rfl ?_
    refine ev_ic (nI 3) at_104_172 (by decide) ?_
    refine ev_go at_104_173 rfl ?_
    first | refine ev_top (congrArg Value.int (nI_add _ _)) ?_ | skip
    refine ev_ialdS at_104_174 (by omega) (by omega) ?_
    refine ev_if_eq at_104_175 (fun _ => ?_) (fun hc => absurd hb hc)
    refine ev_ic (bI false) at_104_182 (by decide) ?_
    refine ev_callS (as := [_, _, _, _]) at_104_183 (by decide) rfl rfl (by simp [mm_wt, Value.category]) rfl c1 ?_
    refine ev_ist at_104_186 rfl hs5 ?_
    refine ev_go at_104_188 rfl ?_
    refine ev_go at_104_189 rfl ?_
    refine ev_go at_104_190 rfl ?_
    refine ev_ic (nI 1) at_104_192 (by decide) ?_
    refine ev_go at_104_193 rfl ?_
    first | refine ev_top (congrArg Value.int (nI_add _ _)) ?_ | skip
    refine ev_ialdS at_104_194 (by omega) (by omega) ?_
    refine ev_go at_104_195 rfl ?_
    refine ev_go at_104_196 rfl ?_
    refine ev_ic (nI 2) at_104_198 (by decide) ?_
    refine ev_go at_104_199 rfl ?_
    first | refine ev_top (congrArg Value.int (nI_add _ _)) ?_ | skip
    refine ev_ialdS at_104_200 (by omega) (by omega) ?_
    refine ev_go at_104_201 rfl ?_
    refine ev_go at_104_202 rfl ?_
    refine ev_ic (nI 3) at_104_204 (by decide) ?_
    refine ev_go at_104_205 rfl ?_
    first | refine ev_top (congrArg Value.int (nI_add _ _)) ?_ | skip
    refine ev_ialdS at_104_206 (by omega) (by omega) ?_
    refine ev_if_eq at_104_207 (fun _ => ?_) (fun hc => absurd hb hc)
    refine ev_ic (bI false) at_104_214 (by decide) ?_
    refine ev_callV (as := [_, _, _]) at_104_215 rfl rfl (by simp [mm_wt, Value.category]) rfl q1 c2 ?_
    refine ev_go at_104_218 rfl ?_
    refine ev_callV (as := []) at_104_219 rfl rfl (by simp [mm_wt, Value.category]) rfl q2 c3 ?_
    refine ev_go at_104_222 rfl ?_
    refine ev_icmp_eq at_104_224 (fun _ => ?_) (fun hc => absurd rfl hc)
    refine ev_go at_104_229 rfl ?_
    exact k
  · skip
    obtain ⟨kd, h1, h2, vo, c1, ⟨fs1, q1⟩, c2, hLW, ho, ⟨fs2, q2⟩, c3⟩ := op_plunge (z := z) hL (z.2 (i + 1)) (z.2 (i + 2)) true
    refine ⟨h2, .val (.int kd), s6, hLW, rfl, hs6, fun R k => ?_⟩
    refine ev_go at_104_156 rfl ?_
    refine ev_go at_104_157 rfl ?_
    refine ev_go at_104_158 rfl ?_
    refine ev_ic (nI 1) at_104_160 (by decide) ?_
    refine ev_go at_104_161 rfl ?_
    first | refine ev_top (congrArg Value.int (nI_add _ _)) ?_ | skip
    refine ev_ialdS at_104_162 (by omega) (by omega) ?_
    refine ev_go at_104_163 rfl ?_
    refine ev_go at_104_164 rfl ?_
    refine ev_ic (nI 2) at_104_166 (by decide) ?_
    refine ev_go at_104_167 rfl ?_
    first | refine ev_top (congrArg Value.int (nI_add _ _)) ?_ | skip
    refine ev_ialdS at_104_168 (by omega) (by omega) ?_
    refine ev_go at_104_169 rfl ?_
    refine ev_go at_104_170 rfl ?_
    refine ev_ic (nI 3) at_104_172 (by decide) ?_
    refine ev_go at_104_173 rfl ?_
    first | refine ev_top (congrArg Value.int (nI_add _ _)) ?_ | skip
    refine ev_ialdS at_104_174 (by omega) (by omega) ?_
    refine ev_if_eq at_104_175 (fun hc => absurd hc hb) (fun _ => ?_)
    refine ev_ic (bI true) at_104_178 (by decide) ?_
    refine ev_go at_104_179 rfl ?_
    refine ev_callS (as := [_, _, _, _]) at_104_183 (by decide) rfl rfl (by simp [mm_wt, Value.category]) rfl c1 ?_
    refine ev_ist at_104_186 rfl hs5 ?_
    refine ev_go at_104_188 rfl ?_
    refine ev_go at_104_189 rfl ?_
    refine ev_go at_104_190 rfl ?_
    refine ev_ic (nI 1) at_104_192 (by decide) ?_
    refine ev_go at_104_193 rfl ?_
    first | refine ev_top (congrArg Value.int (nI_add _ _)) ?_ | skip
    refine ev_ialdS at_104_194 (by omega) (by omega) ?_
    refine ev_go at_104_195 rfl ?_
    refine ev_go at_104_196 rfl ?_
    refine ev_ic (nI 2) at_104_198 (by decide) ?_
    refine ev_go at_104_199 rfl ?_
    first | refine ev_top (congrArg Value.int (nI_add _ _)) ?_ | skip
    refine ev_ialdS at_104_200 (by omega) (by omega) ?_
    refine ev_go at_104_201 rfl ?_
    refine ev_go at_104_202 rfl ?_
    refine ev_ic (nI 3) at_104_204 (by decide) ?_
    refine ev_go at_104_205 rfl ?_
    first | refine ev_top (congrArg Value.int (nI_add _ _)) ?_ | skip
    refine ev_ialdS at_104_206 (by omega) (by omega) ?_
    refine ev_if_eq at_104_207 (fun hc => absurd hc hb) (fun _ => ?_)
    refine ev_ic (bI true) at_104_210 (by decide) ?_
    refine ev_go at_104_211 rfl ?_
    refine ev_callV (as := [_, _, _]) at_104_215 rfl rfl (by simp [mm_wt, Value.category]) rfl q1 c2 ?_
    refine ev_go at_104_218 rfl ?_
    refine ev_callV (as := []) at_104_219 rfl rfl (by simp [mm_wt, Value.category]) rfl q2 c3 ?_
    refine ev_go at_104_222 rfl ?_
    refine ev_icmp_eq at_104_224 (fun _ => ?_) (fun hc => absurd rfl hc)
    refine ev_go at_104_229 rfl ?_
    exact k
theorem cs_wire (hL : LW K h T N W) (hT : T + 8 < 2 ^ 30) {i : Nat} (hi : i + 4 ≤ z.1) (hz : z.1 < 10000) {s5 s6 : Slot} (hs5 : mm_slot1 s5 = true) (hs6 : mm_slot1 s6 = true) : CS z K h T N W i s5 s6 232 := by
  by_cases hb : z.2 (i + 2) = 0
  · skip
    obtain ⟨kd, h1, h2, vo, c1, ⟨fs1, q1⟩, c2, hLW, ho, ⟨fs2, q2⟩, c3⟩ := op_wire (z := z) hL (z.2 (i + 1)) false
    refine ⟨h2, .val (.int kd), s6, hLW, rfl, hs6, fun R k => ?_⟩
    refine ev_go at_104_232 rfl ?_
    refine ev_go at_104_233 rfl ?_
    refine ev_go at_104_234 rfl ?_
    refine ev_ic (nI 1) at_104_236 (by decide) ?_
    refine ev_go at_104_237 rfl ?_
    first | refine ev_top (congrArg Value.int (nI_add _ _)) ?_ | skip
    refine ev_ialdS at_104_238 (by omega) (by omega) ?_
    refine ev_go at_104_239 rfl ?_
    refine ev_go at_104_240 rfl ?_
    refine ev_ic (nI 2) at_104_242 (by decide) ?_
    refine ev_go at_104_243 rfl ?_
    first | refine ev_top (congrArg Value.int (nI_add _ _)) ?_ | skip
    refine ev_ialdS at_104_244 (by omega) (by omega) ?_
    refine ev_if_eq at_104_245 (fun _ => ?_) (fun hc => absurd hb hc)
    refine ev_ic (bI false) at_104_252 (by decide) ?_
    refine ev_callS (as := [_, _, _]) at_104_253 (by decide) rfl rfl (by simp [mm_wt, Value.category]) rfl c1 ?_
    refine ev_ist at_104_256 rfl hs5 ?_
    refine ev_go at_104_258 rfl ?_
    refine ev_go at_104_259 rfl ?_
    refine ev_go at_104_260 rfl ?_
    refine ev_ic (nI 1) at_104_262 (by decide) ?_
    refine ev_go at_104_263 rfl ?_
    first | refine ev_top (congrArg Value.int (nI_add _ _)) ?_ | skip
    refine ev_ialdS at_104_264 (by omega) (by omega) ?_
    refine ev_go at_104_265 rfl ?_
    refine ev_go at_104_266 rfl ?_
    refine ev_ic (nI 2) at_104_268 (by decide) ?_
    refine ev_go at_104_269 rfl ?_
    first | refine ev_top (congrArg Value.int (nI_add _ _)) ?_ | skip
    refine ev_ialdS at_104_270 (by omega) (by omega) ?_
    refine ev_if_eq at_104_271 (fun _ => ?_) (fun hc => absurd hb hc)
    refine ev_ic (bI false) at_104_278 (by decide) ?_
    refine ev_callV (as := [_, _]) at_104_279 rfl rfl (by simp [mm_wt, Value.category]) rfl q1 c2 ?_
    refine ev_go at_104_282 rfl ?_
    refine ev_callV (as := []) at_104_283 rfl rfl (by simp [mm_wt, Value.category]) rfl q2 c3 ?_
    refine ev_go at_104_286 rfl ?_
    refine ev_icmp_eq at_104_288 (fun _ => ?_) (fun hc => absurd rfl hc)
    refine ev_go at_104_293 rfl ?_
    exact k
  · skip
    obtain ⟨kd, h1, h2, vo, c1, ⟨fs1, q1⟩, c2, hLW, ho, ⟨fs2, q2⟩, c3⟩ := op_wire (z := z) hL (z.2 (i + 1)) true
    refine ⟨h2, .val (.int kd), s6, hLW, rfl, hs6, fun R k => ?_⟩
    refine ev_go at_104_232 rfl ?_
    refine ev_go at_104_233 rfl ?_
    refine ev_go at_104_234 rfl ?_
    refine ev_ic (nI 1) at_104_236 (by decide) ?_
    refine ev_go at_104_237 rfl ?_
    first | refine ev_top (congrArg Value.int (nI_add _ _)) ?_ | skip
    refine ev_ialdS at_104_238 (by omega) (by omega) ?_
    refine ev_go at_104_239 rfl ?_
    refine ev_go at_104_240 rfl ?_
    refine ev_ic (nI 2) at_104_242 (by decide) ?_
    refine ev_go at_104_243 rfl ?_
    first | refine ev_top (congrArg Value.int (nI_add _ _)) ?_ | skip
    refine ev_ialdS at_104_244 (by omega) (by omega) ?_
    refine ev_if_eq at_104_245 (fun hc => absurd hc hb) (fun _ => ?_)
    refine ev_ic (bI true) at_104_248 (by decide) ?_
    refine ev_go at_104_249 rfl ?_
    refine ev_callS (as := [_, _, _]) at_104_253 (by decide) rfl rfl (by simp [mm_wt, Value.category]) rfl c1 ?_
    refine ev_ist at_104_256 rfl hs5 ?_
    refine ev_go at_104_258 rfl ?_
    refine ev_go at_104_259 rfl ?_
    refine ev_go at_104_260 rfl ?_
    refine ev_ic (nI 1) at_104_262 (by decide) ?_
    refine ev_go at_104_263 rfl ?_
    first | refine ev_top (congrArg Value.int (nI_add _ _)) ?_ | skip
    refine ev_ialdS at_104_264 (by omega) (by omega) ?_
    refine ev_go at_104_265 rfl ?_
    refine ev_go at_104_266 rfl ?_
    refine ev_ic (nI 2) at_104_268 (by decide) ?_
    refine ev_go at_104_269 rfl ?_
    first | refine ev_top (congrArg Value.int (nI_add _ _)) ?_ | skip
    refine ev_ialdS at_104_270 (by omega) (by omega) ?_
    refine ev_if_eq at_104_271 (fun hc => absurd hc hb) (fun _ => ?_)
    refine ev_ic (bI true) at_104_274 (by decide) ?_
    refine ev_go at_104_275 rfl ?_
    refine ev_callV (as := [_, _]) at_104_279 rfl rfl (by simp [mm_wt, Value.category]) rfl q1 c2 ?_
    refine ev_go at_104_282 rfl ?_
    refine ev_callV (as := []) at_104_283 rfl rfl (by simp [mm_wt, Value.category]) rfl q2 c3 ?_
    refine ev_go at_104_286 rfl ?_
    refine ev_icmp_eq at_104_288 (fun _ => ?_) (fun hc => absurd rfl hc)
    refine ev_go at_104_293 rfl ?_
    exact k
theorem cs_take (hL : LW K h T N W) (hT : T + 8 < 2 ^ 30) {i : Nat} (hi : i + 4 ≤ z.1) (hz : z.1 < 10000) {s5 s6 : Slot} (hs5 : mm_slot1 s5 = true) (hs6 : mm_slot1 s6 = true) : CS z K h T N W i s5 s6 296 := by
  obtain ⟨kd, h1, h2, vo, v, c1, ⟨fs1, q1⟩, c2, hv, hLW, ho, ⟨fs2, q2⟩, c3⟩ := op_take (z := z) hL hT (z.2 (i + 1)) (z.2 (i + 2))
  refine ⟨h2, .val (.int kd), .val (.int v), hLW, rfl, rfl, fun R k => ?_⟩
  refine ev_go at_104_296 rfl ?_
  refine ev_go at_104_297 rfl ?_
  refine ev_go at_104_298 rfl ?_
  refine ev_ic (nI 1) at_104_300 (by decide) ?_
  refine ev_go at_104_301 rfl ?_
  first | refine ev_top (congrArg Value.int (nI_add _ _)) ?_ | skip
  refine ev_ialdS at_104_302 (by omega) (by omega) ?_
  refine ev_go at_104_303 rfl ?_
  refine ev_go at_104_304 rfl ?_
  refine ev_ic (nI 2) at_104_306 (by decide) ?_
  refine ev_go at_104_307 rfl ?_
  first | refine ev_top (congrArg Value.int (nI_add _ _)) ?_ | skip
  refine ev_ialdS at_104_308 (by omega) (by omega) ?_
  refine ev_go at_104_309 rfl ?_
  refine ev_callS (as := [_, _, _, _]) at_104_310 (by decide) rfl rfl (by simp [mm_wt, Value.category]) rfl c1 ?_
  refine ev_ist at_104_313 rfl hs5 ?_
  refine ev_go at_104_315 rfl ?_
  refine ev_go at_104_316 rfl ?_
  refine ev_go at_104_317 rfl ?_
  refine ev_ic (nI 1) at_104_319 (by decide) ?_
  refine ev_go at_104_320 rfl ?_
  first | refine ev_top (congrArg Value.int (nI_add _ _)) ?_ | skip
  refine ev_ialdS at_104_321 (by omega) (by omega) ?_
  refine ev_go at_104_322 rfl ?_
  refine ev_go at_104_323 rfl ?_
  refine ev_ic (nI 2) at_104_325 (by decide) ?_
  refine ev_go at_104_326 rfl ?_
  first | refine ev_top (congrArg Value.int (nI_add _ _)) ?_ | skip
  refine ev_ialdS at_104_327 (by omega) (by omega) ?_
  refine ev_callV (as := [_, _]) at_104_328 rfl rfl (by simp [mm_wt, Value.category]) rfl q1 c2 ?_
  refine ev_ist at_104_331 rfl hs6 ?_
  refine ev_go at_104_333 rfl ?_
  refine ev_callV (as := []) at_104_334 rfl rfl (by simp [mm_wt, Value.category]) rfl q2 c3 ?_
  refine ev_go at_104_337 rfl ?_
  refine ev_icmp_eq at_104_339 (fun _ => ?_) (fun hc => absurd rfl hc)
  refine ev_go at_104_344 rfl ?_
  refine ev_if_ne at_104_346 (fun hk => ?_) (fun hk => ?_)
  · skip
    refine ev_go at_104_361 rfl ?_
    exact k
  · skip
    refine ev_go at_104_349 rfl ?_
    refine ev_ic (nI 0) at_104_350 (by decide) ?_
    refine ev_lald (i := 0) at_104_351 ho (by omega) rfl ?_
    refine ev_go at_104_352 rfl ?_
    refine ev_go at_104_354 rfl ?_
    refine ev_go at_104_355 rfl ?_
    refine ev_if_eq at_104_356 (fun _ => ?_) (fun hc => absurd ((lg_cmp_eq _ _).mpr (hv hk)) hc)
    refine ev_go at_104_361 rfl ?_
    exact k
theorem cs_give (hL : LW K h T N W) (hT : T + 8 < 2 ^ 30) {i : Nat} (hi : i + 4 ≤ z.1) (hz : z.1 < 10000) {s5 s6 : Slot} (hs5 : mm_slot1 s5 = true) (hs6 : mm_slot1 s6 = true) : CS z K h T N W i s5 s6 364 := by
  obtain ⟨kd, h1, h2, vo, c1, ⟨fs1, q1⟩, c2, hLW, ho, ⟨fs2, q2⟩, c3⟩ := op_give (z := z) hL (z.2 (i + 1)) (z.2 (i + 2)) (z.2 (i + 3))
  refine ⟨h2, .val (.int kd), s6, hLW, rfl, hs6, fun R k => ?_⟩
  refine ev_go at_104_364 rfl ?_
  refine ev_go at_104_365 rfl ?_
  refine ev_go at_104_366 rfl ?_
  refine ev_ic (nI 1) at_104_368 (by decide) ?_
  refine ev_go at_104_369 rfl ?_
  first | refine ev_top (congrArg Value.int (nI_add _ _)) ?_ | skip
  refine ev_ialdS at_104_370 (by omega) (by omega) ?_
  refine ev_go at_104_371 rfl ?_
  refine ev_go at_104_372 rfl ?_
  refine ev_ic (nI 2) at_104_374 (by decide) ?_
  refine ev_go at_104_375 rfl ?_
  first | refine ev_top (congrArg Value.int (nI_add _ _)) ?_ | skip
  refine ev_ialdS at_104_376 (by omega) (by omega) ?_
  refine ev_go at_104_377 rfl ?_
  refine ev_go at_104_378 rfl ?_
  refine ev_ic (nI 3) at_104_380 (by decide) ?_
  refine ev_go at_104_381 rfl ?_
  first | refine ev_top (congrArg Value.int (nI_add _ _)) ?_ | skip
  refine ev_ialdS at_104_382 (by omega) (by omega) ?_
  refine ev_callS (as := [_, _, _, _]) at_104_383 (by decide) rfl rfl (by simp [mm_wt, Value.category]) rfl c1 ?_
  refine ev_ist at_104_386 rfl hs5 ?_
  refine ev_go at_104_388 rfl ?_
  refine ev_go at_104_389 rfl ?_
  refine ev_go at_104_390 rfl ?_
  refine ev_ic (nI 1) at_104_392 (by decide) ?_
  refine ev_go at_104_393 rfl ?_
  first | refine ev_top (congrArg Value.int (nI_add _ _)) ?_ | skip
  refine ev_ialdS at_104_394 (by omega) (by omega) ?_
  refine ev_go at_104_395 rfl ?_
  refine ev_go at_104_396 rfl ?_
  refine ev_ic (nI 2) at_104_398 (by decide) ?_
  refine ev_go at_104_399 rfl ?_
  first | refine ev_top (congrArg Value.int (nI_add _ _)) ?_ | skip
  refine ev_ialdS at_104_400 (by omega) (by omega) ?_
  refine ev_go at_104_401 rfl ?_
  refine ev_go at_104_402 rfl ?_
  refine ev_ic (nI 3) at_104_404 (by decide) ?_
  refine ev_go at_104_405 rfl ?_
  first | refine ev_top (congrArg Value.int (nI_add _ _)) ?_ | skip
  refine ev_ialdS at_104_406 (by omega) (by omega) ?_
  refine ev_callV (as := [_, _, _]) at_104_407 rfl rfl (by simp [mm_wt, Value.category]) rfl q1 c2 ?_
  refine ev_go at_104_410 rfl ?_
  refine ev_callV (as := []) at_104_411 rfl rfl (by simp [mm_wt, Value.category]) rfl q2 c3 ?_
  refine ev_go at_104_414 rfl ?_
  refine ev_icmp_eq at_104_416 (fun _ => ?_) (fun hc => absurd rfl hc)
  refine ev_go at_104_421 rfl ?_
  exact k
theorem cs_train (hL : LW K h T N W) (hT : T + 8 < 2 ^ 30) {i : Nat} (hi : i + 4 ≤ z.1) (hz : z.1 < 10000) {s5 s6 : Slot} (hs5 : mm_slot1 s5 = true) (hs6 : mm_slot1 s6 = true) : CS z K h T N W i s5 s6 424 := by
  obtain ⟨kd, h1, h2, vo, c1, ⟨fs1, q1⟩, c2, hLW, ho, ⟨fs2, q2⟩, c3⟩ := op_train (z := z) hL (z.2 (i + 1)) (z.2 (i + 2))
  refine ⟨h2, .val (.int kd), s6, hLW, rfl, hs6, fun R k => ?_⟩
  refine ev_go at_104_424 rfl ?_
  refine ev_go at_104_425 rfl ?_
  refine ev_go at_104_426 rfl ?_
  refine ev_ic (nI 1) at_104_428 (by decide) ?_
  refine ev_go at_104_429 rfl ?_
  first | refine ev_top (congrArg Value.int (nI_add _ _)) ?_ | skip
  refine ev_ialdS at_104_430 (by omega) (by omega) ?_
  refine ev_go at_104_431 rfl ?_
  refine ev_go at_104_432 rfl ?_
  refine ev_ic (nI 2) at_104_434 (by decide) ?_
  refine ev_go at_104_435 rfl ?_
  first | refine ev_top (congrArg Value.int (nI_add _ _)) ?_ | skip
  refine ev_ialdS at_104_436 (by omega) (by omega) ?_
  refine ev_callS (as := [_, _, _]) at_104_437 (by decide) rfl rfl (by simp [mm_wt, Value.category]) rfl c1 ?_
  refine ev_ist at_104_440 rfl hs5 ?_
  refine ev_go at_104_442 rfl ?_
  refine ev_go at_104_443 rfl ?_
  refine ev_go at_104_444 rfl ?_
  refine ev_ic (nI 1) at_104_446 (by decide) ?_
  refine ev_go at_104_447 rfl ?_
  first | refine ev_top (congrArg Value.int (nI_add _ _)) ?_ | skip
  refine ev_ialdS at_104_448 (by omega) (by omega) ?_
  refine ev_go at_104_449 rfl ?_
  refine ev_go at_104_450 rfl ?_
  refine ev_ic (nI 2) at_104_452 (by decide) ?_
  refine ev_go at_104_453 rfl ?_
  first | refine ev_top (congrArg Value.int (nI_add _ _)) ?_ | skip
  refine ev_ialdS at_104_454 (by omega) (by omega) ?_
  refine ev_callV (as := [_, _]) at_104_455 rfl rfl (by simp [mm_wt, Value.category]) rfl q1 c2 ?_
  refine ev_go at_104_458 rfl ?_
  refine ev_callV (as := []) at_104_459 rfl rfl (by simp [mm_wt, Value.category]) rfl q2 c3 ?_
  refine ev_go at_104_462 rfl ?_
  refine ev_icmp_eq at_104_464 (fun _ => ?_) (fun hc => absurd rfl hc)
  refine ev_go at_104_469 rfl ?_
  exact k
theorem cs_hand (hL : LW K h T N W) (hT : T + 8 < 2 ^ 30) {i : Nat} (hi : i + 4 ≤ z.1) (hz : z.1 < 10000) {s5 s6 : Slot} (hs5 : mm_slot1 s5 = true) (hs6 : mm_slot1 s6 = true) : CS z K h T N W i s5 s6 472 := by
  obtain ⟨kd, h1, h2, vo, c1, ⟨fs1, q1⟩, c2, hLW, ho, ⟨fs2, q2⟩, c3⟩ := op_hand (z := z) hL hT (z.2 (i + 1)) (z.2 (i + 2))
  refine ⟨h2, .val (.int kd), s6, hLW, rfl, hs6, fun R k => ?_⟩
  refine ev_go at_104_472 rfl ?_
  refine ev_go at_104_473 rfl ?_
  refine ev_go at_104_474 rfl ?_
  refine ev_ic (nI 1) at_104_476 (by decide) ?_
  refine ev_go at_104_477 rfl ?_
  first | refine ev_top (congrArg Value.int (nI_add _ _)) ?_ | skip
  refine ev_ialdS at_104_478 (by omega) (by omega) ?_
  refine ev_go at_104_479 rfl ?_
  refine ev_go at_104_480 rfl ?_
  refine ev_ic (nI 2) at_104_482 (by decide) ?_
  refine ev_go at_104_483 rfl ?_
  first | refine ev_top (congrArg Value.int (nI_add _ _)) ?_ | skip
  refine ev_ialdS at_104_484 (by omega) (by omega) ?_
  refine ev_callS (as := [_, _, _]) at_104_485 (by decide) rfl rfl (by simp [mm_wt, Value.category]) rfl c1 ?_
  refine ev_ist at_104_488 rfl hs5 ?_
  refine ev_go at_104_490 rfl ?_
  refine ev_go at_104_491 rfl ?_
  refine ev_go at_104_492 rfl ?_
  refine ev_ic (nI 1) at_104_494 (by decide) ?_
  refine ev_go at_104_495 rfl ?_
  first | refine ev_top (congrArg Value.int (nI_add _ _)) ?_ | skip
  refine ev_ialdS at_104_496 (by omega) (by omega) ?_
  refine ev_go at_104_497 rfl ?_
  refine ev_go at_104_498 rfl ?_
  refine ev_ic (nI 2) at_104_500 (by decide) ?_
  refine ev_go at_104_501 rfl ?_
  first | refine ev_top (congrArg Value.int (nI_add _ _)) ?_ | skip
  refine ev_ialdS at_104_502 (by omega) (by omega) ?_
  refine ev_callV (as := [_, _]) at_104_503 rfl rfl (by simp [mm_wt, Value.category]) rfl q1 c2 ?_
  refine ev_go at_104_506 rfl ?_
  refine ev_callV (as := []) at_104_507 rfl rfl (by simp [mm_wt, Value.category]) rfl q2 c3 ?_
  refine ev_go at_104_510 rfl ?_
  refine ev_icmp_eq at_104_512 (fun _ => ?_) (fun hc => absurd rfl hc)
  refine ev_go at_104_517 rfl ?_
  exact k
theorem cs_back (hL : LW K h T N W) (hT : T + 8 < 2 ^ 30) {i : Nat} (hi : i + 4 ≤ z.1) (hz : z.1 < 10000) {s5 s6 : Slot} (hs5 : mm_slot1 s5 = true) (hs6 : mm_slot1 s6 = true) : CS z K h T N W i s5 s6 520 := by
  obtain ⟨kd, h1, h2, vo, v, c1, ⟨fs1, q1⟩, c2, hv, hLW, ho, ⟨fs2, q2⟩, c3⟩ := op_back (z := z) hL hT (z.2 (i + 1))
  refine ⟨h2, .val (.int kd), .val (.int v), hLW, rfl, rfl, fun R k => ?_⟩
  refine ev_go at_104_520 rfl ?_
  refine ev_go at_104_521 rfl ?_
  refine ev_go at_104_522 rfl ?_
  refine ev_ic (nI 1) at_104_524 (by decide) ?_
  refine ev_go at_104_525 rfl ?_
  first | refine ev_top (congrArg Value.int (nI_add _ _)) ?_ | skip
  refine ev_ialdS at_104_526 (by omega) (by omega) ?_
  refine ev_go at_104_527 rfl ?_
  refine ev_callS (as := [_, _, _]) at_104_528 (by decide) rfl rfl (by simp [mm_wt, Value.category]) rfl c1 ?_
  refine ev_ist at_104_531 rfl hs5 ?_
  refine ev_go at_104_533 rfl ?_
  refine ev_go at_104_534 rfl ?_
  refine ev_go at_104_535 rfl ?_
  refine ev_ic (nI 1) at_104_537 (by decide) ?_
  refine ev_go at_104_538 rfl ?_
  first | refine ev_top (congrArg Value.int (nI_add _ _)) ?_ | skip
  refine ev_ialdS at_104_539 (by omega) (by omega) ?_
  refine ev_callV (as := [_]) at_104_540 rfl rfl (by simp [mm_wt, Value.category]) rfl q1 c2 ?_
  refine ev_ist at_104_543 rfl hs6 ?_
  refine ev_go at_104_545 rfl ?_
  refine ev_callV (as := []) at_104_546 rfl rfl (by simp [mm_wt, Value.category]) rfl q2 c3 ?_
  refine ev_go at_104_549 rfl ?_
  refine ev_icmp_eq at_104_551 (fun _ => ?_) (fun hc => absurd rfl hc)
  refine ev_go at_104_556 rfl ?_
  refine ev_if_ne at_104_558 (fun hk => ?_) (fun hk => ?_)
  · skip
    refine ev_go at_104_573 rfl ?_
    exact k
  · skip
    refine ev_go at_104_561 rfl ?_
    refine ev_ic (nI 0) at_104_562 (by decide) ?_
    refine ev_lald (i := 0) at_104_563 ho (by omega) rfl ?_
    refine ev_go at_104_564 rfl ?_
    refine ev_go at_104_566 rfl ?_
    refine ev_go at_104_567 rfl ?_
    refine ev_if_eq at_104_568 (fun _ => ?_) (fun hc => absurd ((lg_cmp_eq _ _).mpr (hv hk)) hc)
    refine ev_go at_104_573 rfl ?_
    exact k
theorem cs_enter (hL : LW K h T N W) (hT : T + 8 < 2 ^ 30) {i : Nat} (hi : i + 4 ≤ z.1) (hz : z.1 < 10000) {s5 s6 : Slot} (hs5 : mm_slot1 s5 = true) (hs6 : mm_slot1 s6 = true) : CS z K h T N W i s5 s6 576 := by
  by_cases hb : z.2 (i + 2) = 0
  · skip
    obtain ⟨kd, h1, h2, vo, v, c1, ⟨fs1, q1⟩, c2, hv, hLW, ho, ⟨fs2, q2⟩, c3⟩ := op_enter (z := z) hL hT (z.2 (i + 1)) false
    refine ⟨h2, .val (.int kd), .val (.int v), hLW, rfl, rfl, fun R k => ?_⟩
    refine ev_go at_104_576 rfl ?_
    refine ev_go at_104_577 rfl ?_
    refine ev_go at_104_578 rfl ?_
    refine ev_ic (nI 1) at_104_580 (by decide) ?_
    refine ev_go at_104_581 rfl ?_
    first | refine ev_top (congrArg Value.int (nI_add _ _)) ?_ | skip
    refine ev_ialdS at_104_582 (by omega) (by omega) ?_
    refine ev_go at_104_583 rfl ?_
    refine ev_go at_104_584 rfl ?_
    refine ev_ic (nI 2) at_104_586 (by decide) ?_
    refine ev_go at_104_587 rfl ?_
    first | refine ev_top (congrArg Value.int (nI_add _ _)) ?_ | skip
    refine ev_ialdS at_104_588 (by omega) (by omega) ?_
    refine ev_if_eq at_104_589 (fun _ => ?_) (fun hc => absurd hb hc)
    refine ev_ic (bI false) at_104_596 (by decide) ?_
    refine ev_go at_104_597 rfl ?_
    refine ev_callS (as := [_, _, _, _]) at_104_598 (by decide) rfl rfl (by simp [mm_wt, Value.category]) rfl c1 ?_
    refine ev_ist at_104_601 rfl hs5 ?_
    refine ev_go at_104_603 rfl ?_
    refine ev_go at_104_604 rfl ?_
    refine ev_go at_104_605 rfl ?_
    refine ev_ic (nI 1) at_104_607 (by decide) ?_
    refine ev_go at_104_608 rfl ?_
    first | refine ev_top (congrArg Value.int (nI_add _ _)) ?_ | skip
    refine ev_ialdS at_104_609 (by omega) (by omega) ?_
    refine ev_go at_104_610 rfl ?_
    refine ev_go at_104_611 rfl ?_
    refine ev_ic (nI 2) at_104_613 (by decide) ?_
    refine ev_go at_104_614 rfl ?_
    first | refine ev_top (congrArg Value.int (nI_add _ _)) ?_ | skip
    refine ev_ialdS at_104_615 (by omega) (by omega) ?_
    refine ev_if_eq at_104_616 (fun _ => ?_) (fun hc => absurd hb hc)
    refine ev_ic (bI false) at_104_623 (by decide) ?_
    refine ev_callV (as := [_, _]) at_104_624 rfl rfl (by simp [mm_wt, Value.category]) rfl q1 c2 ?_
    refine ev_ist at_104_627 rfl hs6 ?_
    refine ev_go at_104_629 rfl ?_
    refine ev_callV (as := []) at_104_630 rfl rfl (by simp [mm_wt, Value.category]) rfl q2 c3 ?_
    refine ev_go at_104_633 rfl ?_
    refine ev_icmp_eq at_104_635 (fun _ => ?_) (fun hc => absurd rfl hc)
    refine ev_go at_104_640 rfl ?_
    refine ev_if_ne at_104_642 (fun hk => ?_) (fun hk => ?_)
    · skip
      refine ev_go at_104_657 rfl ?_
      exact k
    · skip
      refine ev_go at_104_645 rfl ?_
      refine ev_ic (nI 0) at_104_646 (by decide) ?_
      refine ev_lald (i := 0) at_104_647 ho (by omega) rfl ?_
      refine ev_go at_104_648 rfl ?_
      refine ev_go at_104_650 rfl ?_
      refine ev_go at_104_651 rfl ?_
      refine ev_if_eq at_104_652 (fun _ => ?_) (fun hc => absurd ((lg_cmp_eq _ _).mpr (hv hk)) hc)
      refine ev_go at_104_657 rfl ?_
      exact k
  · skip
    obtain ⟨kd, h1, h2, vo, v, c1, ⟨fs1, q1⟩, c2, hv, hLW, ho, ⟨fs2, q2⟩, c3⟩ := op_enter (z := z) hL hT (z.2 (i + 1)) true
    refine ⟨h2, .val (.int kd), .val (.int v), hLW, rfl, rfl, fun R k => ?_⟩
    refine ev_go at_104_576 rfl ?_
    refine ev_go at_104_577 rfl ?_
    refine ev_go at_104_578 rfl ?_
    refine ev_ic (nI 1) at_104_580 (by decide) ?_
    refine ev_go at_104_581 rfl ?_
    first | refine ev_top (congrArg Value.int (nI_add _ _)) ?_ | skip
    refine ev_ialdS at_104_582 (by omega) (by omega) ?_
    refine ev_go at_104_583 rfl ?_
    refine ev_go at_104_584 rfl ?_
    refine ev_ic (nI 2) at_104_586 (by decide) ?_
    refine ev_go at_104_587 rfl ?_
    first | refine ev_top (congrArg Value.int (nI_add _ _)) ?_ | skip
    refine ev_ialdS at_104_588 (by omega) (by omega) ?_
    refine ev_if_eq at_104_589 (fun hc => absurd hc hb) (fun _ => ?_)
    refine ev_ic (bI true) at_104_592 (by decide) ?_
    refine ev_go at_104_593 rfl ?_
    refine ev_go at_104_597 rfl ?_
    refine ev_callS (as := [_, _, _, _]) at_104_598 (by decide) rfl rfl (by simp [mm_wt, Value.category]) rfl c1 ?_
    refine ev_ist at_104_601 rfl hs5 ?_
    refine ev_go at_104_603 rfl ?_
    refine ev_go at_104_604 rfl ?_
    refine ev_go at_104_605 rfl ?_
    refine ev_ic (nI 1) at_104_607 (by decide) ?_
    refine ev_go at_104_608 rfl ?_
    first | refine ev_top (congrArg Value.int (nI_add _ _)) ?_ | skip
    refine ev_ialdS at_104_609 (by omega) (by omega) ?_
    refine ev_go at_104_610 rfl ?_
    refine ev_go at_104_611 rfl ?_
    refine ev_ic (nI 2) at_104_613 (by decide) ?_
    refine ev_go at_104_614 rfl ?_
    first | refine ev_top (congrArg Value.int (nI_add _ _)) ?_ | skip
    refine ev_ialdS at_104_615 (by omega) (by omega) ?_
    refine ev_if_eq at_104_616 (fun hc => absurd hc hb) (fun _ => ?_)
    refine ev_ic (bI true) at_104_619 (by decide) ?_
    refine ev_go at_104_620 rfl ?_
    refine ev_callV (as := [_, _]) at_104_624 rfl rfl (by simp [mm_wt, Value.category]) rfl q1 c2 ?_
    refine ev_ist at_104_627 rfl hs6 ?_
    refine ev_go at_104_629 rfl ?_
    refine ev_callV (as := []) at_104_630 rfl rfl (by simp [mm_wt, Value.category]) rfl q2 c3 ?_
    refine ev_go at_104_633 rfl ?_
    refine ev_icmp_eq at_104_635 (fun _ => ?_) (fun hc => absurd rfl hc)
    refine ev_go at_104_640 rfl ?_
    refine ev_if_ne at_104_642 (fun hk => ?_) (fun hk => ?_)
    · skip
      refine ev_go at_104_657 rfl ?_
      exact k
    · skip
      refine ev_go at_104_645 rfl ?_
      refine ev_ic (nI 0) at_104_646 (by decide) ?_
      refine ev_lald (i := 0) at_104_647 ho (by omega) rfl ?_
      refine ev_go at_104_648 rfl ?_
      refine ev_go at_104_650 rfl ?_
      refine ev_go at_104_651 rfl ?_
      refine ev_if_eq at_104_652 (fun _ => ?_) (fun hc => absurd ((lg_cmp_eq _ _).mpr (hv hk)) hc)
      refine ev_go at_104_657 rfl ?_
      exact k
theorem cs_arrive (hL : LW K h T N W) (hT : T + 8 < 2 ^ 30) {i : Nat} (hi : i + 4 ≤ z.1) (hz : z.1 < 10000) {s5 s6 : Slot} (hs5 : mm_slot1 s5 = true) (hs6 : mm_slot1 s6 = true) : CS z K h T N W i s5 s6 660 := by
  obtain ⟨kd, h1, h2, vo, v, c1, ⟨fs1, q1⟩, c2, hv, hLW, ho, ⟨fs2, q2⟩, c3⟩ := op_arrive (z := z) hL (z.2 (i + 1))
  refine ⟨h2, .val (.int kd), .val (.int v), hLW, rfl, rfl, fun R k => ?_⟩
  refine ev_go at_104_660 rfl ?_
  refine ev_go at_104_661 rfl ?_
  refine ev_go at_104_662 rfl ?_
  refine ev_ic (nI 1) at_104_664 (by decide) ?_
  refine ev_go at_104_665 rfl ?_
  first | refine ev_top (congrArg Value.int (nI_add _ _)) ?_ | skip
  refine ev_ialdS at_104_666 (by omega) (by omega) ?_
  refine ev_go at_104_667 rfl ?_
  refine ev_callS (as := [_, _, _]) at_104_668 (by decide) rfl rfl (by simp [mm_wt, Value.category]) rfl c1 ?_
  refine ev_ist at_104_671 rfl hs5 ?_
  refine ev_go at_104_673 rfl ?_
  refine ev_go at_104_674 rfl ?_
  refine ev_go at_104_675 rfl ?_
  refine ev_ic (nI 1) at_104_677 (by decide) ?_
  refine ev_go at_104_678 rfl ?_
  first | refine ev_top (congrArg Value.int (nI_add _ _)) ?_ | skip
  refine ev_ialdS at_104_679 (by omega) (by omega) ?_
  refine ev_callV (as := [_]) at_104_680 rfl rfl (by simp [mm_wt, Value.category]) rfl q1 c2 ?_
  refine ev_ist at_104_683 rfl hs6 ?_
  refine ev_go at_104_685 rfl ?_
  refine ev_callV (as := []) at_104_686 rfl rfl (by simp [mm_wt, Value.category]) rfl q2 c3 ?_
  refine ev_go at_104_689 rfl ?_
  refine ev_icmp_eq at_104_691 (fun _ => ?_) (fun hc => absurd rfl hc)
  refine ev_go at_104_696 rfl ?_
  refine ev_if_ne at_104_698 (fun hk => ?_) (fun hk => ?_)
  · skip
    refine ev_go at_104_713 rfl ?_
    exact k
  · skip
    refine ev_go at_104_701 rfl ?_
    refine ev_ic (nI 0) at_104_702 (by decide) ?_
    refine ev_lald (i := 0) at_104_703 ho (by omega) rfl ?_
    refine ev_go at_104_704 rfl ?_
    refine ev_go at_104_706 rfl ?_
    refine ev_go at_104_707 rfl ?_
    refine ev_if_eq at_104_708 (fun _ => ?_) (fun hc => absurd ((lg_cmp_eq _ _).mpr (hv hk)) hc)
    refine ev_go at_104_713 rfl ?_
    exact k
theorem cs_switchOut (hL : LW K h T N W) (hT : T + 8 < 2 ^ 30) {i : Nat} (hi : i + 4 ≤ z.1) (hz : z.1 < 10000) {s5 s6 : Slot} (hs5 : mm_slot1 s5 = true) (hs6 : mm_slot1 s6 = true) : CS z K h T N W i s5 s6 716 := by
  obtain ⟨kd, h1, h2, vo, v, c1, ⟨fs1, q1⟩, c2, hv, hLW, ho, ⟨fs2, q2⟩, c3⟩ := op_switchOut (z := z) hL hT (z.2 (i + 1))
  refine ⟨h2, .val (.int kd), .val (.int v), hLW, rfl, rfl, fun R k => ?_⟩
  refine ev_go at_104_716 rfl ?_
  refine ev_go at_104_717 rfl ?_
  refine ev_go at_104_718 rfl ?_
  refine ev_ic (nI 1) at_104_720 (by decide) ?_
  refine ev_go at_104_721 rfl ?_
  first | refine ev_top (congrArg Value.int (nI_add _ _)) ?_ | skip
  refine ev_ialdS at_104_722 (by omega) (by omega) ?_
  refine ev_go at_104_723 rfl ?_
  refine ev_callS (as := [_, _, _]) at_104_724 (by decide) rfl rfl (by simp [mm_wt, Value.category]) rfl c1 ?_
  refine ev_ist at_104_727 rfl hs5 ?_
  refine ev_go at_104_729 rfl ?_
  refine ev_go at_104_730 rfl ?_
  refine ev_go at_104_731 rfl ?_
  refine ev_ic (nI 1) at_104_733 (by decide) ?_
  refine ev_go at_104_734 rfl ?_
  first | refine ev_top (congrArg Value.int (nI_add _ _)) ?_ | skip
  refine ev_ialdS at_104_735 (by omega) (by omega) ?_
  refine ev_callV (as := [_]) at_104_736 rfl rfl (by simp [mm_wt, Value.category]) rfl q1 c2 ?_
  refine ev_ist at_104_739 rfl hs6 ?_
  refine ev_go at_104_741 rfl ?_
  refine ev_callV (as := []) at_104_742 rfl rfl (by simp [mm_wt, Value.category]) rfl q2 c3 ?_
  refine ev_go at_104_745 rfl ?_
  refine ev_icmp_eq at_104_747 (fun _ => ?_) (fun hc => absurd rfl hc)
  refine ev_go at_104_752 rfl ?_
  refine ev_if_ne at_104_754 (fun hk => ?_) (fun hk => ?_)
  · skip
    refine ev_go at_104_769 rfl ?_
    exact k
  · skip
    refine ev_go at_104_757 rfl ?_
    refine ev_ic (nI 0) at_104_758 (by decide) ?_
    refine ev_lald (i := 0) at_104_759 ho (by omega) rfl ?_
    refine ev_go at_104_760 rfl ?_
    refine ev_go at_104_762 rfl ?_
    refine ev_go at_104_763 rfl ?_
    refine ev_if_eq at_104_764 (fun _ => ?_) (fun hc => absurd ((lg_cmp_eq _ _).mpr (hv hk)) hc)
    refine ev_go at_104_769 rfl ?_
    exact k
theorem cs_switchIn (hL : LW K h T N W) (hT : T + 8 < 2 ^ 30) {i : Nat} (hi : i + 4 ≤ z.1) (hz : z.1 < 10000) {s5 s6 : Slot} (hs5 : mm_slot1 s5 = true) (hs6 : mm_slot1 s6 = true) : CS z K h T N W i s5 s6 772 := by
  obtain ⟨kd, h1, h2, vo, v, c1, ⟨fs1, q1⟩, c2, hv, hLW, ho, ⟨fs2, q2⟩, c3⟩ := op_switchIn (z := z) hL hT (z.2 (i + 1))
  refine ⟨h2, .val (.int kd), .val (.int v), hLW, rfl, rfl, fun R k => ?_⟩
  refine ev_go at_104_772 rfl ?_
  refine ev_go at_104_773 rfl ?_
  refine ev_go at_104_774 rfl ?_
  refine ev_ic (nI 1) at_104_776 (by decide) ?_
  refine ev_go at_104_777 rfl ?_
  first | refine ev_top (congrArg Value.int (nI_add _ _)) ?_ | skip
  refine ev_ialdS at_104_778 (by omega) (by omega) ?_
  refine ev_go at_104_779 rfl ?_
  refine ev_callS (as := [_, _, _]) at_104_780 (by decide) rfl rfl (by simp [mm_wt, Value.category]) rfl c1 ?_
  refine ev_ist at_104_783 rfl hs5 ?_
  refine ev_go at_104_785 rfl ?_
  refine ev_go at_104_786 rfl ?_
  refine ev_go at_104_787 rfl ?_
  refine ev_ic (nI 1) at_104_789 (by decide) ?_
  refine ev_go at_104_790 rfl ?_
  first | refine ev_top (congrArg Value.int (nI_add _ _)) ?_ | skip
  refine ev_ialdS at_104_791 (by omega) (by omega) ?_
  refine ev_callV (as := [_]) at_104_792 rfl rfl (by simp [mm_wt, Value.category]) rfl q1 c2 ?_
  refine ev_ist at_104_795 rfl hs6 ?_
  refine ev_go at_104_797 rfl ?_
  refine ev_callV (as := []) at_104_798 rfl rfl (by simp [mm_wt, Value.category]) rfl q2 c3 ?_
  refine ev_go at_104_801 rfl ?_
  refine ev_icmp_eq at_104_803 (fun _ => ?_) (fun hc => absurd rfl hc)
  refine ev_go at_104_808 rfl ?_
  refine ev_if_ne at_104_810 (fun hk => ?_) (fun hk => ?_)
  · skip
    refine ev_go at_104_825 rfl ?_
    exact k
  · skip
    refine ev_go at_104_813 rfl ?_
    refine ev_ic (nI 0) at_104_814 (by decide) ?_
    refine ev_lald (i := 0) at_104_815 ho (by omega) rfl ?_
    refine ev_go at_104_816 rfl ?_
    refine ev_go at_104_818 rfl ?_
    refine ev_go at_104_819 rfl ?_
    refine ev_if_eq at_104_820 (fun _ => ?_) (fun hc => absurd ((lg_cmp_eq _ _).mpr (hv hk)) hc)
    refine ev_go at_104_825 rfl ?_
    exact k
theorem cs_carry (hL : LW K h T N W) (hT : T + 8 < 2 ^ 30) {i : Nat} (hi : i + 4 ≤ z.1) (hz : z.1 < 10000) {s5 s6 : Slot} (hs5 : mm_slot1 s5 = true) (hs6 : mm_slot1 s6 = true) : CS z K h T N W i s5 s6 828 := by
  obtain ⟨kd, h1, h2, vo, c1, ⟨fs1, q1⟩, c2, hLW, ho, ⟨fs2, q2⟩, c3⟩ := op_carry (z := z) hL hT (z.2 (i + 1)) (z.2 (i + 2)) (z.2 (i + 3))
  refine ⟨h2, .val (.int kd), s6, hLW, rfl, hs6, fun R k => ?_⟩
  refine ev_go at_104_828 rfl ?_
  refine ev_go at_104_829 rfl ?_
  refine ev_go at_104_830 rfl ?_
  refine ev_ic (nI 1) at_104_832 (by decide) ?_
  refine ev_go at_104_833 rfl ?_
  first | refine ev_top (congrArg Value.int (nI_add _ _)) ?_ | skip
  refine ev_ialdS at_104_834 (by omega) (by omega) ?_
  refine ev_go at_104_835 rfl ?_
  refine ev_go at_104_836 rfl ?_
  refine ev_ic (nI 2) at_104_838 (by decide) ?_
  refine ev_go at_104_839 rfl ?_
  first | refine ev_top (congrArg Value.int (nI_add _ _)) ?_ | skip
  refine ev_ialdS at_104_840 (by omega) (by omega) ?_
  refine ev_go at_104_841 rfl ?_
  refine ev_go at_104_842 rfl ?_
  refine ev_ic (nI 3) at_104_844 (by decide) ?_
  refine ev_go at_104_845 rfl ?_
  first | refine ev_top (congrArg Value.int (nI_add _ _)) ?_ | skip
  refine ev_ialdS at_104_846 (by omega) (by omega) ?_
  refine ev_callS (as := [_, _, _, _]) at_104_847 (by decide) rfl rfl (by simp [mm_wt, Value.category]) rfl c1 ?_
  refine ev_ist at_104_850 rfl hs5 ?_
  refine ev_go at_104_852 rfl ?_
  refine ev_go at_104_853 rfl ?_
  refine ev_go at_104_854 rfl ?_
  refine ev_ic (nI 1) at_104_856 (by decide) ?_
  refine ev_go at_104_857 rfl ?_
  first | refine ev_top (congrArg Value.int (nI_add _ _)) ?_ | skip
  refine ev_ialdS at_104_858 (by omega) (by omega) ?_
  refine ev_go at_104_859 rfl ?_
  refine ev_go at_104_860 rfl ?_
  refine ev_ic (nI 2) at_104_862 (by decide) ?_
  refine ev_go at_104_863 rfl ?_
  first | refine ev_top (congrArg Value.int (nI_add _ _)) ?_ | skip
  refine ev_ialdS at_104_864 (by omega) (by omega) ?_
  refine ev_go at_104_865 rfl ?_
  refine ev_go at_104_866 rfl ?_
  refine ev_ic (nI 3) at_104_868 (by decide) ?_
  refine ev_go at_104_869 rfl ?_
  first | refine ev_top (congrArg Value.int (nI_add _ _)) ?_ | skip
  refine ev_ialdS at_104_870 (by omega) (by omega) ?_
  refine ev_callV (as := [_, _, _]) at_104_871 rfl rfl (by simp [mm_wt, Value.category]) rfl q1 c2 ?_
  refine ev_go at_104_874 rfl ?_
  refine ev_callV (as := []) at_104_875 rfl rfl (by simp [mm_wt, Value.category]) rfl q2 c3 ?_
  refine ev_go at_104_878 rfl ?_
  refine ev_icmp_eq at_104_880 (fun _ => ?_) (fun hc => absurd rfl hc)
  refine ev_go at_104_885 rfl ?_
  exact k
theorem cs_phase (hL : LW K h T N W) (hT : T + 8 < 2 ^ 30) {i : Nat} (hi : i + 4 ≤ z.1) (hz : z.1 < 10000) {s5 s6 : Slot} (hs5 : mm_slot1 s5 = true) (hs6 : mm_slot1 s6 = true) : CS z K h T N W i s5 s6 888 := by
  obtain ⟨kd, h1, h2, vo, v, c1, ⟨fs1, q1⟩, c2, hv, hLW, ho, ⟨fs2, q2⟩, c3⟩ := op_phase (z := z) hL hT (z.2 (i + 1)) (z.2 (i + 2))
  refine ⟨h2, .val (.int kd), .val (.int v), hLW, rfl, rfl, fun R k => ?_⟩
  refine ev_go at_104_888 rfl ?_
  refine ev_go at_104_889 rfl ?_
  refine ev_go at_104_890 rfl ?_
  refine ev_ic (nI 1) at_104_892 (by decide) ?_
  refine ev_go at_104_893 rfl ?_
  first | refine ev_top (congrArg Value.int (nI_add _ _)) ?_ | skip
  refine ev_ialdS at_104_894 (by omega) (by omega) ?_
  refine ev_go at_104_895 rfl ?_
  refine ev_go at_104_896 rfl ?_
  refine ev_ic (nI 2) at_104_898 (by decide) ?_
  refine ev_go at_104_899 rfl ?_
  first | refine ev_top (congrArg Value.int (nI_add _ _)) ?_ | skip
  refine ev_ialdS at_104_900 (by omega) (by omega) ?_
  refine ev_go at_104_901 rfl ?_
  refine ev_callS (as := [_, _, _, _]) at_104_902 (by decide) rfl rfl (by simp [mm_wt, Value.category]) rfl c1 ?_
  refine ev_ist at_104_905 rfl hs5 ?_
  refine ev_go at_104_907 rfl ?_
  refine ev_go at_104_908 rfl ?_
  refine ev_go at_104_909 rfl ?_
  refine ev_ic (nI 1) at_104_911 (by decide) ?_
  refine ev_go at_104_912 rfl ?_
  first | refine ev_top (congrArg Value.int (nI_add _ _)) ?_ | skip
  refine ev_ialdS at_104_913 (by omega) (by omega) ?_
  refine ev_go at_104_914 rfl ?_
  refine ev_go at_104_915 rfl ?_
  refine ev_ic (nI 2) at_104_917 (by decide) ?_
  refine ev_go at_104_918 rfl ?_
  first | refine ev_top (congrArg Value.int (nI_add _ _)) ?_ | skip
  refine ev_ialdS at_104_919 (by omega) (by omega) ?_
  refine ev_callV (as := [_, _]) at_104_920 rfl rfl (by simp [mm_wt, Value.category]) rfl q1 c2 ?_
  refine ev_ist at_104_923 rfl hs6 ?_
  refine ev_go at_104_925 rfl ?_
  refine ev_callV (as := []) at_104_926 rfl rfl (by simp [mm_wt, Value.category]) rfl q2 c3 ?_
  refine ev_go at_104_929 rfl ?_
  refine ev_icmp_eq at_104_931 (fun _ => ?_) (fun hc => absurd rfl hc)
  refine ev_go at_104_936 rfl ?_
  refine ev_if_ne at_104_938 (fun hk => ?_) (fun hk => ?_)
  · skip
    refine ev_go at_104_953 rfl ?_
    exact k
  · skip
    refine ev_go at_104_941 rfl ?_
    refine ev_ic (nI 0) at_104_942 (by decide) ?_
    refine ev_lald (i := 0) at_104_943 ho (by omega) rfl ?_
    refine ev_go at_104_944 rfl ?_
    refine ev_go at_104_946 rfl ?_
    refine ev_go at_104_947 rfl ?_
    refine ev_if_eq at_104_948 (fun _ => ?_) (fun hc => absurd ((lg_cmp_eq _ _).mpr (hv hk)) hc)
    refine ev_go at_104_953 rfl ?_
    exact k
theorem cs_slide (hL : LW K h T N W) (hT : T + 8 < 2 ^ 30) {i : Nat} (hi : i + 4 ≤ z.1) (hz : z.1 < 10000) {s5 s6 : Slot} (hs5 : mm_slot1 s5 = true) (hs6 : mm_slot1 s6 = true) : CS z K h T N W i s5 s6 956 := by
  obtain ⟨kd, h1, h2, vo, v, c1, ⟨fs1, q1⟩, c2, hv, hLW, ho, ⟨fs2, q2⟩, c3⟩ := op_slide (z := z) hL hT (z.2 (i + 1)) (z.2 (i + 2))
  refine ⟨h2, .val (.int kd), .val (.int v), hLW, rfl, rfl, fun R k => ?_⟩
  refine ev_go at_104_956 rfl ?_
  refine ev_go at_104_957 rfl ?_
  refine ev_go at_104_958 rfl ?_
  refine ev_ic (nI 1) at_104_960 (by decide) ?_
  refine ev_go at_104_961 rfl ?_
  first | refine ev_top (congrArg Value.int (nI_add _ _)) ?_ | skip
  refine ev_ialdS at_104_962 (by omega) (by omega) ?_
  refine ev_go at_104_963 rfl ?_
  refine ev_go at_104_964 rfl ?_
  refine ev_ic (nI 2) at_104_966 (by decide) ?_
  refine ev_go at_104_967 rfl ?_
  first | refine ev_top (congrArg Value.int (nI_add _ _)) ?_ | skip
  refine ev_ialdS at_104_968 (by omega) (by omega) ?_
  refine ev_go at_104_969 rfl ?_
  refine ev_callS (as := [_, _, _, _]) at_104_970 (by decide) rfl rfl (by simp [mm_wt, Value.category]) rfl c1 ?_
  refine ev_ist at_104_973 rfl hs5 ?_
  refine ev_go at_104_975 rfl ?_
  refine ev_go at_104_976 rfl ?_
  refine ev_go at_104_977 rfl ?_
  refine ev_ic (nI 1) at_104_979 (by decide) ?_
  refine ev_go at_104_980 rfl ?_
  first | refine ev_top (congrArg Value.int (nI_add _ _)) ?_ | skip
  refine ev_ialdS at_104_981 (by omega) (by omega) ?_
  refine ev_go at_104_982 rfl ?_
  refine ev_go at_104_983 rfl ?_
  refine ev_ic (nI 2) at_104_985 (by decide) ?_
  refine ev_go at_104_986 rfl ?_
  first | refine ev_top (congrArg Value.int (nI_add _ _)) ?_ | skip
  refine ev_ialdS at_104_987 (by omega) (by omega) ?_
  refine ev_callV (as := [_, _]) at_104_988 rfl rfl (by simp [mm_wt, Value.category]) rfl q1 c2 ?_
  refine ev_ist at_104_991 rfl hs6 ?_
  refine ev_go at_104_993 rfl ?_
  refine ev_callV (as := []) at_104_994 rfl rfl (by simp [mm_wt, Value.category]) rfl q2 c3 ?_
  refine ev_go at_104_997 rfl ?_
  refine ev_icmp_eq at_104_999 (fun _ => ?_) (fun hc => absurd rfl hc)
  refine ev_go at_104_1004 rfl ?_
  refine ev_if_ne at_104_1006 (fun hk => ?_) (fun hk => ?_)
  · skip
    refine ev_go at_104_1021 rfl ?_
    exact k
  · skip
    refine ev_go at_104_1009 rfl ?_
    refine ev_ic (nI 0) at_104_1010 (by decide) ?_
    refine ev_lald (i := 0) at_104_1011 ho (by omega) rfl ?_
    refine ev_go at_104_1012 rfl ?_
    refine ev_go at_104_1014 rfl ?_
    refine ev_go at_104_1015 rfl ?_
    refine ev_if_eq at_104_1016 (fun _ => ?_) (fun hc => absurd ((lg_cmp_eq _ _).mpr (hv hk)) hc)
    refine ev_go at_104_1021 rfl ?_
    exact k
theorem cs_where (hL : LW K h T N W) (hT : T + 8 < 2 ^ 30) {i : Nat} (hi : i + 4 ≤ z.1) (hz : z.1 < 10000) {s5 s6 : Slot} (hs5 : mm_slot1 s5 = true) (hs6 : mm_slot1 s6 = true) : CS z K h T N W i s5 s6 1024 := by
  obtain ⟨kd, h1, h2, vo, v, c1, ⟨fs1, q1⟩, c2, hv, hLW, ho, ⟨fs2, q2⟩, c3⟩ := op_where (z := z) hL (z.2 (i + 1))
  refine ⟨h2, .val (.int kd), .val (.int v), hLW, rfl, rfl, fun R k => ?_⟩
  refine ev_go at_104_1024 rfl ?_
  refine ev_go at_104_1025 rfl ?_
  refine ev_go at_104_1026 rfl ?_
  refine ev_ic (nI 1) at_104_1028 (by decide) ?_
  refine ev_go at_104_1029 rfl ?_
  first | refine ev_top (congrArg Value.int (nI_add _ _)) ?_ | skip
  refine ev_ialdS at_104_1030 (by omega) (by omega) ?_
  refine ev_go at_104_1031 rfl ?_
  refine ev_callS (as := [_, _, _]) at_104_1032 (by decide) rfl rfl (by simp [mm_wt, Value.category]) rfl c1 ?_
  refine ev_ist at_104_1035 rfl hs5 ?_
  refine ev_go at_104_1037 rfl ?_
  refine ev_go at_104_1038 rfl ?_
  refine ev_go at_104_1039 rfl ?_
  refine ev_ic (nI 1) at_104_1041 (by decide) ?_
  refine ev_go at_104_1042 rfl ?_
  first | refine ev_top (congrArg Value.int (nI_add _ _)) ?_ | skip
  refine ev_ialdS at_104_1043 (by omega) (by omega) ?_
  refine ev_callV (as := [_]) at_104_1044 rfl rfl (by simp [mm_wt, Value.category]) rfl q1 c2 ?_
  refine ev_ist at_104_1047 rfl hs6 ?_
  refine ev_go at_104_1049 rfl ?_
  refine ev_callV (as := []) at_104_1050 rfl rfl (by simp [mm_wt, Value.category]) rfl q2 c3 ?_
  refine ev_go at_104_1053 rfl ?_
  refine ev_icmp_eq at_104_1055 (fun _ => ?_) (fun hc => absurd rfl hc)
  refine ev_go at_104_1060 rfl ?_
  refine ev_if_ne at_104_1062 (fun hk => ?_) (fun hk => ?_)
  · skip
    refine ev_go at_104_1077 rfl ?_
    exact k
  · skip
    refine ev_go at_104_1065 rfl ?_
    refine ev_ic (nI 0) at_104_1066 (by decide) ?_
    refine ev_lald (i := 0) at_104_1067 ho (by omega) rfl ?_
    refine ev_go at_104_1068 rfl ?_
    refine ev_go at_104_1070 rfl ?_
    refine ev_go at_104_1071 rfl ?_
    refine ev_if_eq at_104_1072 (fun _ => ?_) (fun hc => absurd ((lg_cmp_eq _ _).mpr (hv hk)) hc)
    refine ev_go at_104_1077 rfl ?_
    exact k
theorem cs_place (hL : LW K h T N W) (hT : T + 8 < 2 ^ 30) {i : Nat} (hi : i + 4 ≤ z.1) (hz : z.1 < 10000) {s5 s6 : Slot} (hs5 : mm_slot1 s5 = true) (hs6 : mm_slot1 s6 = true) : CS z K h T N W i s5 s6 1080 := by
  obtain ⟨kd, h1, h2, vo, v, c1, ⟨fs1, q1⟩, c2, hv, hLW, ho, ⟨fs2, q2⟩, c3⟩ := op_place (z := z) hL (z.2 (i + 1))
  refine ⟨h2, .val (.int kd), .val (.int v), hLW, rfl, rfl, fun R k => ?_⟩
  refine ev_go at_104_1080 rfl ?_
  refine ev_go at_104_1081 rfl ?_
  refine ev_go at_104_1082 rfl ?_
  refine ev_ic (nI 1) at_104_1084 (by decide) ?_
  refine ev_go at_104_1085 rfl ?_
  first | refine ev_top (congrArg Value.int (nI_add _ _)) ?_ | skip
  refine ev_ialdS at_104_1086 (by omega) (by omega) ?_
  refine ev_go at_104_1087 rfl ?_
  refine ev_callS (as := [_, _, _]) at_104_1088 (by decide) rfl rfl (by simp [mm_wt, Value.category]) rfl c1 ?_
  refine ev_ist at_104_1091 rfl hs5 ?_
  refine ev_go at_104_1093 rfl ?_
  refine ev_go at_104_1094 rfl ?_
  refine ev_go at_104_1095 rfl ?_
  refine ev_ic (nI 1) at_104_1097 (by decide) ?_
  refine ev_go at_104_1098 rfl ?_
  first | refine ev_top (congrArg Value.int (nI_add _ _)) ?_ | skip
  refine ev_ialdS at_104_1099 (by omega) (by omega) ?_
  refine ev_callV (as := [_]) at_104_1100 rfl rfl (by simp [mm_wt, Value.category]) rfl q1 c2 ?_
  refine ev_ist at_104_1103 rfl hs6 ?_
  refine ev_go at_104_1105 rfl ?_
  refine ev_callV (as := []) at_104_1106 rfl rfl (by simp [mm_wt, Value.category]) rfl q2 c3 ?_
  refine ev_go at_104_1109 rfl ?_
  refine ev_icmp_eq at_104_1111 (fun _ => ?_) (fun hc => absurd rfl hc)
  refine ev_go at_104_1116 rfl ?_
  refine ev_if_ne at_104_1118 (fun hk => ?_) (fun hk => ?_)
  · skip
    refine ev_go at_104_1133 rfl ?_
    exact k
  · skip
    refine ev_go at_104_1121 rfl ?_
    refine ev_ic (nI 0) at_104_1122 (by decide) ?_
    refine ev_lald (i := 0) at_104_1123 ho (by omega) rfl ?_
    refine ev_go at_104_1124 rfl ?_
    refine ev_go at_104_1126 rfl ?_
    refine ev_go at_104_1127 rfl ?_
    refine ev_if_eq at_104_1128 (fun _ => ?_) (fun hc => absurd ((lg_cmp_eq _ _).mpr (hv hk)) hc)
    refine ev_go at_104_1133 rfl ?_
    exact k
theorem cs_spend (hL : LW K h T N W) (hT : T + 8 < 2 ^ 30) {i : Nat} (hi : i + 4 ≤ z.1) (hz : z.1 < 10000) {s5 s6 : Slot} (hs5 : mm_slot1 s5 = true) (hs6 : mm_slot1 s6 = true) : CS z K h T N W i s5 s6 1136 := by
  obtain ⟨kd, h1, h2, vo, v, c1, ⟨fs1, q1⟩, c2, hv, hLW, ho, ⟨fs2, q2⟩, c3⟩ := op_spend (z := z) hL hT (z.2 (i + 1)) (z.2 (i + 2))
  refine ⟨h2, .val (.int kd), .val (.int v), hLW, rfl, rfl, fun R k => ?_⟩
  refine ev_go at_104_1136 rfl ?_
  refine ev_go at_104_1137 rfl ?_
  refine ev_go at_104_1138 rfl ?_
  refine ev_ic (nI 1) at_104_1140 (by decide) ?_
  refine ev_go at_104_1141 rfl ?_
  first | refine ev_top (congrArg Value.int (nI_add _ _)) ?_ | skip
  refine ev_ialdS at_104_1142 (by omega) (by omega) ?_
  refine ev_go at_104_1143 rfl ?_
  refine ev_go at_104_1144 rfl ?_
  refine ev_ic (nI 2) at_104_1146 (by decide) ?_
  refine ev_go at_104_1147 rfl ?_
  first | refine ev_top (congrArg Value.int (nI_add _ _)) ?_ | skip
  refine ev_ialdS at_104_1148 (by omega) (by omega) ?_
  refine ev_go at_104_1149 rfl ?_
  refine ev_callS (as := [_, _, _, _]) at_104_1150 (by decide) rfl rfl (by simp [mm_wt, Value.category]) rfl c1 ?_
  refine ev_ist at_104_1153 rfl hs5 ?_
  refine ev_go at_104_1155 rfl ?_
  refine ev_go at_104_1156 rfl ?_
  refine ev_go at_104_1157 rfl ?_
  refine ev_ic (nI 1) at_104_1159 (by decide) ?_
  refine ev_go at_104_1160 rfl ?_
  first | refine ev_top (congrArg Value.int (nI_add _ _)) ?_ | skip
  refine ev_ialdS at_104_1161 (by omega) (by omega) ?_
  refine ev_go at_104_1162 rfl ?_
  refine ev_go at_104_1163 rfl ?_
  refine ev_ic (nI 2) at_104_1165 (by decide) ?_
  refine ev_go at_104_1166 rfl ?_
  first | refine ev_top (congrArg Value.int (nI_add _ _)) ?_ | skip
  refine ev_ialdS at_104_1167 (by omega) (by omega) ?_
  refine ev_callV (as := [_, _]) at_104_1168 rfl rfl (by simp [mm_wt, Value.category]) rfl q1 c2 ?_
  refine ev_ist at_104_1171 rfl hs6 ?_
  refine ev_go at_104_1173 rfl ?_
  refine ev_callV (as := []) at_104_1174 rfl rfl (by simp [mm_wt, Value.category]) rfl q2 c3 ?_
  refine ev_go at_104_1177 rfl ?_
  refine ev_icmp_eq at_104_1179 (fun _ => ?_) (fun hc => absurd rfl hc)
  refine ev_go at_104_1184 rfl ?_
  refine ev_if_ne at_104_1186 (fun hk => ?_) (fun hk => ?_)
  · skip
    refine ev_go at_104_1201 rfl ?_
    exact k
  · skip
    refine ev_go at_104_1189 rfl ?_
    refine ev_ic (nI 0) at_104_1190 (by decide) ?_
    refine ev_lald (i := 0) at_104_1191 ho (by omega) rfl ?_
    refine ev_go at_104_1192 rfl ?_
    refine ev_go at_104_1194 rfl ?_
    refine ev_go at_104_1195 rfl ?_
    refine ev_if_eq at_104_1196 (fun _ => ?_) (fun hc => absurd ((lg_cmp_eq _ _).mpr (hv hk)) hc)
    refine ev_go at_104_1201 rfl ?_
    exact k
theorem cs_out (hL : LW K h T N W) (hT : T + 8 < 2 ^ 30) {i : Nat} (hi : i + 4 ≤ z.1) (hz : z.1 < 10000) {s5 s6 : Slot} (hs5 : mm_slot1 s5 = true) (hs6 : mm_slot1 s6 = true) : CS z K h T N W i s5 s6 1204 := by
  obtain ⟨kd, h1, h2, vo, vb, c1, ⟨fs1, q1⟩, c2, hv, hLW, ho, ⟨fs2, q2⟩, c3⟩ := op_out (z := z) hL (z.2 (i + 1))
  refine ⟨h2, .val (.int kd), .val (.int (bI vb)), hLW, rfl, rfl, fun R k => ?_⟩
  refine ev_go at_104_1204 rfl ?_
  refine ev_go at_104_1205 rfl ?_
  refine ev_go at_104_1206 rfl ?_
  refine ev_ic (nI 1) at_104_1208 (by decide) ?_
  refine ev_go at_104_1209 rfl ?_
  first | refine ev_top (congrArg Value.int (nI_add _ _)) ?_ | skip
  refine ev_ialdS at_104_1210 (by omega) (by omega) ?_
  refine ev_go at_104_1211 rfl ?_
  refine ev_callS (as := [_, _, _]) at_104_1212 (by decide) rfl rfl (by simp [mm_wt, Value.category]) rfl c1 ?_
  refine ev_ist at_104_1215 rfl hs5 ?_
  refine ev_go at_104_1217 rfl ?_
  refine ev_go at_104_1218 rfl ?_
  refine ev_go at_104_1219 rfl ?_
  refine ev_ic (nI 1) at_104_1221 (by decide) ?_
  refine ev_go at_104_1222 rfl ?_
  first | refine ev_top (congrArg Value.int (nI_add _ _)) ?_ | skip
  refine ev_ialdS at_104_1223 (by omega) (by omega) ?_
  refine ev_callV (as := [_]) at_104_1224 rfl rfl (by simp [mm_wt, Value.category]) rfl q1 c2 ?_
  refine ev_ist at_104_1227 rfl hs6 ?_
  refine ev_go at_104_1229 rfl ?_
  refine ev_callV (as := []) at_104_1230 rfl rfl (by simp [mm_wt, Value.category]) rfl q2 c3 ?_
  refine ev_go at_104_1233 rfl ?_
  refine ev_icmp_eq at_104_1235 (fun _ => ?_) (fun hc => absurd rfl hc)
  refine ev_go at_104_1240 rfl ?_
  refine ev_if_ne at_104_1242 (fun hk => ?_) (fun hk => ?_)
  · skip
    refine ev_go at_104_1264 rfl ?_
    exact k
  · skip
    refine ev_go at_104_1245 rfl ?_
    refine ev_ic (nI 0) at_104_1246 (by decide) ?_
    refine ev_lald (i := 0) at_104_1247 ho (by omega) rfl ?_
    refine ev_go at_104_1248 rfl ?_
    cases vb
    · skip
      refine ev_ifb_eq at_104_1250 (fun _ => ?_) (fun hc => nomatch hc)
      refine ev_go at_104_1257 rfl ?_
      refine ev_go at_104_1258 rfl ?_
      refine ev_if_eq at_104_1259 (fun _ => ?_) (fun hc => absurd ((lg_cmp_eq _ _).mpr (hv hk)) hc)
      refine ev_go at_104_1264 rfl ?_
      exact k
    · skip
      refine ev_ifb_eq at_104_1250 (fun hc => nomatch hc) (fun _ => ?_)
      refine ev_go at_104_1253 rfl ?_
      refine ev_go at_104_1254 rfl ?_
      refine ev_go at_104_1258 rfl ?_
      refine ev_if_eq at_104_1259 (fun _ => ?_) (fun hc => absurd ((lg_cmp_eq _ _).mpr (hv hk)) hc)
      refine ev_go at_104_1264 rfl ?_
      exact k
end L2
