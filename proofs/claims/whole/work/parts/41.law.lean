def fL_case0 (xs : Nat → Int32) (x3 : Int) (M N : gMem) (K : gMem → gMem → Prop) : Prop :=
  fX8_feed (lSc xs (x3 + 1)) (lSc xs (x3 + 2)) (lSc xs (x3 + 3)) (lSc xs (x3 + 4)) (lSc xs (x3 + 5)) M (fun r1 M1 => fX9_feed (lSc xs (x3 + 1)) (lSc xs (x3 + 2)) (lSc xs (x3 + 3)) (lSc xs (x3 + 4)) (lSc xs (x3 + 5)) N (fun r2 N1 => rg r1 ∧ r1 = r2 ∧ K M1 N1))
set_option maxHeartbeats 4000000 in
set_option maxRecDepth 100000 in
theorem ctL_case0 {y : gY} {z1 z2 : gZ} {l : Launch} {A : Nat → Prop} {b Ln : Nat} {xs : Nat → Int32} {x3 : Int} {M N : gMem} {K : gMem → gMem → Prop} (hC : lC y l cL_law RL 4 lw_tbl room_1) (hE : lE y z1 z2 A b Ln xs) (hZ1 : gZc z1) (hZ2 : gZm z2) (hx : 0 ≤ x3 ∧ x3 + 8 ≤ Ln) (hK : ∀ M N, K M N → lW y A (lI z1 z2 A M N) 1120 [some (.ref b), some (vr z1 0), some (vr z2 0), some (vi x3)] []) (h : fL_case0 xs x3 M N K) : lW y A (lI z1 z2 A M N) 152 [some (.ref b), some (vr z1 0), some (vr z2 0), some (vi x3)] [] := by
  replace h : fX8_feed (lSc xs (x3 + 1)) (lSc xs (x3 + 2)) (lSc xs (x3 + 3)) (lSc xs (x3 + 4)) (lSc xs (x3 + 5)) M (fun r1 M1 => fX9_feed (lSc xs (x3 + 1)) (lSc xs (x3 + 2)) (lSc xs (x3 + 3)) (lSc xs (x3 + 4)) (lSc xs (x3 + 5)) N (fun r2 N1 => rg r1 ∧ r1 = r2 ∧ K M1 N1)) := h
  refine l_aload_n hC dL_law_152 rfl rfl ?_
  refine l_aload_n hC dL_law_153 rfl rfl ?_
  refine l_iload_n hC dL_law_154 rfl rfl ?_
  refine l_iconst hC dL_law_155 ?_
  refine l_iadd hC dL_law_156 ?_
  refine l_sld hC hE (by omega) dL_law_157 ?_
  refine l_aload_n hC dL_law_158 rfl rfl ?_
  refine l_iload_n hC dL_law_159 rfl rfl ?_
  refine l_iconst hC dL_law_160 ?_
  refine l_iadd hC dL_law_161 ?_
  refine l_sld hC hE (by omega) dL_law_162 ?_
  refine l_aload_n hC dL_law_163 rfl rfl ?_
  refine l_iload_n hC dL_law_164 rfl rfl ?_
  refine l_iconst hC dL_law_165 ?_
  refine l_iadd hC dL_law_166 ?_
  refine l_sld hC hE (by omega) dL_law_167 ?_
  refine l_aload_n hC dL_law_168 rfl rfl ?_
  refine l_iload_n hC dL_law_169 rfl rfl ?_
  refine l_iconst hC dL_law_170 ?_
  refine l_iadd hC dL_law_171 ?_
  refine l_sld hC hE (by omega) dL_law_172 ?_
  refine l_aload_n hC dL_law_173 rfl rfl ?_
  refine l_iload_n hC dL_law_174 rfl rfl ?_
  refine l_iconst hC dL_law_175 ?_
  refine l_iadd hC dL_law_176 ?_
  refine l_sld hC hE (by omega) dL_law_177 ?_
  refine l_call1 (As := [(vi (lSc xs (x3 + 1))), (vi (lSc xs (x3 + 2))), (vi (lSc xs (x3 + 3))), (vi (lSc xs (x3 + 4))), (vi (lSc xs (x3 + 5)))]) (rest := []) hC hE hZ1 rfl (ctX8_feed hZ1 h) (gCw_law (n := 5) wd_333 wd_39 (by decide) (by decide) (by decide +kernel)) rfl (lT wd_330) (lT wd_331) (lT wd_332) rfl (Nat.le_of_ble_eq_true rfl) rfl dL_law_178 (fun r1 M1 h => ?_)
  refine l_aload_n hC dL_law_181 rfl rfl ?_
  refine l_aload_n hC dL_law_182 rfl rfl ?_
  refine l_iload_n hC dL_law_183 rfl rfl ?_
  refine l_iconst hC dL_law_184 ?_
  refine l_iadd hC dL_law_185 ?_
  refine l_sld hC hE (by omega) dL_law_186 ?_
  refine l_aload_n hC dL_law_187 rfl rfl ?_
  refine l_iload_n hC dL_law_188 rfl rfl ?_
  refine l_iconst hC dL_law_189 ?_
  refine l_iadd hC dL_law_190 ?_
  refine l_sld hC hE (by omega) dL_law_191 ?_
  refine l_aload_n hC dL_law_192 rfl rfl ?_
  refine l_iload_n hC dL_law_193 rfl rfl ?_
  refine l_iconst hC dL_law_194 ?_
  refine l_iadd hC dL_law_195 ?_
  refine l_sld hC hE (by omega) dL_law_196 ?_
  refine l_aload_n hC dL_law_197 rfl rfl ?_
  refine l_iload_n hC dL_law_198 rfl rfl ?_
  refine l_iconst hC dL_law_199 ?_
  refine l_iadd hC dL_law_200 ?_
  refine l_sld hC hE (by omega) dL_law_201 ?_
  refine l_aload_n hC dL_law_202 rfl rfl ?_
  refine l_iload_n hC dL_law_203 rfl rfl ?_
  refine l_iconst hC dL_law_204 ?_
  refine l_iadd hC dL_law_205 ?_
  refine l_sld hC hE (by omega) dL_law_206 ?_
  refine l_call2 (As := [(vi (lSc xs (x3 + 1))), (vi (lSc xs (x3 + 2))), (vi (lSc xs (x3 + 3))), (vi (lSc xs (x3 + 4))), (vi (lSc xs (x3 + 5)))]) (rest := [(vi r1)]) hC hE hZ2 rfl (ctX9_feed hZ2 h) (gCw_law (n := 5) wd_804 wd_49 (by decide) (by decide) (by decide +kernel)) rfl (lT wd_801) (lT wd_802) (lT wd_803) rfl (Nat.le_of_ble_eq_true rfl) rfl dL_law_207 (fun r2 N1 h => ?_)
  obtain ⟨hr1, hr2, h⟩ := h
  refine l_ceq hC 1120 hr1 (by rw [← hr2]; exact hr1) dL_law_210 (by decide) (fun _ => ?_) (fun hn => ?_)
  · exact hK M1 N1 h
  · exact absurd hr2 hn
def fL_case1 (xs : Nat → Int32) (x3 : Int) (M N : gMem) (K : gMem → gMem → Prop) : Prop :=
  fX8_end (lSc xs (x3 + 1)) M (fun r1 M1 => fX9_end (lSc xs (x3 + 1)) N (fun r2 N1 => rg r1 ∧ r1 = r2 ∧ K M1 N1))
set_option maxHeartbeats 4000000 in
set_option maxRecDepth 100000 in
theorem ctL_case1 {y : gY} {z1 z2 : gZ} {l : Launch} {A : Nat → Prop} {b Ln : Nat} {xs : Nat → Int32} {x3 : Int} {M N : gMem} {K : gMem → gMem → Prop} (hC : lC y l cL_law RL 4 lw_tbl room_1) (hE : lE y z1 z2 A b Ln xs) (hZ1 : gZc z1) (hZ2 : gZm z2) (hx : 0 ≤ x3 ∧ x3 + 8 ≤ Ln) (hK : ∀ M N, K M N → lW y A (lI z1 z2 A M N) 1120 [some (.ref b), some (vr z1 0), some (vr z2 0), some (vi x3)] []) (h : fL_case1 xs x3 M N K) : lW y A (lI z1 z2 A M N) 215 [some (.ref b), some (vr z1 0), some (vr z2 0), some (vi x3)] [] := by
  replace h : fX8_end (lSc xs (x3 + 1)) M (fun r1 M1 => fX9_end (lSc xs (x3 + 1)) N (fun r2 N1 => rg r1 ∧ r1 = r2 ∧ K M1 N1)) := h
  refine l_aload_n hC dL_law_215 rfl rfl ?_
  refine l_aload_n hC dL_law_216 rfl rfl ?_
  refine l_iload_n hC dL_law_217 rfl rfl ?_
  refine l_iconst hC dL_law_218 ?_
  refine l_iadd hC dL_law_219 ?_
  refine l_sld hC hE (by omega) dL_law_220 ?_
  refine l_call1 (As := [(vi (lSc xs (x3 + 1)))]) (rest := []) hC hE hZ1 rfl (ctX8_end hZ1 h) (gCw_law (n := 1) wd_341 wd_39 (by decide) (by decide) (by decide +kernel)) rfl (lT wd_338) (lT wd_339) (lT wd_340) rfl (Nat.le_of_ble_eq_true rfl) rfl dL_law_221 (fun r1 M1 h => ?_)
  refine l_aload_n hC dL_law_224 rfl rfl ?_
  refine l_aload_n hC dL_law_225 rfl rfl ?_
  refine l_iload_n hC dL_law_226 rfl rfl ?_
  refine l_iconst hC dL_law_227 ?_
  refine l_iadd hC dL_law_228 ?_
  refine l_sld hC hE (by omega) dL_law_229 ?_
  refine l_call2 (As := [(vi (lSc xs (x3 + 1)))]) (rest := [(vi r1)]) hC hE hZ2 rfl (ctX9_end hZ2 h) (gCw_law (n := 1) wd_808 wd_49 (by decide) (by decide) (by decide +kernel)) rfl (lT wd_805) (lT wd_806) (lT wd_807) rfl (Nat.le_of_ble_eq_true rfl) rfl dL_law_230 (fun r2 N1 h => ?_)
  obtain ⟨hr1, hr2, h⟩ := h
  refine l_ceq hC 1120 hr1 (by rw [← hr2]; exact hr1) dL_law_233 (by decide) (fun _ => ?_) (fun hn => ?_)
  · exact hK M1 N1 h
  · exact absurd hr2 hn
def fL_case2 (xs : Nat → Int32) (x3 : Int) (M N : gMem) (K : gMem → gMem → Prop) : Prop :=
  fX8_edit (lSc xs (x3 + 1)) (lSc xs (x3 + 2)) (lSc xs (x3 + 3)) M (fun r1 M1 => fX9_edit (lSc xs (x3 + 1)) (lSc xs (x3 + 2)) (lSc xs (x3 + 3)) N (fun r2 N1 => rg r1 ∧ r1 = r2 ∧ K M1 N1))
set_option maxHeartbeats 4000000 in
set_option maxRecDepth 100000 in
theorem ctL_case2 {y : gY} {z1 z2 : gZ} {l : Launch} {A : Nat → Prop} {b Ln : Nat} {xs : Nat → Int32} {x3 : Int} {M N : gMem} {K : gMem → gMem → Prop} (hC : lC y l cL_law RL 4 lw_tbl room_1) (hE : lE y z1 z2 A b Ln xs) (hZ1 : gZc z1) (hZ2 : gZm z2) (hx : 0 ≤ x3 ∧ x3 + 8 ≤ Ln) (hK : ∀ M N, K M N → lW y A (lI z1 z2 A M N) 1120 [some (.ref b), some (vr z1 0), some (vr z2 0), some (vi x3)] []) (h : fL_case2 xs x3 M N K) : lW y A (lI z1 z2 A M N) 238 [some (.ref b), some (vr z1 0), some (vr z2 0), some (vi x3)] [] := by
  replace h : fX8_edit (lSc xs (x3 + 1)) (lSc xs (x3 + 2)) (lSc xs (x3 + 3)) M (fun r1 M1 => fX9_edit (lSc xs (x3 + 1)) (lSc xs (x3 + 2)) (lSc xs (x3 + 3)) N (fun r2 N1 => rg r1 ∧ r1 = r2 ∧ K M1 N1)) := h
  refine l_aload_n hC dL_law_238 rfl rfl ?_
  refine l_aload_n hC dL_law_239 rfl rfl ?_
  refine l_iload_n hC dL_law_240 rfl rfl ?_
  refine l_iconst hC dL_law_241 ?_
  refine l_iadd hC dL_law_242 ?_
  refine l_sld hC hE (by omega) dL_law_243 ?_
  refine l_aload_n hC dL_law_244 rfl rfl ?_
  refine l_iload_n hC dL_law_245 rfl rfl ?_
  refine l_iconst hC dL_law_246 ?_
  refine l_iadd hC dL_law_247 ?_
  refine l_sld hC hE (by omega) dL_law_248 ?_
  refine l_aload_n hC dL_law_249 rfl rfl ?_
  refine l_iload_n hC dL_law_250 rfl rfl ?_
  refine l_iconst hC dL_law_251 ?_
  refine l_iadd hC dL_law_252 ?_
  refine l_sld hC hE (by omega) dL_law_253 ?_
  refine l_call1 (As := [(vi (lSc xs (x3 + 1))), (vi (lSc xs (x3 + 2))), (vi (lSc xs (x3 + 3)))]) (rest := []) hC hE hZ1 rfl (ctX8_edit hZ1 h) (gCw_law (n := 3) wd_345 wd_39 (by decide) (by decide) (by decide +kernel)) rfl (lT wd_342) (lT wd_343) (lT wd_344) rfl (Nat.le_of_ble_eq_true rfl) rfl dL_law_254 (fun r1 M1 h => ?_)
  refine l_aload_n hC dL_law_257 rfl rfl ?_
  refine l_aload_n hC dL_law_258 rfl rfl ?_
  refine l_iload_n hC dL_law_259 rfl rfl ?_
  refine l_iconst hC dL_law_260 ?_
  refine l_iadd hC dL_law_261 ?_
  refine l_sld hC hE (by omega) dL_law_262 ?_
  refine l_aload_n hC dL_law_263 rfl rfl ?_
  refine l_iload_n hC dL_law_264 rfl rfl ?_
  refine l_iconst hC dL_law_265 ?_
  refine l_iadd hC dL_law_266 ?_
  refine l_sld hC hE (by omega) dL_law_267 ?_
  refine l_aload_n hC dL_law_268 rfl rfl ?_
  refine l_iload_n hC dL_law_269 rfl rfl ?_
  refine l_iconst hC dL_law_270 ?_
  refine l_iadd hC dL_law_271 ?_
  refine l_sld hC hE (by omega) dL_law_272 ?_
  refine l_call2 (As := [(vi (lSc xs (x3 + 1))), (vi (lSc xs (x3 + 2))), (vi (lSc xs (x3 + 3)))]) (rest := [(vi r1)]) hC hE hZ2 rfl (ctX9_edit hZ2 h) (gCw_law (n := 3) wd_812 wd_49 (by decide) (by decide) (by decide +kernel)) rfl (lT wd_809) (lT wd_810) (lT wd_811) rfl (Nat.le_of_ble_eq_true rfl) rfl dL_law_273 (fun r2 N1 h => ?_)
  obtain ⟨hr1, hr2, h⟩ := h
  refine l_ceq hC 1120 hr1 (by rw [← hr2]; exact hr1) dL_law_276 (by decide) (fun _ => ?_) (fun hn => ?_)
  · exact hK M1 N1 h
  · exact absurd hr2 hn
def fL_case3 (xs : Nat → Int32) (x3 : Int) (M N : gMem) (K : gMem → gMem → Prop) : Prop :=
  fX8_sow (lSc xs (x3 + 1)) (lSc xs (x3 + 2)) (lSc xs (x3 + 3)) (lSc xs (x3 + 4)) M (fun r1 M1 => fX9_sow (lSc xs (x3 + 1)) (lSc xs (x3 + 2)) (lSc xs (x3 + 3)) (lSc xs (x3 + 4)) N (fun r2 N1 => rg r1 ∧ r1 = r2 ∧ K M1 N1))
set_option maxHeartbeats 4000000 in
set_option maxRecDepth 100000 in
theorem ctL_case3 {y : gY} {z1 z2 : gZ} {l : Launch} {A : Nat → Prop} {b Ln : Nat} {xs : Nat → Int32} {x3 : Int} {M N : gMem} {K : gMem → gMem → Prop} (hC : lC y l cL_law RL 4 lw_tbl room_1) (hE : lE y z1 z2 A b Ln xs) (hZ1 : gZc z1) (hZ2 : gZm z2) (hx : 0 ≤ x3 ∧ x3 + 8 ≤ Ln) (hK : ∀ M N, K M N → lW y A (lI z1 z2 A M N) 1120 [some (.ref b), some (vr z1 0), some (vr z2 0), some (vi x3)] []) (h : fL_case3 xs x3 M N K) : lW y A (lI z1 z2 A M N) 281 [some (.ref b), some (vr z1 0), some (vr z2 0), some (vi x3)] [] := by
  replace h : fX8_sow (lSc xs (x3 + 1)) (lSc xs (x3 + 2)) (lSc xs (x3 + 3)) (lSc xs (x3 + 4)) M (fun r1 M1 => fX9_sow (lSc xs (x3 + 1)) (lSc xs (x3 + 2)) (lSc xs (x3 + 3)) (lSc xs (x3 + 4)) N (fun r2 N1 => rg r1 ∧ r1 = r2 ∧ K M1 N1)) := h
  refine l_aload_n hC dL_law_281 rfl rfl ?_
  refine l_aload_n hC dL_law_282 rfl rfl ?_
  refine l_iload_n hC dL_law_283 rfl rfl ?_
  refine l_iconst hC dL_law_284 ?_
  refine l_iadd hC dL_law_285 ?_
  refine l_sld hC hE (by omega) dL_law_286 ?_
  refine l_aload_n hC dL_law_287 rfl rfl ?_
  refine l_iload_n hC dL_law_288 rfl rfl ?_
  refine l_iconst hC dL_law_289 ?_
  refine l_iadd hC dL_law_290 ?_
  refine l_sld hC hE (by omega) dL_law_291 ?_
  refine l_aload_n hC dL_law_292 rfl rfl ?_
  refine l_iload_n hC dL_law_293 rfl rfl ?_
  refine l_iconst hC dL_law_294 ?_
  refine l_iadd hC dL_law_295 ?_
  refine l_sld hC hE (by omega) dL_law_296 ?_
  refine l_aload_n hC dL_law_297 rfl rfl ?_
  refine l_iload_n hC dL_law_298 rfl rfl ?_
  refine l_iconst hC dL_law_299 ?_
  refine l_iadd hC dL_law_300 ?_
  refine l_sld hC hE (by omega) dL_law_301 ?_
  refine l_call1 (As := [(vi (lSc xs (x3 + 1))), (vi (lSc xs (x3 + 2))), (vi (lSc xs (x3 + 3))), (vi (lSc xs (x3 + 4)))]) (rest := []) hC hE hZ1 rfl (ctX8_sow hZ1 h) (gCw_law (n := 4) wd_366 wd_39 (by decide) (by decide) (by decide +kernel)) rfl (lT wd_363) (lT wd_364) (lT wd_365) rfl (Nat.le_of_ble_eq_true rfl) rfl dL_law_302 (fun r1 M1 h => ?_)
  refine l_aload_n hC dL_law_305 rfl rfl ?_
  refine l_aload_n hC dL_law_306 rfl rfl ?_
  refine l_iload_n hC dL_law_307 rfl rfl ?_
  refine l_iconst hC dL_law_308 ?_
  refine l_iadd hC dL_law_309 ?_
  refine l_sld hC hE (by omega) dL_law_310 ?_
  refine l_aload_n hC dL_law_311 rfl rfl ?_
  refine l_iload_n hC dL_law_312 rfl rfl ?_
  refine l_iconst hC dL_law_313 ?_
  refine l_iadd hC dL_law_314 ?_
  refine l_sld hC hE (by omega) dL_law_315 ?_
  refine l_aload_n hC dL_law_316 rfl rfl ?_
  refine l_iload_n hC dL_law_317 rfl rfl ?_
  refine l_iconst hC dL_law_318 ?_
  refine l_iadd hC dL_law_319 ?_
  refine l_sld hC hE (by omega) dL_law_320 ?_
  refine l_aload_n hC dL_law_321 rfl rfl ?_
  refine l_iload_n hC dL_law_322 rfl rfl ?_
  refine l_iconst hC dL_law_323 ?_
  refine l_iadd hC dL_law_324 ?_
  refine l_sld hC hE (by omega) dL_law_325 ?_
  refine l_call2 (As := [(vi (lSc xs (x3 + 1))), (vi (lSc xs (x3 + 2))), (vi (lSc xs (x3 + 3))), (vi (lSc xs (x3 + 4)))]) (rest := [(vi r1)]) hC hE hZ2 rfl (ctX9_sow hZ2 h) (gCw_law (n := 4) wd_819 wd_49 (by decide) (by decide) (by decide +kernel)) rfl (lT wd_816) (lT wd_817) (lT wd_818) rfl (Nat.le_of_ble_eq_true rfl) rfl dL_law_326 (fun r2 N1 h => ?_)
  obtain ⟨hr1, hr2, h⟩ := h
  refine l_ceq hC 1120 hr1 (by rw [← hr2]; exact hr1) dL_law_329 (by decide) (fun _ => ?_) (fun hn => ?_)
  · exact hK M1 N1 h
  · exact absurd hr2 hn
def fL_case4 (xs : Nat → Int32) (x3 : Int) (M N : gMem) (K : gMem → gMem → Prop) : Prop :=
  fX8_copy (lSc xs (x3 + 1)) (lSc xs (x3 + 2)) M (fun r1 M1 => fX9_copy (lSc xs (x3 + 1)) (lSc xs (x3 + 2)) N (fun r2 N1 => rg r1 ∧ r1 = r2 ∧ K M1 N1))
set_option maxHeartbeats 4000000 in
set_option maxRecDepth 100000 in
theorem ctL_case4 {y : gY} {z1 z2 : gZ} {l : Launch} {A : Nat → Prop} {b Ln : Nat} {xs : Nat → Int32} {x3 : Int} {M N : gMem} {K : gMem → gMem → Prop} (hC : lC y l cL_law RL 4 lw_tbl room_1) (hE : lE y z1 z2 A b Ln xs) (hZ1 : gZc z1) (hZ2 : gZm z2) (hx : 0 ≤ x3 ∧ x3 + 8 ≤ Ln) (hK : ∀ M N, K M N → lW y A (lI z1 z2 A M N) 1120 [some (.ref b), some (vr z1 0), some (vr z2 0), some (vi x3)] []) (h : fL_case4 xs x3 M N K) : lW y A (lI z1 z2 A M N) 334 [some (.ref b), some (vr z1 0), some (vr z2 0), some (vi x3)] [] := by
  replace h : fX8_copy (lSc xs (x3 + 1)) (lSc xs (x3 + 2)) M (fun r1 M1 => fX9_copy (lSc xs (x3 + 1)) (lSc xs (x3 + 2)) N (fun r2 N1 => rg r1 ∧ r1 = r2 ∧ K M1 N1)) := h
  refine l_aload_n hC dL_law_334 rfl rfl ?_
  refine l_aload_n hC dL_law_335 rfl rfl ?_
  refine l_iload_n hC dL_law_336 rfl rfl ?_
  refine l_iconst hC dL_law_337 ?_
  refine l_iadd hC dL_law_338 ?_
  refine l_sld hC hE (by omega) dL_law_339 ?_
  refine l_aload_n hC dL_law_340 rfl rfl ?_
  refine l_iload_n hC dL_law_341 rfl rfl ?_
  refine l_iconst hC dL_law_342 ?_
  refine l_iadd hC dL_law_343 ?_
  refine l_sld hC hE (by omega) dL_law_344 ?_
  refine l_call1 (As := [(vi (lSc xs (x3 + 1))), (vi (lSc xs (x3 + 2)))]) (rest := []) hC hE hZ1 rfl (ctX8_copy hZ1 h) (gCw_law (n := 2) wd_375 wd_39 (by decide) (by decide) (by decide +kernel)) rfl (lT wd_372) (lT wd_373) (lT wd_374) rfl (Nat.le_of_ble_eq_true rfl) rfl dL_law_345 (fun r1 M1 h => ?_)
  refine l_aload_n hC dL_law_348 rfl rfl ?_
  refine l_aload_n hC dL_law_349 rfl rfl ?_
  refine l_iload_n hC dL_law_350 rfl rfl ?_
  refine l_iconst hC dL_law_351 ?_
  refine l_iadd hC dL_law_352 ?_
  refine l_sld hC hE (by omega) dL_law_353 ?_
  refine l_aload_n hC dL_law_354 rfl rfl ?_
  refine l_iload_n hC dL_law_355 rfl rfl ?_
  refine l_iconst hC dL_law_356 ?_
  refine l_iadd hC dL_law_357 ?_
  refine l_sld hC hE (by omega) dL_law_358 ?_
  refine l_call2 (As := [(vi (lSc xs (x3 + 1))), (vi (lSc xs (x3 + 2)))]) (rest := [(vi r1)]) hC hE hZ2 rfl (ctX9_copy hZ2 h) (gCw_law (n := 2) wd_827 wd_49 (by decide) (by decide) (by decide +kernel)) rfl (lT wd_824) (lT wd_825) (lT wd_826) rfl (Nat.le_of_ble_eq_true rfl) rfl dL_law_359 (fun r2 N1 h => ?_)
  obtain ⟨hr1, hr2, h⟩ := h
  refine l_ceq hC 1120 hr1 (by rw [← hr2]; exact hr1) dL_law_362 (by decide) (fun _ => ?_) (fun hn => ?_)
  · exact hK M1 N1 h
  · exact absurd hr2 hn
def fL_case5 (xs : Nat → Int32) (x3 : Int) (M N : gMem) (K : gMem → gMem → Prop) : Prop :=
  fX8_at (lSc xs (x3 + 1)) (lSc xs (x3 + 2)) M (fun r1 => fX9_at (lSc xs (x3 + 1)) (lSc xs (x3 + 2)) N (fun r2 => rg r1 ∧ r1 = r2 ∧ K M N))
set_option maxHeartbeats 4000000 in
set_option maxRecDepth 100000 in
theorem ctL_case5 {y : gY} {z1 z2 : gZ} {l : Launch} {A : Nat → Prop} {b Ln : Nat} {xs : Nat → Int32} {x3 : Int} {M N : gMem} {K : gMem → gMem → Prop} (hC : lC y l cL_law RL 4 lw_tbl room_1) (hE : lE y z1 z2 A b Ln xs) (hZ1 : gZc z1) (hZ2 : gZm z2) (hx : 0 ≤ x3 ∧ x3 + 8 ≤ Ln) (hK : ∀ M N, K M N → lW y A (lI z1 z2 A M N) 1120 [some (.ref b), some (vr z1 0), some (vr z2 0), some (vi x3)] []) (h : fL_case5 xs x3 M N K) : lW y A (lI z1 z2 A M N) 367 [some (.ref b), some (vr z1 0), some (vr z2 0), some (vi x3)] [] := by
  replace h : fX8_at (lSc xs (x3 + 1)) (lSc xs (x3 + 2)) M (fun r1 => fX9_at (lSc xs (x3 + 1)) (lSc xs (x3 + 2)) N (fun r2 => rg r1 ∧ r1 = r2 ∧ K M N)) := h
  refine l_aload_n hC dL_law_367 rfl rfl ?_
  refine l_aload_n hC dL_law_368 rfl rfl ?_
  refine l_iload_n hC dL_law_369 rfl rfl ?_
  refine l_iconst hC dL_law_370 ?_
  refine l_iadd hC dL_law_371 ?_
  refine l_sld hC hE (by omega) dL_law_372 ?_
  refine l_aload_n hC dL_law_373 rfl rfl ?_
  refine l_iload_n hC dL_law_374 rfl rfl ?_
  refine l_iconst hC dL_law_375 ?_
  refine l_iadd hC dL_law_376 ?_
  refine l_sld hC hE (by omega) dL_law_377 ?_
  refine l_call1 (As := [(vi (lSc xs (x3 + 1))), (vi (lSc xs (x3 + 2)))]) (rest := []) hC hE hZ1 rfl (ctX8_at hZ1 h) (gCw_law (n := 2) wd_383 wd_39 (by decide) (by decide) (by decide +kernel)) rfl (lT wd_380) (lT wd_381) (lT wd_382) rfl (Nat.le_of_ble_eq_true rfl) rfl dL_law_378 (fun r1 M1 h => ?_)
  obtain ⟨rfl, h⟩ := h
  refine l_aload_n hC dL_law_381 rfl rfl ?_
  refine l_aload_n hC dL_law_382 rfl rfl ?_
  refine l_iload_n hC dL_law_383 rfl rfl ?_
  refine l_iconst hC dL_law_384 ?_
  refine l_iadd hC dL_law_385 ?_
  refine l_sld hC hE (by omega) dL_law_386 ?_
  refine l_aload_n hC dL_law_387 rfl rfl ?_
  refine l_iload_n hC dL_law_388 rfl rfl ?_
  refine l_iconst hC dL_law_389 ?_
  refine l_iadd hC dL_law_390 ?_
  refine l_sld hC hE (by omega) dL_law_391 ?_
  refine l_call2 (As := [(vi (lSc xs (x3 + 1))), (vi (lSc xs (x3 + 2)))]) (rest := [(vi r1)]) hC hE hZ2 rfl (ctX9_at hZ2 h) (gCw_law (n := 2) wd_831 wd_49 (by decide) (by decide) (by decide +kernel)) rfl (lT wd_828) (lT wd_829) (lT wd_830) rfl (Nat.le_of_ble_eq_true rfl) rfl dL_law_392 (fun r2 N1 h => ?_)
  obtain ⟨rfl, h⟩ := h
  obtain ⟨hr1, hr2, h⟩ := h
  refine l_ceq hC 1120 hr1 (by rw [← hr2]; exact hr1) dL_law_395 (by decide) (fun _ => ?_) (fun hn => ?_)
  · exact hK M N h
  · exact absurd hr2 hn
def fL_case6 (xs : Nat → Int32) (x3 : Int) (M N : gMem) (K : gMem → gMem → Prop) : Prop :=
  fX8_fixed (lSc xs (x3 + 1)) (lSc xs (x3 + 2)) M (fun r1 M1 => fX9_fixed (lSc xs (x3 + 1)) (lSc xs (x3 + 2)) N (fun r2 N1 => rg r1 ∧ r1 = r2 ∧ K M1 N1))
set_option maxHeartbeats 4000000 in
set_option maxRecDepth 100000 in
theorem ctL_case6 {y : gY} {z1 z2 : gZ} {l : Launch} {A : Nat → Prop} {b Ln : Nat} {xs : Nat → Int32} {x3 : Int} {M N : gMem} {K : gMem → gMem → Prop} (hC : lC y l cL_law RL 4 lw_tbl room_1) (hE : lE y z1 z2 A b Ln xs) (hZ1 : gZc z1) (hZ2 : gZm z2) (hx : 0 ≤ x3 ∧ x3 + 8 ≤ Ln) (hK : ∀ M N, K M N → lW y A (lI z1 z2 A M N) 1120 [some (.ref b), some (vr z1 0), some (vr z2 0), some (vi x3)] []) (h : fL_case6 xs x3 M N K) : lW y A (lI z1 z2 A M N) 400 [some (.ref b), some (vr z1 0), some (vr z2 0), some (vi x3)] [] := by
  replace h : fX8_fixed (lSc xs (x3 + 1)) (lSc xs (x3 + 2)) M (fun r1 M1 => fX9_fixed (lSc xs (x3 + 1)) (lSc xs (x3 + 2)) N (fun r2 N1 => rg r1 ∧ r1 = r2 ∧ K M1 N1)) := h
  refine l_aload_n hC dL_law_400 rfl rfl ?_
  refine l_aload_n hC dL_law_401 rfl rfl ?_
  refine l_iload_n hC dL_law_402 rfl rfl ?_
  refine l_iconst hC dL_law_403 ?_
  refine l_iadd hC dL_law_404 ?_
  refine l_sld hC hE (by omega) dL_law_405 ?_
  refine l_aload_n hC dL_law_406 rfl rfl ?_
  refine l_iload_n hC dL_law_407 rfl rfl ?_
  refine l_iconst hC dL_law_408 ?_
  refine l_iadd hC dL_law_409 ?_
  refine l_sld hC hE (by omega) dL_law_410 ?_
  refine l_call1 (As := [(vi (lSc xs (x3 + 1))), (vi (lSc xs (x3 + 2)))]) (rest := []) hC hE hZ1 rfl (ctX8_fixed hZ1 h) (gCw_law (n := 2) wd_395 wd_39 (by decide) (by decide) (by decide +kernel)) rfl (lT wd_392) (lT wd_393) (lT wd_394) rfl (Nat.le_of_ble_eq_true rfl) rfl dL_law_411 (fun r1 M1 h => ?_)
  refine l_aload_n hC dL_law_414 rfl rfl ?_
  refine l_aload_n hC dL_law_415 rfl rfl ?_
  refine l_iload_n hC dL_law_416 rfl rfl ?_
  refine l_iconst hC dL_law_417 ?_
  refine l_iadd hC dL_law_418 ?_
  refine l_sld hC hE (by omega) dL_law_419 ?_
  refine l_aload_n hC dL_law_420 rfl rfl ?_
  refine l_iload_n hC dL_law_421 rfl rfl ?_
  refine l_iconst hC dL_law_422 ?_
  refine l_iadd hC dL_law_423 ?_
  refine l_sld hC hE (by omega) dL_law_424 ?_
  refine l_call2 (As := [(vi (lSc xs (x3 + 1))), (vi (lSc xs (x3 + 2)))]) (rest := [(vi r1)]) hC hE hZ2 rfl (ctX9_fixed hZ2 h) (gCw_law (n := 2) wd_835 wd_49 (by decide) (by decide) (by decide +kernel)) rfl (lT wd_832) (lT wd_833) (lT wd_834) rfl (Nat.le_of_ble_eq_true rfl) rfl dL_law_425 (fun r2 N1 h => ?_)
  obtain ⟨hr1, hr2, h⟩ := h
  refine l_ceq hC 1120 hr1 (by rw [← hr2]; exact hr1) dL_law_428 (by decide) (fun _ => ?_) (fun hn => ?_)
  · exact hK M1 N1 h
  · exact absurd hr2 hn
def fL_case7 (xs : Nat → Int32) (x3 : Int) (M N : gMem) (K : gMem → gMem → Prop) : Prop :=
  fX8_rolling (lSc xs (x3 + 1)) (bz (lSc xs (x3 + 2))) (lSc xs (x3 + 3)) (lSc xs (x3 + 4)) (lSc xs (x3 + 5)) (lSc xs (x3 + 6)) (lSc xs (x3 + 7)) M (fun r1 M1 => fX9_rolling (lSc xs (x3 + 1)) (bz (lSc xs (x3 + 2))) (lSc xs (x3 + 3)) (lSc xs (x3 + 4)) (lSc xs (x3 + 5)) (lSc xs (x3 + 6)) (lSc xs (x3 + 7)) N (fun r2 N1 => rg r1 ∧ r1 = r2 ∧ K M1 N1))
set_option maxHeartbeats 4000000 in
set_option maxRecDepth 100000 in
theorem ctL_case7 {y : gY} {z1 z2 : gZ} {l : Launch} {A : Nat → Prop} {b Ln : Nat} {xs : Nat → Int32} {x3 : Int} {M N : gMem} {K : gMem → gMem → Prop} (hC : lC y l cL_law RL 4 lw_tbl room_1) (hE : lE y z1 z2 A b Ln xs) (hZ1 : gZc z1) (hZ2 : gZm z2) (hx : 0 ≤ x3 ∧ x3 + 8 ≤ Ln) (hK : ∀ M N, K M N → lW y A (lI z1 z2 A M N) 1120 [some (.ref b), some (vr z1 0), some (vr z2 0), some (vi x3)] []) (h : fL_case7 xs x3 M N K) : lW y A (lI z1 z2 A M N) 433 [some (.ref b), some (vr z1 0), some (vr z2 0), some (vi x3)] [] := by
  replace h : fX8_rolling (lSc xs (x3 + 1)) (bz (lSc xs (x3 + 2))) (lSc xs (x3 + 3)) (lSc xs (x3 + 4)) (lSc xs (x3 + 5)) (lSc xs (x3 + 6)) (lSc xs (x3 + 7)) M (fun r1 M1 => fX9_rolling (lSc xs (x3 + 1)) (bz (lSc xs (x3 + 2))) (lSc xs (x3 + 3)) (lSc xs (x3 + 4)) (lSc xs (x3 + 5)) (lSc xs (x3 + 6)) (lSc xs (x3 + 7)) N (fun r2 N1 => rg r1 ∧ r1 = r2 ∧ K M1 N1)) := h
  refine l_aload_n hC dL_law_433 rfl rfl ?_
  refine l_aload_n hC dL_law_434 rfl rfl ?_
  refine l_iload_n hC dL_law_435 rfl rfl ?_
  refine l_iconst hC dL_law_436 ?_
  refine l_iadd hC dL_law_437 ?_
  refine l_sld hC hE (by omega) dL_law_438 ?_
  refine l_aload_n hC dL_law_439 rfl rfl ?_
  refine l_iload_n hC dL_law_440 rfl rfl ?_
  refine l_iconst hC dL_law_441 ?_
  refine l_iadd hC dL_law_442 ?_
  refine l_sld hC hE (by omega) dL_law_443 ?_
  refine l_ieq hC 451 (lSc_rg _ _) dL_law_444 (by decide) (fun hc444 => ?_) (fun hc444 => ?_)
  · rw [show bz (lSc xs (x3 + 2)) = 0 from if_pos hc444] at h
    refine l_iconst hC dL_law_451 ?_
    refine l_aload_n hC dL_law_452 rfl rfl ?_
    refine l_iload_n hC dL_law_453 rfl rfl ?_
    refine l_iconst hC dL_law_454 ?_
    refine l_iadd hC dL_law_455 ?_
    refine l_sld hC hE (by omega) dL_law_456 ?_
    refine l_aload_n hC dL_law_457 rfl rfl ?_
    refine l_iload_n hC dL_law_458 rfl rfl ?_
    refine l_iconst hC dL_law_459 ?_
    refine l_iadd hC dL_law_460 ?_
    refine l_sld hC hE (by omega) dL_law_461 ?_
    refine l_aload_n hC dL_law_462 rfl rfl ?_
    refine l_iload_n hC dL_law_463 rfl rfl ?_
    refine l_iconst hC dL_law_464 ?_
    refine l_iadd hC dL_law_465 ?_
    refine l_sld hC hE (by omega) dL_law_466 ?_
    refine l_aload_n hC dL_law_467 rfl rfl ?_
    refine l_iload_n hC dL_law_468 rfl rfl ?_
    refine l_bipush hC dL_law_469 (by decide) ?_
    refine l_iadd hC dL_law_471 ?_
    refine l_sld hC hE (by omega) dL_law_472 ?_
    refine l_aload_n hC dL_law_473 rfl rfl ?_
    refine l_iload_n hC dL_law_474 rfl rfl ?_
    refine l_bipush hC dL_law_475 (by decide) ?_
    refine l_iadd hC dL_law_477 ?_
    refine l_sld hC hE (by omega) dL_law_478 ?_
    refine l_call1 (As := [(vi (lSc xs (x3 + 1))), (vi 0), (vi (lSc xs (x3 + 3))), (vi (lSc xs (x3 + 4))), (vi (lSc xs (x3 + 5))), (vi (lSc xs (x3 + 6))), (vi (lSc xs (x3 + 7)))]) (rest := []) hC hE hZ1 rfl (ctX8_rolling hZ1 h) (gCw_law (n := 7) wd_406 wd_39 (by decide) (by decide) (by decide +kernel)) rfl (lT wd_403) (lT wd_404) (lT wd_405) rfl (Nat.le_of_ble_eq_true rfl) rfl dL_law_479 (fun r1 M1 h => ?_)
    refine l_aload_n hC dL_law_482 rfl rfl ?_
    refine l_aload_n hC dL_law_483 rfl rfl ?_
    refine l_iload_n hC dL_law_484 rfl rfl ?_
    refine l_iconst hC dL_law_485 ?_
    refine l_iadd hC dL_law_486 ?_
    refine l_sld hC hE (by omega) dL_law_487 ?_
    refine l_aload_n hC dL_law_488 rfl rfl ?_
    refine l_iload_n hC dL_law_489 rfl rfl ?_
    refine l_iconst hC dL_law_490 ?_
    refine l_iadd hC dL_law_491 ?_
    refine l_sld hC hE (by omega) dL_law_492 ?_
    refine l_ieq hC 500 (lSc_rg _ _) dL_law_493 (by decide) (fun hc493 => ?_) (fun hc493 => ?_)
    · clear hc493
      refine l_iconst hC dL_law_500 ?_
      refine l_aload_n hC dL_law_501 rfl rfl ?_
      refine l_iload_n hC dL_law_502 rfl rfl ?_
      refine l_iconst hC dL_law_503 ?_
      refine l_iadd hC dL_law_504 ?_
      refine l_sld hC hE (by omega) dL_law_505 ?_
      refine l_aload_n hC dL_law_506 rfl rfl ?_
      refine l_iload_n hC dL_law_507 rfl rfl ?_
      refine l_iconst hC dL_law_508 ?_
      refine l_iadd hC dL_law_509 ?_
      refine l_sld hC hE (by omega) dL_law_510 ?_
      refine l_aload_n hC dL_law_511 rfl rfl ?_
      refine l_iload_n hC dL_law_512 rfl rfl ?_
      refine l_iconst hC dL_law_513 ?_
      refine l_iadd hC dL_law_514 ?_
      refine l_sld hC hE (by omega) dL_law_515 ?_
      refine l_aload_n hC dL_law_516 rfl rfl ?_
      refine l_iload_n hC dL_law_517 rfl rfl ?_
      refine l_bipush hC dL_law_518 (by decide) ?_
      refine l_iadd hC dL_law_520 ?_
      refine l_sld hC hE (by omega) dL_law_521 ?_
      refine l_aload_n hC dL_law_522 rfl rfl ?_
      refine l_iload_n hC dL_law_523 rfl rfl ?_
      refine l_bipush hC dL_law_524 (by decide) ?_
      refine l_iadd hC dL_law_526 ?_
      refine l_sld hC hE (by omega) dL_law_527 ?_
      refine l_call2 (As := [(vi (lSc xs (x3 + 1))), (vi 0), (vi (lSc xs (x3 + 3))), (vi (lSc xs (x3 + 4))), (vi (lSc xs (x3 + 5))), (vi (lSc xs (x3 + 6))), (vi (lSc xs (x3 + 7)))]) (rest := [(vi r1)]) hC hE hZ2 rfl (ctX9_rolling hZ2 h) (gCw_law (n := 7) wd_843 wd_49 (by decide) (by decide) (by decide +kernel)) rfl (lT wd_840) (lT wd_841) (lT wd_842) rfl (Nat.le_of_ble_eq_true rfl) rfl dL_law_528 (fun r2 N1 h => ?_)
      obtain ⟨hr1, hr2, h⟩ := h
      refine l_ceq hC 1120 hr1 (by rw [← hr2]; exact hr1) dL_law_531 (by decide) (fun _ => ?_) (fun hn => ?_)
      · exact hK M1 N1 h
      · exact absurd hr2 hn
    · exact absurd hc444 hc493
  · rw [show bz (lSc xs (x3 + 2)) = 1 from if_neg hc444] at h
    refine l_iconst hC dL_law_447 ?_
    refine l_goto hC 452 dL_law_448 (by decide) ?_
    refine l_aload_n hC dL_law_452 rfl rfl ?_
    refine l_iload_n hC dL_law_453 rfl rfl ?_
    refine l_iconst hC dL_law_454 ?_
    refine l_iadd hC dL_law_455 ?_
    refine l_sld hC hE (by omega) dL_law_456 ?_
    refine l_aload_n hC dL_law_457 rfl rfl ?_
    refine l_iload_n hC dL_law_458 rfl rfl ?_
    refine l_iconst hC dL_law_459 ?_
    refine l_iadd hC dL_law_460 ?_
    refine l_sld hC hE (by omega) dL_law_461 ?_
    refine l_aload_n hC dL_law_462 rfl rfl ?_
    refine l_iload_n hC dL_law_463 rfl rfl ?_
    refine l_iconst hC dL_law_464 ?_
    refine l_iadd hC dL_law_465 ?_
    refine l_sld hC hE (by omega) dL_law_466 ?_
    refine l_aload_n hC dL_law_467 rfl rfl ?_
    refine l_iload_n hC dL_law_468 rfl rfl ?_
    refine l_bipush hC dL_law_469 (by decide) ?_
    refine l_iadd hC dL_law_471 ?_
    refine l_sld hC hE (by omega) dL_law_472 ?_
    refine l_aload_n hC dL_law_473 rfl rfl ?_
    refine l_iload_n hC dL_law_474 rfl rfl ?_
    refine l_bipush hC dL_law_475 (by decide) ?_
    refine l_iadd hC dL_law_477 ?_
    refine l_sld hC hE (by omega) dL_law_478 ?_
    refine l_call1 (As := [(vi (lSc xs (x3 + 1))), (vi 1), (vi (lSc xs (x3 + 3))), (vi (lSc xs (x3 + 4))), (vi (lSc xs (x3 + 5))), (vi (lSc xs (x3 + 6))), (vi (lSc xs (x3 + 7)))]) (rest := []) hC hE hZ1 rfl (ctX8_rolling hZ1 h) (gCw_law (n := 7) wd_406 wd_39 (by decide) (by decide) (by decide +kernel)) rfl (lT wd_403) (lT wd_404) (lT wd_405) rfl (Nat.le_of_ble_eq_true rfl) rfl dL_law_479 (fun r1 M1 h => ?_)
    refine l_aload_n hC dL_law_482 rfl rfl ?_
    refine l_aload_n hC dL_law_483 rfl rfl ?_
    refine l_iload_n hC dL_law_484 rfl rfl ?_
    refine l_iconst hC dL_law_485 ?_
    refine l_iadd hC dL_law_486 ?_
    refine l_sld hC hE (by omega) dL_law_487 ?_
    refine l_aload_n hC dL_law_488 rfl rfl ?_
    refine l_iload_n hC dL_law_489 rfl rfl ?_
    refine l_iconst hC dL_law_490 ?_
    refine l_iadd hC dL_law_491 ?_
    refine l_sld hC hE (by omega) dL_law_492 ?_
    refine l_ieq hC 500 (lSc_rg _ _) dL_law_493 (by decide) (fun hc493 => ?_) (fun hc493 => ?_)
    · exact absurd hc493 hc444
    · clear hc493
      refine l_iconst hC dL_law_496 ?_
      refine l_goto hC 501 dL_law_497 (by decide) ?_
      refine l_aload_n hC dL_law_501 rfl rfl ?_
      refine l_iload_n hC dL_law_502 rfl rfl ?_
      refine l_iconst hC dL_law_503 ?_
      refine l_iadd hC dL_law_504 ?_
      refine l_sld hC hE (by omega) dL_law_505 ?_
      refine l_aload_n hC dL_law_506 rfl rfl ?_
      refine l_iload_n hC dL_law_507 rfl rfl ?_
      refine l_iconst hC dL_law_508 ?_
      refine l_iadd hC dL_law_509 ?_
      refine l_sld hC hE (by omega) dL_law_510 ?_
      refine l_aload_n hC dL_law_511 rfl rfl ?_
      refine l_iload_n hC dL_law_512 rfl rfl ?_
      refine l_iconst hC dL_law_513 ?_
      refine l_iadd hC dL_law_514 ?_
      refine l_sld hC hE (by omega) dL_law_515 ?_
      refine l_aload_n hC dL_law_516 rfl rfl ?_
      refine l_iload_n hC dL_law_517 rfl rfl ?_
      refine l_bipush hC dL_law_518 (by decide) ?_
      refine l_iadd hC dL_law_520 ?_
      refine l_sld hC hE (by omega) dL_law_521 ?_
      refine l_aload_n hC dL_law_522 rfl rfl ?_
      refine l_iload_n hC dL_law_523 rfl rfl ?_
      refine l_bipush hC dL_law_524 (by decide) ?_
      refine l_iadd hC dL_law_526 ?_
      refine l_sld hC hE (by omega) dL_law_527 ?_
      refine l_call2 (As := [(vi (lSc xs (x3 + 1))), (vi 1), (vi (lSc xs (x3 + 3))), (vi (lSc xs (x3 + 4))), (vi (lSc xs (x3 + 5))), (vi (lSc xs (x3 + 6))), (vi (lSc xs (x3 + 7)))]) (rest := [(vi r1)]) hC hE hZ2 rfl (ctX9_rolling hZ2 h) (gCw_law (n := 7) wd_843 wd_49 (by decide) (by decide) (by decide +kernel)) rfl (lT wd_840) (lT wd_841) (lT wd_842) rfl (Nat.le_of_ble_eq_true rfl) rfl dL_law_528 (fun r2 N1 h => ?_)
      obtain ⟨hr1, hr2, h⟩ := h
      refine l_ceq hC 1120 hr1 (by rw [← hr2]; exact hr1) dL_law_531 (by decide) (fun _ => ?_) (fun hn => ?_)
      · exact hK M1 N1 h
      · exact absurd hr2 hn
def fL_case8 (xs : Nat → Int32) (x3 : Int) (M N : gMem) (K : gMem → gMem → Prop) : Prop :=
  fX8_told (lSc xs (x3 + 1)) (lSc xs (x3 + 2)) (lSc xs (x3 + 3)) (lSc xs (x3 + 4)) M (fun r1 M1 => fX9_told (lSc xs (x3 + 1)) (lSc xs (x3 + 2)) (lSc xs (x3 + 3)) (lSc xs (x3 + 4)) N (fun r2 N1 => rg r1 ∧ r1 = r2 ∧ K M1 N1))
set_option maxHeartbeats 4000000 in
set_option maxRecDepth 100000 in
theorem ctL_case8 {y : gY} {z1 z2 : gZ} {l : Launch} {A : Nat → Prop} {b Ln : Nat} {xs : Nat → Int32} {x3 : Int} {M N : gMem} {K : gMem → gMem → Prop} (hC : lC y l cL_law RL 4 lw_tbl room_1) (hE : lE y z1 z2 A b Ln xs) (hZ1 : gZc z1) (hZ2 : gZm z2) (hx : 0 ≤ x3 ∧ x3 + 8 ≤ Ln) (hK : ∀ M N, K M N → lW y A (lI z1 z2 A M N) 1120 [some (.ref b), some (vr z1 0), some (vr z2 0), some (vi x3)] []) (h : fL_case8 xs x3 M N K) : lW y A (lI z1 z2 A M N) 536 [some (.ref b), some (vr z1 0), some (vr z2 0), some (vi x3)] [] := by
  replace h : fX8_told (lSc xs (x3 + 1)) (lSc xs (x3 + 2)) (lSc xs (x3 + 3)) (lSc xs (x3 + 4)) M (fun r1 M1 => fX9_told (lSc xs (x3 + 1)) (lSc xs (x3 + 2)) (lSc xs (x3 + 3)) (lSc xs (x3 + 4)) N (fun r2 N1 => rg r1 ∧ r1 = r2 ∧ K M1 N1)) := h
  refine l_aload_n hC dL_law_536 rfl rfl ?_
  refine l_aload_n hC dL_law_537 rfl rfl ?_
  refine l_iload_n hC dL_law_538 rfl rfl ?_
  refine l_iconst hC dL_law_539 ?_
  refine l_iadd hC dL_law_540 ?_
  refine l_sld hC hE (by omega) dL_law_541 ?_
  refine l_aload_n hC dL_law_542 rfl rfl ?_
  refine l_iload_n hC dL_law_543 rfl rfl ?_
  refine l_iconst hC dL_law_544 ?_
  refine l_iadd hC dL_law_545 ?_
  refine l_sld hC hE (by omega) dL_law_546 ?_
  refine l_aload_n hC dL_law_547 rfl rfl ?_
  refine l_iload_n hC dL_law_548 rfl rfl ?_
  refine l_iconst hC dL_law_549 ?_
  refine l_iadd hC dL_law_550 ?_
  refine l_sld hC hE (by omega) dL_law_551 ?_
  refine l_aload_n hC dL_law_552 rfl rfl ?_
  refine l_iload_n hC dL_law_553 rfl rfl ?_
  refine l_iconst hC dL_law_554 ?_
  refine l_iadd hC dL_law_555 ?_
  refine l_sld hC hE (by omega) dL_law_556 ?_
  refine l_call1 (As := [(vi (lSc xs (x3 + 1))), (vi (lSc xs (x3 + 2))), (vi (lSc xs (x3 + 3))), (vi (lSc xs (x3 + 4)))]) (rest := []) hC hE hZ1 rfl (ctX8_told hZ1 h) (gCw_law (n := 4) wd_417 wd_39 (by decide) (by decide) (by decide +kernel)) rfl (lT wd_414) (lT wd_415) (lT wd_416) rfl (Nat.le_of_ble_eq_true rfl) rfl dL_law_557 (fun r1 M1 h => ?_)
  refine l_aload_n hC dL_law_560 rfl rfl ?_
  refine l_aload_n hC dL_law_561 rfl rfl ?_
  refine l_iload_n hC dL_law_562 rfl rfl ?_
  refine l_iconst hC dL_law_563 ?_
  refine l_iadd hC dL_law_564 ?_
  refine l_sld hC hE (by omega) dL_law_565 ?_
  refine l_aload_n hC dL_law_566 rfl rfl ?_
  refine l_iload_n hC dL_law_567 rfl rfl ?_
  refine l_iconst hC dL_law_568 ?_
  refine l_iadd hC dL_law_569 ?_
  refine l_sld hC hE (by omega) dL_law_570 ?_
  refine l_aload_n hC dL_law_571 rfl rfl ?_
  refine l_iload_n hC dL_law_572 rfl rfl ?_
  refine l_iconst hC dL_law_573 ?_
  refine l_iadd hC dL_law_574 ?_
  refine l_sld hC hE (by omega) dL_law_575 ?_
  refine l_aload_n hC dL_law_576 rfl rfl ?_
  refine l_iload_n hC dL_law_577 rfl rfl ?_
  refine l_iconst hC dL_law_578 ?_
  refine l_iadd hC dL_law_579 ?_
  refine l_sld hC hE (by omega) dL_law_580 ?_
  refine l_call2 (As := [(vi (lSc xs (x3 + 1))), (vi (lSc xs (x3 + 2))), (vi (lSc xs (x3 + 3))), (vi (lSc xs (x3 + 4)))]) (rest := [(vi r1)]) hC hE hZ2 rfl (ctX9_told hZ2 h) (gCw_law (n := 4) wd_847 wd_49 (by decide) (by decide) (by decide +kernel)) rfl (lT wd_844) (lT wd_845) (lT wd_846) rfl (Nat.le_of_ble_eq_true rfl) rfl dL_law_581 (fun r2 N1 h => ?_)
  obtain ⟨hr1, hr2, h⟩ := h
  refine l_ceq hC 1120 hr1 (by rw [← hr2]; exact hr1) dL_law_584 (by decide) (fun _ => ?_) (fun hn => ?_)
  · exact hK M1 N1 h
  · exact absurd hr2 hn
def fL_case9 (xs : Nat → Int32) (x3 : Int) (M N : gMem) (K : gMem → gMem → Prop) : Prop :=
  fX8_sum (lSc xs (x3 + 1)) (lSc xs (x3 + 2)) (lSc xs (x3 + 3)) M (fun r1 M1 => fX9_sum (lSc xs (x3 + 1)) (lSc xs (x3 + 2)) (lSc xs (x3 + 3)) N (fun r2 => rg r1 ∧ r1 = r2 ∧ K M1 N))
set_option maxHeartbeats 4000000 in
set_option maxRecDepth 100000 in
theorem ctL_case9 {y : gY} {z1 z2 : gZ} {l : Launch} {A : Nat → Prop} {b Ln : Nat} {xs : Nat → Int32} {x3 : Int} {M N : gMem} {K : gMem → gMem → Prop} (hC : lC y l cL_law RL 4 lw_tbl room_1) (hE : lE y z1 z2 A b Ln xs) (hZ1 : gZc z1) (hZ2 : gZm z2) (hx : 0 ≤ x3 ∧ x3 + 8 ≤ Ln) (hK : ∀ M N, K M N → lW y A (lI z1 z2 A M N) 1120 [some (.ref b), some (vr z1 0), some (vr z2 0), some (vi x3)] []) (h : fL_case9 xs x3 M N K) : lW y A (lI z1 z2 A M N) 589 [some (.ref b), some (vr z1 0), some (vr z2 0), some (vi x3)] [] := by
  replace h : fX8_sum (lSc xs (x3 + 1)) (lSc xs (x3 + 2)) (lSc xs (x3 + 3)) M (fun r1 M1 => fX9_sum (lSc xs (x3 + 1)) (lSc xs (x3 + 2)) (lSc xs (x3 + 3)) N (fun r2 => rg r1 ∧ r1 = r2 ∧ K M1 N)) := h
  refine l_aload_n hC dL_law_589 rfl rfl ?_
  refine l_aload_n hC dL_law_590 rfl rfl ?_
  refine l_iload_n hC dL_law_591 rfl rfl ?_
  refine l_iconst hC dL_law_592 ?_
  refine l_iadd hC dL_law_593 ?_
  refine l_sld hC hE (by omega) dL_law_594 ?_
  refine l_aload_n hC dL_law_595 rfl rfl ?_
  refine l_iload_n hC dL_law_596 rfl rfl ?_
  refine l_iconst hC dL_law_597 ?_
  refine l_iadd hC dL_law_598 ?_
  refine l_sld hC hE (by omega) dL_law_599 ?_
  refine l_aload_n hC dL_law_600 rfl rfl ?_
  refine l_iload_n hC dL_law_601 rfl rfl ?_
  refine l_iconst hC dL_law_602 ?_
  refine l_iadd hC dL_law_603 ?_
  refine l_sld hC hE (by omega) dL_law_604 ?_
  refine l_call1 (As := [(vi (lSc xs (x3 + 1))), (vi (lSc xs (x3 + 2))), (vi (lSc xs (x3 + 3)))]) (rest := []) hC hE hZ1 rfl (ctX8_sum hZ1 h) (gCw_law (n := 3) wd_421 wd_39 (by decide) (by decide) (by decide +kernel)) rfl (lT wd_418) (lT wd_419) (lT wd_420) rfl (Nat.le_of_ble_eq_true rfl) rfl dL_law_605 (fun r1 M1 h => ?_)
  refine l_aload_n hC dL_law_608 rfl rfl ?_
  refine l_aload_n hC dL_law_609 rfl rfl ?_
  refine l_iload_n hC dL_law_610 rfl rfl ?_
  refine l_iconst hC dL_law_611 ?_
  refine l_iadd hC dL_law_612 ?_
  refine l_sld hC hE (by omega) dL_law_613 ?_
  refine l_aload_n hC dL_law_614 rfl rfl ?_
  refine l_iload_n hC dL_law_615 rfl rfl ?_
  refine l_iconst hC dL_law_616 ?_
  refine l_iadd hC dL_law_617 ?_
  refine l_sld hC hE (by omega) dL_law_618 ?_
  refine l_aload_n hC dL_law_619 rfl rfl ?_
  refine l_iload_n hC dL_law_620 rfl rfl ?_
  refine l_iconst hC dL_law_621 ?_
  refine l_iadd hC dL_law_622 ?_
  refine l_sld hC hE (by omega) dL_law_623 ?_
  refine l_call2 (As := [(vi (lSc xs (x3 + 1))), (vi (lSc xs (x3 + 2))), (vi (lSc xs (x3 + 3)))]) (rest := [(vi r1)]) hC hE hZ2 rfl (ctX9_sum hZ2 h) (gCw_law (n := 3) wd_851 wd_49 (by decide) (by decide) (by decide +kernel)) rfl (lT wd_848) (lT wd_849) (lT wd_850) rfl (Nat.le_of_ble_eq_true rfl) rfl dL_law_624 (fun r2 N1 h => ?_)
  obtain ⟨rfl, h⟩ := h
  obtain ⟨hr1, hr2, h⟩ := h
  refine l_ceq hC 1120 hr1 (by rw [← hr2]; exact hr1) dL_law_627 (by decide) (fun _ => ?_) (fun hn => ?_)
  · exact hK M1 N h
  · exact absurd hr2 hn
def fL_case10 (xs : Nat → Int32) (x3 : Int) (M N : gMem) (K : gMem → gMem → Prop) : Prop :=
  fX8_cuts (lSc xs (x3 + 1)) (lSc xs (x3 + 2)) M (fun r1 M1 => fX9_cuts (lSc xs (x3 + 1)) (lSc xs (x3 + 2)) N (fun r2 N1 => rg r1 ∧ r1 = r2 ∧ K M1 N1))
set_option maxHeartbeats 4000000 in
set_option maxRecDepth 100000 in
theorem ctL_case10 {y : gY} {z1 z2 : gZ} {l : Launch} {A : Nat → Prop} {b Ln : Nat} {xs : Nat → Int32} {x3 : Int} {M N : gMem} {K : gMem → gMem → Prop} (hC : lC y l cL_law RL 4 lw_tbl room_1) (hE : lE y z1 z2 A b Ln xs) (hZ1 : gZc z1) (hZ2 : gZm z2) (hx : 0 ≤ x3 ∧ x3 + 8 ≤ Ln) (hK : ∀ M N, K M N → lW y A (lI z1 z2 A M N) 1120 [some (.ref b), some (vr z1 0), some (vr z2 0), some (vi x3)] []) (h : fL_case10 xs x3 M N K) : lW y A (lI z1 z2 A M N) 632 [some (.ref b), some (vr z1 0), some (vr z2 0), some (vi x3)] [] := by
  replace h : fX8_cuts (lSc xs (x3 + 1)) (lSc xs (x3 + 2)) M (fun r1 M1 => fX9_cuts (lSc xs (x3 + 1)) (lSc xs (x3 + 2)) N (fun r2 N1 => rg r1 ∧ r1 = r2 ∧ K M1 N1)) := h
  refine l_aload_n hC dL_law_632 rfl rfl ?_
  refine l_aload_n hC dL_law_633 rfl rfl ?_
  refine l_iload_n hC dL_law_634 rfl rfl ?_
  refine l_iconst hC dL_law_635 ?_
  refine l_iadd hC dL_law_636 ?_
  refine l_sld hC hE (by omega) dL_law_637 ?_
  refine l_aload_n hC dL_law_638 rfl rfl ?_
  refine l_iload_n hC dL_law_639 rfl rfl ?_
  refine l_iconst hC dL_law_640 ?_
  refine l_iadd hC dL_law_641 ?_
  refine l_sld hC hE (by omega) dL_law_642 ?_
  refine l_call1 (As := [(vi (lSc xs (x3 + 1))), (vi (lSc xs (x3 + 2)))]) (rest := []) hC hE hZ1 rfl (ctX8_cuts hZ1 h) (gCw_law (n := 2) wd_439 wd_39 (by decide) (by decide) (by decide +kernel)) rfl (lT wd_436) (lT wd_437) (lT wd_438) rfl (Nat.le_of_ble_eq_true rfl) rfl dL_law_643 (fun r1 M1 h => ?_)
  refine l_aload_n hC dL_law_646 rfl rfl ?_
  refine l_aload_n hC dL_law_647 rfl rfl ?_
  refine l_iload_n hC dL_law_648 rfl rfl ?_
  refine l_iconst hC dL_law_649 ?_
  refine l_iadd hC dL_law_650 ?_
  refine l_sld hC hE (by omega) dL_law_651 ?_
  refine l_aload_n hC dL_law_652 rfl rfl ?_
  refine l_iload_n hC dL_law_653 rfl rfl ?_
  refine l_iconst hC dL_law_654 ?_
  refine l_iadd hC dL_law_655 ?_
  refine l_sld hC hE (by omega) dL_law_656 ?_
  refine l_call2 (As := [(vi (lSc xs (x3 + 1))), (vi (lSc xs (x3 + 2)))]) (rest := [(vi r1)]) hC hE hZ2 rfl (ctX9_cuts hZ2 h) (gCw_law (n := 2) wd_868 wd_49 (by decide) (by decide) (by decide +kernel)) rfl (lT wd_865) (lT wd_866) (lT wd_867) rfl (Nat.le_of_ble_eq_true rfl) rfl dL_law_657 (fun r2 N1 h => ?_)
  obtain ⟨hr1, hr2, h⟩ := h
  refine l_ceq hC 1120 hr1 (by rw [← hr2]; exact hr1) dL_law_660 (by decide) (fun _ => ?_) (fun hn => ?_)
  · exact hK M1 N1 h
  · exact absurd hr2 hn
def fL_case11 (xs : Nat → Int32) (x3 : Int) (M N : gMem) (K : gMem → gMem → Prop) : Prop :=
  fX8_cut (lSc xs (x3 + 1)) (lSc xs (x3 + 2)) (lSc xs (x3 + 3)) M (fun r1 M1 => fX9_cut (lSc xs (x3 + 1)) (lSc xs (x3 + 2)) (lSc xs (x3 + 3)) N (fun r2 N1 => rg r1 ∧ r1 = r2 ∧ K M1 N1))
set_option maxHeartbeats 4000000 in
set_option maxRecDepth 100000 in
theorem ctL_case11 {y : gY} {z1 z2 : gZ} {l : Launch} {A : Nat → Prop} {b Ln : Nat} {xs : Nat → Int32} {x3 : Int} {M N : gMem} {K : gMem → gMem → Prop} (hC : lC y l cL_law RL 4 lw_tbl room_1) (hE : lE y z1 z2 A b Ln xs) (hZ1 : gZc z1) (hZ2 : gZm z2) (hx : 0 ≤ x3 ∧ x3 + 8 ≤ Ln) (hK : ∀ M N, K M N → lW y A (lI z1 z2 A M N) 1120 [some (.ref b), some (vr z1 0), some (vr z2 0), some (vi x3)] []) (h : fL_case11 xs x3 M N K) : lW y A (lI z1 z2 A M N) 665 [some (.ref b), some (vr z1 0), some (vr z2 0), some (vi x3)] [] := by
  replace h : fX8_cut (lSc xs (x3 + 1)) (lSc xs (x3 + 2)) (lSc xs (x3 + 3)) M (fun r1 M1 => fX9_cut (lSc xs (x3 + 1)) (lSc xs (x3 + 2)) (lSc xs (x3 + 3)) N (fun r2 N1 => rg r1 ∧ r1 = r2 ∧ K M1 N1)) := h
  refine l_aload_n hC dL_law_665 rfl rfl ?_
  refine l_aload_n hC dL_law_666 rfl rfl ?_
  refine l_iload_n hC dL_law_667 rfl rfl ?_
  refine l_iconst hC dL_law_668 ?_
  refine l_iadd hC dL_law_669 ?_
  refine l_sld hC hE (by omega) dL_law_670 ?_
  refine l_aload_n hC dL_law_671 rfl rfl ?_
  refine l_iload_n hC dL_law_672 rfl rfl ?_
  refine l_iconst hC dL_law_673 ?_
  refine l_iadd hC dL_law_674 ?_
  refine l_sld hC hE (by omega) dL_law_675 ?_
  refine l_aload_n hC dL_law_676 rfl rfl ?_
  refine l_iload_n hC dL_law_677 rfl rfl ?_
  refine l_iconst hC dL_law_678 ?_
  refine l_iadd hC dL_law_679 ?_
  refine l_sld hC hE (by omega) dL_law_680 ?_
  refine l_call1 (As := [(vi (lSc xs (x3 + 1))), (vi (lSc xs (x3 + 2))), (vi (lSc xs (x3 + 3)))]) (rest := []) hC hE hZ1 rfl (ctX8_cut hZ1 h) (gCw_law (n := 3) wd_471 wd_39 (by decide) (by decide) (by decide +kernel)) rfl (lT wd_468) (lT wd_469) (lT wd_470) rfl (Nat.le_of_ble_eq_true rfl) rfl dL_law_681 (fun r1 M1 h => ?_)
  refine l_aload_n hC dL_law_684 rfl rfl ?_
  refine l_aload_n hC dL_law_685 rfl rfl ?_
  refine l_iload_n hC dL_law_686 rfl rfl ?_
  refine l_iconst hC dL_law_687 ?_
  refine l_iadd hC dL_law_688 ?_
  refine l_sld hC hE (by omega) dL_law_689 ?_
  refine l_aload_n hC dL_law_690 rfl rfl ?_
  refine l_iload_n hC dL_law_691 rfl rfl ?_
  refine l_iconst hC dL_law_692 ?_
  refine l_iadd hC dL_law_693 ?_
  refine l_sld hC hE (by omega) dL_law_694 ?_
  refine l_aload_n hC dL_law_695 rfl rfl ?_
  refine l_iload_n hC dL_law_696 rfl rfl ?_
  refine l_iconst hC dL_law_697 ?_
  refine l_iadd hC dL_law_698 ?_
  refine l_sld hC hE (by omega) dL_law_699 ?_
  refine l_call2 (As := [(vi (lSc xs (x3 + 1))), (vi (lSc xs (x3 + 2))), (vi (lSc xs (x3 + 3)))]) (rest := [(vi r1)]) hC hE hZ2 rfl (ctX9_cut hZ2 h) (gCw_law (n := 3) wd_884 wd_49 (by decide) (by decide) (by decide +kernel)) rfl (lT wd_881) (lT wd_882) (lT wd_883) rfl (Nat.le_of_ble_eq_true rfl) rfl dL_law_700 (fun r2 N1 h => ?_)
  obtain ⟨hr1, hr2, h⟩ := h
  refine l_ceq hC 1120 hr1 (by rw [← hr2]; exact hr1) dL_law_703 (by decide) (fun _ => ?_) (fun hn => ?_)
  · exact hK M1 N1 h
  · exact absurd hr2 hn
def fL_case12 (xs : Nat → Int32) (x3 : Int) (M N : gMem) (K : gMem → gMem → Prop) : Prop :=
  fX8_agree (lSc xs (x3 + 1)) (lSc xs (x3 + 2)) (lSc xs (x3 + 3)) M (fun r1 M1 => fX9_agree (lSc xs (x3 + 1)) (lSc xs (x3 + 2)) (lSc xs (x3 + 3)) N (fun r2 N1 => rg r1 ∧ r1 = r2 ∧ K M1 N1))
set_option maxHeartbeats 4000000 in
set_option maxRecDepth 100000 in
theorem ctL_case12 {y : gY} {z1 z2 : gZ} {l : Launch} {A : Nat → Prop} {b Ln : Nat} {xs : Nat → Int32} {x3 : Int} {M N : gMem} {K : gMem → gMem → Prop} (hC : lC y l cL_law RL 4 lw_tbl room_1) (hE : lE y z1 z2 A b Ln xs) (hZ1 : gZc z1) (hZ2 : gZm z2) (hx : 0 ≤ x3 ∧ x3 + 8 ≤ Ln) (hK : ∀ M N, K M N → lW y A (lI z1 z2 A M N) 1120 [some (.ref b), some (vr z1 0), some (vr z2 0), some (vi x3)] []) (h : fL_case12 xs x3 M N K) : lW y A (lI z1 z2 A M N) 708 [some (.ref b), some (vr z1 0), some (vr z2 0), some (vi x3)] [] := by
  replace h : fX8_agree (lSc xs (x3 + 1)) (lSc xs (x3 + 2)) (lSc xs (x3 + 3)) M (fun r1 M1 => fX9_agree (lSc xs (x3 + 1)) (lSc xs (x3 + 2)) (lSc xs (x3 + 3)) N (fun r2 N1 => rg r1 ∧ r1 = r2 ∧ K M1 N1)) := h
  refine l_aload_n hC dL_law_708 rfl rfl ?_
  refine l_aload_n hC dL_law_709 rfl rfl ?_
  refine l_iload_n hC dL_law_710 rfl rfl ?_
  refine l_iconst hC dL_law_711 ?_
  refine l_iadd hC dL_law_712 ?_
  refine l_sld hC hE (by omega) dL_law_713 ?_
  refine l_aload_n hC dL_law_714 rfl rfl ?_
  refine l_iload_n hC dL_law_715 rfl rfl ?_
  refine l_iconst hC dL_law_716 ?_
  refine l_iadd hC dL_law_717 ?_
  refine l_sld hC hE (by omega) dL_law_718 ?_
  refine l_aload_n hC dL_law_719 rfl rfl ?_
  refine l_iload_n hC dL_law_720 rfl rfl ?_
  refine l_iconst hC dL_law_721 ?_
  refine l_iadd hC dL_law_722 ?_
  refine l_sld hC hE (by omega) dL_law_723 ?_
  refine l_call1 (As := [(vi (lSc xs (x3 + 1))), (vi (lSc xs (x3 + 2))), (vi (lSc xs (x3 + 3)))]) (rest := []) hC hE hZ1 rfl (ctX8_agree hZ1 h) (gCw_law (n := 3) wd_475 wd_39 (by decide) (by decide) (by decide +kernel)) rfl (lT wd_472) (lT wd_473) (lT wd_474) rfl (Nat.le_of_ble_eq_true rfl) rfl dL_law_724 (fun r1 M1 h => ?_)
  refine l_aload_n hC dL_law_727 rfl rfl ?_
  refine l_aload_n hC dL_law_728 rfl rfl ?_
  refine l_iload_n hC dL_law_729 rfl rfl ?_
  refine l_iconst hC dL_law_730 ?_
  refine l_iadd hC dL_law_731 ?_
  refine l_sld hC hE (by omega) dL_law_732 ?_
  refine l_aload_n hC dL_law_733 rfl rfl ?_
  refine l_iload_n hC dL_law_734 rfl rfl ?_
  refine l_iconst hC dL_law_735 ?_
  refine l_iadd hC dL_law_736 ?_
  refine l_sld hC hE (by omega) dL_law_737 ?_
  refine l_aload_n hC dL_law_738 rfl rfl ?_
  refine l_iload_n hC dL_law_739 rfl rfl ?_
  refine l_iconst hC dL_law_740 ?_
  refine l_iadd hC dL_law_741 ?_
  refine l_sld hC hE (by omega) dL_law_742 ?_
  refine l_call2 (As := [(vi (lSc xs (x3 + 1))), (vi (lSc xs (x3 + 2))), (vi (lSc xs (x3 + 3)))]) (rest := [(vi r1)]) hC hE hZ2 rfl (ctX9_agree hZ2 h) (gCw_law (n := 3) wd_888 wd_49 (by decide) (by decide) (by decide +kernel)) rfl (lT wd_885) (lT wd_886) (lT wd_887) rfl (Nat.le_of_ble_eq_true rfl) rfl dL_law_743 (fun r2 N1 h => ?_)
  obtain ⟨hr1, hr2, h⟩ := h
  refine l_ceq hC 1120 hr1 (by rw [← hr2]; exact hr1) dL_law_746 (by decide) (fun _ => ?_) (fun hn => ?_)
  · exact hK M1 N1 h
  · exact absurd hr2 hn
def fL_case13 (xs : Nat → Int32) (x3 : Int) (M N : gMem) (K : gMem → gMem → Prop) : Prop :=
  fX8_sent (lSc xs (x3 + 1)) (lSc xs (x3 + 2)) (lSc xs (x3 + 3)) M (fun r1 M1 => fX9_sent (lSc xs (x3 + 1)) (lSc xs (x3 + 2)) (lSc xs (x3 + 3)) N (fun r2 N1 => rg r1 ∧ r1 = r2 ∧ K M1 N1))
set_option maxHeartbeats 4000000 in
set_option maxRecDepth 100000 in
theorem ctL_case13 {y : gY} {z1 z2 : gZ} {l : Launch} {A : Nat → Prop} {b Ln : Nat} {xs : Nat → Int32} {x3 : Int} {M N : gMem} {K : gMem → gMem → Prop} (hC : lC y l cL_law RL 4 lw_tbl room_1) (hE : lE y z1 z2 A b Ln xs) (hZ1 : gZc z1) (hZ2 : gZm z2) (hx : 0 ≤ x3 ∧ x3 + 8 ≤ Ln) (hK : ∀ M N, K M N → lW y A (lI z1 z2 A M N) 1120 [some (.ref b), some (vr z1 0), some (vr z2 0), some (vi x3)] []) (h : fL_case13 xs x3 M N K) : lW y A (lI z1 z2 A M N) 751 [some (.ref b), some (vr z1 0), some (vr z2 0), some (vi x3)] [] := by
  replace h : fX8_sent (lSc xs (x3 + 1)) (lSc xs (x3 + 2)) (lSc xs (x3 + 3)) M (fun r1 M1 => fX9_sent (lSc xs (x3 + 1)) (lSc xs (x3 + 2)) (lSc xs (x3 + 3)) N (fun r2 N1 => rg r1 ∧ r1 = r2 ∧ K M1 N1)) := h
  refine l_aload_n hC dL_law_751 rfl rfl ?_
  refine l_aload_n hC dL_law_752 rfl rfl ?_
  refine l_iload_n hC dL_law_753 rfl rfl ?_
  refine l_iconst hC dL_law_754 ?_
  refine l_iadd hC dL_law_755 ?_
  refine l_sld hC hE (by omega) dL_law_756 ?_
  refine l_aload_n hC dL_law_757 rfl rfl ?_
  refine l_iload_n hC dL_law_758 rfl rfl ?_
  refine l_iconst hC dL_law_759 ?_
  refine l_iadd hC dL_law_760 ?_
  refine l_sld hC hE (by omega) dL_law_761 ?_
  refine l_aload_n hC dL_law_762 rfl rfl ?_
  refine l_iload_n hC dL_law_763 rfl rfl ?_
  refine l_iconst hC dL_law_764 ?_
  refine l_iadd hC dL_law_765 ?_
  refine l_sld hC hE (by omega) dL_law_766 ?_
  refine l_call1 (As := [(vi (lSc xs (x3 + 1))), (vi (lSc xs (x3 + 2))), (vi (lSc xs (x3 + 3)))]) (rest := []) hC hE hZ1 rfl (ctX8_sent hZ1 h) (gCw_law (n := 3) wd_496 wd_39 (by decide) (by decide) (by decide +kernel)) rfl (lT wd_493) (lT wd_494) (lT wd_495) rfl (Nat.le_of_ble_eq_true rfl) rfl dL_law_767 (fun r1 M1 h => ?_)
  refine l_aload_n hC dL_law_770 rfl rfl ?_
  refine l_aload_n hC dL_law_771 rfl rfl ?_
  refine l_iload_n hC dL_law_772 rfl rfl ?_
  refine l_iconst hC dL_law_773 ?_
  refine l_iadd hC dL_law_774 ?_
  refine l_sld hC hE (by omega) dL_law_775 ?_
  refine l_aload_n hC dL_law_776 rfl rfl ?_
  refine l_iload_n hC dL_law_777 rfl rfl ?_
  refine l_iconst hC dL_law_778 ?_
  refine l_iadd hC dL_law_779 ?_
  refine l_sld hC hE (by omega) dL_law_780 ?_
  refine l_aload_n hC dL_law_781 rfl rfl ?_
  refine l_iload_n hC dL_law_782 rfl rfl ?_
  refine l_iconst hC dL_law_783 ?_
  refine l_iadd hC dL_law_784 ?_
  refine l_sld hC hE (by omega) dL_law_785 ?_
  refine l_call2 (As := [(vi (lSc xs (x3 + 1))), (vi (lSc xs (x3 + 2))), (vi (lSc xs (x3 + 3)))]) (rest := [(vi r1)]) hC hE hZ2 rfl (ctX9_sent hZ2 h) (gCw_law (n := 3) wd_900 wd_49 (by decide) (by decide) (by decide +kernel)) rfl (lT wd_897) (lT wd_898) (lT wd_899) rfl (Nat.le_of_ble_eq_true rfl) rfl dL_law_786 (fun r2 N1 h => ?_)
  obtain ⟨hr1, hr2, h⟩ := h
  refine l_ceq hC 1120 hr1 (by rw [← hr2]; exact hr1) dL_law_789 (by decide) (fun _ => ?_) (fun hn => ?_)
  · exact hK M1 N1 h
  · exact absurd hr2 hn
def fL_case14 (xs : Nat → Int32) (x3 : Int) (M N : gMem) (K : gMem → gMem → Prop) : Prop :=
  fX8_cost (lSc xs (x3 + 1)) (lSc xs (x3 + 2)) M (fun r1 M1 => fX9_cost (lSc xs (x3 + 1)) (lSc xs (x3 + 2)) N (fun r2 N1 => rg r1 ∧ r1 = r2 ∧ K M1 N1))
set_option maxHeartbeats 4000000 in
set_option maxRecDepth 100000 in
theorem ctL_case14 {y : gY} {z1 z2 : gZ} {l : Launch} {A : Nat → Prop} {b Ln : Nat} {xs : Nat → Int32} {x3 : Int} {M N : gMem} {K : gMem → gMem → Prop} (hC : lC y l cL_law RL 4 lw_tbl room_1) (hE : lE y z1 z2 A b Ln xs) (hZ1 : gZc z1) (hZ2 : gZm z2) (hx : 0 ≤ x3 ∧ x3 + 8 ≤ Ln) (hK : ∀ M N, K M N → lW y A (lI z1 z2 A M N) 1120 [some (.ref b), some (vr z1 0), some (vr z2 0), some (vi x3)] []) (h : fL_case14 xs x3 M N K) : lW y A (lI z1 z2 A M N) 794 [some (.ref b), some (vr z1 0), some (vr z2 0), some (vi x3)] [] := by
  replace h : fX8_cost (lSc xs (x3 + 1)) (lSc xs (x3 + 2)) M (fun r1 M1 => fX9_cost (lSc xs (x3 + 1)) (lSc xs (x3 + 2)) N (fun r2 N1 => rg r1 ∧ r1 = r2 ∧ K M1 N1)) := h
  refine l_aload_n hC dL_law_794 rfl rfl ?_
  refine l_aload_n hC dL_law_795 rfl rfl ?_
  refine l_iload_n hC dL_law_796 rfl rfl ?_
  refine l_iconst hC dL_law_797 ?_
  refine l_iadd hC dL_law_798 ?_
  refine l_sld hC hE (by omega) dL_law_799 ?_
  refine l_aload_n hC dL_law_800 rfl rfl ?_
  refine l_iload_n hC dL_law_801 rfl rfl ?_
  refine l_iconst hC dL_law_802 ?_
  refine l_iadd hC dL_law_803 ?_
  refine l_sld hC hE (by omega) dL_law_804 ?_
  refine l_call1 (As := [(vi (lSc xs (x3 + 1))), (vi (lSc xs (x3 + 2)))]) (rest := []) hC hE hZ1 rfl (ctX8_cost hZ1 h) (gCw_law (n := 2) wd_524 wd_39 (by decide) (by decide) (by decide +kernel)) rfl (lT wd_521) (lT wd_522) (lT wd_523) rfl (Nat.le_of_ble_eq_true rfl) rfl dL_law_805 (fun r1 M1 h => ?_)
  refine l_aload_n hC dL_law_808 rfl rfl ?_
  refine l_aload_n hC dL_law_809 rfl rfl ?_
  refine l_iload_n hC dL_law_810 rfl rfl ?_
  refine l_iconst hC dL_law_811 ?_
  refine l_iadd hC dL_law_812 ?_
  refine l_sld hC hE (by omega) dL_law_813 ?_
  refine l_aload_n hC dL_law_814 rfl rfl ?_
  refine l_iload_n hC dL_law_815 rfl rfl ?_
  refine l_iconst hC dL_law_816 ?_
  refine l_iadd hC dL_law_817 ?_
  refine l_sld hC hE (by omega) dL_law_818 ?_
  refine l_call2 (As := [(vi (lSc xs (x3 + 1))), (vi (lSc xs (x3 + 2)))]) (rest := [(vi r1)]) hC hE hZ2 rfl (ctX9_cost hZ2 h) (gCw_law (n := 2) wd_904 wd_49 (by decide) (by decide) (by decide +kernel)) rfl (lT wd_901) (lT wd_902) (lT wd_903) rfl (Nat.le_of_ble_eq_true rfl) rfl dL_law_819 (fun r2 N1 h => ?_)
  obtain ⟨hr1, hr2, h⟩ := h
  refine l_ceq hC 1120 hr1 (by rw [← hr2]; exact hr1) dL_law_822 (by decide) (fun _ => ?_) (fun hn => ?_)
  · exact hK M1 N1 h
  · exact absurd hr2 hn
def fL_case15 (xs : Nat → Int32) (x3 : Int) (M N : gMem) (K : gMem → gMem → Prop) : Prop :=
  fX8_best (lSc xs (x3 + 1)) M (fun r1 M1 => fX9_best (lSc xs (x3 + 1)) N (fun r2 N1 => rg r1 ∧ r1 = r2 ∧ K M1 N1))
set_option maxHeartbeats 4000000 in
set_option maxRecDepth 100000 in
theorem ctL_case15 {y : gY} {z1 z2 : gZ} {l : Launch} {A : Nat → Prop} {b Ln : Nat} {xs : Nat → Int32} {x3 : Int} {M N : gMem} {K : gMem → gMem → Prop} (hC : lC y l cL_law RL 4 lw_tbl room_1) (hE : lE y z1 z2 A b Ln xs) (hZ1 : gZc z1) (hZ2 : gZm z2) (hx : 0 ≤ x3 ∧ x3 + 8 ≤ Ln) (hK : ∀ M N, K M N → lW y A (lI z1 z2 A M N) 1120 [some (.ref b), some (vr z1 0), some (vr z2 0), some (vi x3)] []) (h : fL_case15 xs x3 M N K) : lW y A (lI z1 z2 A M N) 827 [some (.ref b), some (vr z1 0), some (vr z2 0), some (vi x3)] [] := by
  replace h : fX8_best (lSc xs (x3 + 1)) M (fun r1 M1 => fX9_best (lSc xs (x3 + 1)) N (fun r2 N1 => rg r1 ∧ r1 = r2 ∧ K M1 N1)) := h
  refine l_aload_n hC dL_law_827 rfl rfl ?_
  refine l_aload_n hC dL_law_828 rfl rfl ?_
  refine l_iload_n hC dL_law_829 rfl rfl ?_
  refine l_iconst hC dL_law_830 ?_
  refine l_iadd hC dL_law_831 ?_
  refine l_sld hC hE (by omega) dL_law_832 ?_
  refine l_call1 (As := [(vi (lSc xs (x3 + 1)))]) (rest := []) hC hE hZ1 rfl (ctX8_best hZ1 h) (gCw_law (n := 1) wd_536 wd_39 (by decide) (by decide) (by decide +kernel)) rfl (lT wd_533) (lT wd_534) (lT wd_535) rfl (Nat.le_of_ble_eq_true rfl) rfl dL_law_833 (fun r1 M1 h => ?_)
  refine l_aload_n hC dL_law_836 rfl rfl ?_
  refine l_aload_n hC dL_law_837 rfl rfl ?_
  refine l_iload_n hC dL_law_838 rfl rfl ?_
  refine l_iconst hC dL_law_839 ?_
  refine l_iadd hC dL_law_840 ?_
  refine l_sld hC hE (by omega) dL_law_841 ?_
  refine l_call2 (As := [(vi (lSc xs (x3 + 1)))]) (rest := [(vi r1)]) hC hE hZ2 rfl (ctX9_best hZ2 h) (gCw_law (n := 1) wd_912 wd_49 (by decide) (by decide) (by decide +kernel)) rfl (lT wd_909) (lT wd_910) (lT wd_911) rfl (Nat.le_of_ble_eq_true rfl) rfl dL_law_842 (fun r2 N1 h => ?_)
  obtain ⟨hr1, hr2, h⟩ := h
  refine l_ceq hC 1120 hr1 (by rw [← hr2]; exact hr1) dL_law_845 (by decide) (fun _ => ?_) (fun hn => ?_)
  · exact hK M1 N1 h
  · exact absurd hr2 hn
def fL_case16 (xs : Nat → Int32) (x3 : Int) (M N : gMem) (K : gMem → gMem → Prop) : Prop :=
  fX8_keep (lSc xs (x3 + 1)) (lSc xs (x3 + 2)) M (fun r1 M1 => fX9_keep (lSc xs (x3 + 1)) (lSc xs (x3 + 2)) N (fun r2 N1 => rg r1 ∧ r1 = r2 ∧ K M1 N1))
set_option maxHeartbeats 4000000 in
set_option maxRecDepth 100000 in
theorem ctL_case16 {y : gY} {z1 z2 : gZ} {l : Launch} {A : Nat → Prop} {b Ln : Nat} {xs : Nat → Int32} {x3 : Int} {M N : gMem} {K : gMem → gMem → Prop} (hC : lC y l cL_law RL 4 lw_tbl room_1) (hE : lE y z1 z2 A b Ln xs) (hZ1 : gZc z1) (hZ2 : gZm z2) (hx : 0 ≤ x3 ∧ x3 + 8 ≤ Ln) (hK : ∀ M N, K M N → lW y A (lI z1 z2 A M N) 1120 [some (.ref b), some (vr z1 0), some (vr z2 0), some (vi x3)] []) (h : fL_case16 xs x3 M N K) : lW y A (lI z1 z2 A M N) 850 [some (.ref b), some (vr z1 0), some (vr z2 0), some (vi x3)] [] := by
  replace h : fX8_keep (lSc xs (x3 + 1)) (lSc xs (x3 + 2)) M (fun r1 M1 => fX9_keep (lSc xs (x3 + 1)) (lSc xs (x3 + 2)) N (fun r2 N1 => rg r1 ∧ r1 = r2 ∧ K M1 N1)) := h
  refine l_aload_n hC dL_law_850 rfl rfl ?_
  refine l_aload_n hC dL_law_851 rfl rfl ?_
  refine l_iload_n hC dL_law_852 rfl rfl ?_
  refine l_iconst hC dL_law_853 ?_
  refine l_iadd hC dL_law_854 ?_
  refine l_sld hC hE (by omega) dL_law_855 ?_
  refine l_aload_n hC dL_law_856 rfl rfl ?_
  refine l_iload_n hC dL_law_857 rfl rfl ?_
  refine l_iconst hC dL_law_858 ?_
  refine l_iadd hC dL_law_859 ?_
  refine l_sld hC hE (by omega) dL_law_860 ?_
  refine l_call1 (As := [(vi (lSc xs (x3 + 1))), (vi (lSc xs (x3 + 2)))]) (rest := []) hC hE hZ1 rfl (ctX8_keep hZ1 h) (gCw_law (n := 2) wd_540 wd_39 (by decide) (by decide) (by decide +kernel)) rfl (lT wd_537) (lT wd_538) (lT wd_539) rfl (Nat.le_of_ble_eq_true rfl) rfl dL_law_861 (fun r1 M1 h => ?_)
  refine l_aload_n hC dL_law_864 rfl rfl ?_
  refine l_aload_n hC dL_law_865 rfl rfl ?_
  refine l_iload_n hC dL_law_866 rfl rfl ?_
  refine l_iconst hC dL_law_867 ?_
  refine l_iadd hC dL_law_868 ?_
  refine l_sld hC hE (by omega) dL_law_869 ?_
  refine l_aload_n hC dL_law_870 rfl rfl ?_
  refine l_iload_n hC dL_law_871 rfl rfl ?_
  refine l_iconst hC dL_law_872 ?_
  refine l_iadd hC dL_law_873 ?_
  refine l_sld hC hE (by omega) dL_law_874 ?_
  refine l_call2 (As := [(vi (lSc xs (x3 + 1))), (vi (lSc xs (x3 + 2)))]) (rest := [(vi r1)]) hC hE hZ2 rfl (ctX9_keep hZ2 h) (gCw_law (n := 2) wd_917 wd_49 (by decide) (by decide) (by decide +kernel)) rfl (lT wd_914) (lT wd_915) (lT wd_916) rfl (Nat.le_of_ble_eq_true rfl) rfl dL_law_875 (fun r2 N1 h => ?_)
  obtain ⟨hr1, hr2, h⟩ := h
  refine l_ceq hC 1120 hr1 (by rw [← hr2]; exact hr1) dL_law_878 (by decide) (fun _ => ?_) (fun hn => ?_)
  · exact hK M1 N1 h
  · exact absurd hr2 hn
def fL_case17 (xs : Nat → Int32) (x3 : Int) (M N : gMem) (K : gMem → gMem → Prop) : Prop :=
  fX8_drop (lSc xs (x3 + 1)) M (fun r1 M1 => fX9_drop (lSc xs (x3 + 1)) N (fun r2 N1 => rg r1 ∧ r1 = r2 ∧ K M1 N1))
set_option maxHeartbeats 4000000 in
set_option maxRecDepth 100000 in
theorem ctL_case17 {y : gY} {z1 z2 : gZ} {l : Launch} {A : Nat → Prop} {b Ln : Nat} {xs : Nat → Int32} {x3 : Int} {M N : gMem} {K : gMem → gMem → Prop} (hC : lC y l cL_law RL 4 lw_tbl room_1) (hE : lE y z1 z2 A b Ln xs) (hZ1 : gZc z1) (hZ2 : gZm z2) (hx : 0 ≤ x3 ∧ x3 + 8 ≤ Ln) (hK : ∀ M N, K M N → lW y A (lI z1 z2 A M N) 1120 [some (.ref b), some (vr z1 0), some (vr z2 0), some (vi x3)] []) (h : fL_case17 xs x3 M N K) : lW y A (lI z1 z2 A M N) 883 [some (.ref b), some (vr z1 0), some (vr z2 0), some (vi x3)] [] := by
  replace h : fX8_drop (lSc xs (x3 + 1)) M (fun r1 M1 => fX9_drop (lSc xs (x3 + 1)) N (fun r2 N1 => rg r1 ∧ r1 = r2 ∧ K M1 N1)) := h
  refine l_aload_n hC dL_law_883 rfl rfl ?_
  refine l_aload_n hC dL_law_884 rfl rfl ?_
  refine l_iload_n hC dL_law_885 rfl rfl ?_
  refine l_iconst hC dL_law_886 ?_
  refine l_iadd hC dL_law_887 ?_
  refine l_sld hC hE (by omega) dL_law_888 ?_
  refine l_call1 (As := [(vi (lSc xs (x3 + 1)))]) (rest := []) hC hE hZ1 rfl (ctX8_drop hZ1 h) (gCw_law (n := 1) wd_580 wd_39 (by decide) (by decide) (by decide +kernel)) rfl (lT wd_577) (lT wd_578) (lT wd_579) rfl (Nat.le_of_ble_eq_true rfl) rfl dL_law_889 (fun r1 M1 h => ?_)
  refine l_aload_n hC dL_law_892 rfl rfl ?_
  refine l_aload_n hC dL_law_893 rfl rfl ?_
  refine l_iload_n hC dL_law_894 rfl rfl ?_
  refine l_iconst hC dL_law_895 ?_
  refine l_iadd hC dL_law_896 ?_
  refine l_sld hC hE (by omega) dL_law_897 ?_
  refine l_call2 (As := [(vi (lSc xs (x3 + 1)))]) (rest := [(vi r1)]) hC hE hZ2 rfl (ctX9_drop hZ2 h) (gCw_law (n := 1) wd_945 wd_49 (by decide) (by decide) (by decide +kernel)) rfl (lT wd_942) (lT wd_943) (lT wd_944) rfl (Nat.le_of_ble_eq_true rfl) rfl dL_law_898 (fun r2 N1 h => ?_)
  obtain ⟨hr1, hr2, h⟩ := h
  refine l_ceq hC 1120 hr1 (by rw [← hr2]; exact hr1) dL_law_901 (by decide) (fun _ => ?_) (fun hn => ?_)
  · exact hK M1 N1 h
  · exact absurd hr2 hn
def fL_case18 (xs : Nat → Int32) (x3 : Int) (M N : gMem) (K : gMem → gMem → Prop) : Prop :=
  fX8_bring (lSc xs (x3 + 1)) M (fun r1 M1 => fX9_bring (lSc xs (x3 + 1)) N (fun r2 N1 => rg r1 ∧ r1 = r2 ∧ K M1 N1))
set_option maxHeartbeats 4000000 in
set_option maxRecDepth 100000 in
theorem ctL_case18 {y : gY} {z1 z2 : gZ} {l : Launch} {A : Nat → Prop} {b Ln : Nat} {xs : Nat → Int32} {x3 : Int} {M N : gMem} {K : gMem → gMem → Prop} (hC : lC y l cL_law RL 4 lw_tbl room_1) (hE : lE y z1 z2 A b Ln xs) (hZ1 : gZc z1) (hZ2 : gZm z2) (hx : 0 ≤ x3 ∧ x3 + 8 ≤ Ln) (hK : ∀ M N, K M N → lW y A (lI z1 z2 A M N) 1120 [some (.ref b), some (vr z1 0), some (vr z2 0), some (vi x3)] []) (h : fL_case18 xs x3 M N K) : lW y A (lI z1 z2 A M N) 906 [some (.ref b), some (vr z1 0), some (vr z2 0), some (vi x3)] [] := by
  replace h : fX8_bring (lSc xs (x3 + 1)) M (fun r1 M1 => fX9_bring (lSc xs (x3 + 1)) N (fun r2 N1 => rg r1 ∧ r1 = r2 ∧ K M1 N1)) := h
  refine l_aload_n hC dL_law_906 rfl rfl ?_
  refine l_aload_n hC dL_law_907 rfl rfl ?_
  refine l_iload_n hC dL_law_908 rfl rfl ?_
  refine l_iconst hC dL_law_909 ?_
  refine l_iadd hC dL_law_910 ?_
  refine l_sld hC hE (by omega) dL_law_911 ?_
  refine l_call1 (As := [(vi (lSc xs (x3 + 1)))]) (rest := []) hC hE hZ1 rfl (ctX8_bring hZ1 h) (gCw_law (n := 1) wd_592 wd_39 (by decide) (by decide) (by decide +kernel)) rfl (lT wd_589) (lT wd_590) (lT wd_591) rfl (Nat.le_of_ble_eq_true rfl) rfl dL_law_912 (fun r1 M1 h => ?_)
  refine l_aload_n hC dL_law_915 rfl rfl ?_
  refine l_aload_n hC dL_law_916 rfl rfl ?_
  refine l_iload_n hC dL_law_917 rfl rfl ?_
  refine l_iconst hC dL_law_918 ?_
  refine l_iadd hC dL_law_919 ?_
  refine l_sld hC hE (by omega) dL_law_920 ?_
  refine l_call2 (As := [(vi (lSc xs (x3 + 1)))]) (rest := [(vi r1)]) hC hE hZ2 rfl (ctX9_bring hZ2 h) (gCw_law (n := 1) wd_949 wd_49 (by decide) (by decide) (by decide +kernel)) rfl (lT wd_946) (lT wd_947) (lT wd_948) rfl (Nat.le_of_ble_eq_true rfl) rfl dL_law_921 (fun r2 N1 h => ?_)
  obtain ⟨hr1, hr2, h⟩ := h
  refine l_ceq hC 1120 hr1 (by rw [← hr2]; exact hr1) dL_law_924 (by decide) (fun _ => ?_) (fun hn => ?_)
  · exact hK M1 N1 h
  · exact absurd hr2 hn
def fL_case19 (xs : Nat → Int32) (x3 : Int) (M N : gMem) (K : gMem → gMem → Prop) : Prop :=
  fX8_jumps (lSc xs (x3 + 1)) M (fun r1 => fX9_jumps (lSc xs (x3 + 1)) N (fun r2 => rg r1 ∧ r1 = r2 ∧ K M N))
set_option maxHeartbeats 4000000 in
set_option maxRecDepth 100000 in
theorem ctL_case19 {y : gY} {z1 z2 : gZ} {l : Launch} {A : Nat → Prop} {b Ln : Nat} {xs : Nat → Int32} {x3 : Int} {M N : gMem} {K : gMem → gMem → Prop} (hC : lC y l cL_law RL 4 lw_tbl room_1) (hE : lE y z1 z2 A b Ln xs) (hZ1 : gZc z1) (hZ2 : gZm z2) (hx : 0 ≤ x3 ∧ x3 + 8 ≤ Ln) (hK : ∀ M N, K M N → lW y A (lI z1 z2 A M N) 1120 [some (.ref b), some (vr z1 0), some (vr z2 0), some (vi x3)] []) (h : fL_case19 xs x3 M N K) : lW y A (lI z1 z2 A M N) 929 [some (.ref b), some (vr z1 0), some (vr z2 0), some (vi x3)] [] := by
  replace h : fX8_jumps (lSc xs (x3 + 1)) M (fun r1 => fX9_jumps (lSc xs (x3 + 1)) N (fun r2 => rg r1 ∧ r1 = r2 ∧ K M N)) := h
  refine l_aload_n hC dL_law_929 rfl rfl ?_
  refine l_aload_n hC dL_law_930 rfl rfl ?_
  refine l_iload_n hC dL_law_931 rfl rfl ?_
  refine l_iconst hC dL_law_932 ?_
  refine l_iadd hC dL_law_933 ?_
  refine l_sld hC hE (by omega) dL_law_934 ?_
  refine l_call1 (As := [(vi (lSc xs (x3 + 1)))]) (rest := []) hC hE hZ1 rfl (ctX8_jumps hZ1 h) (gCw_law (n := 1) wd_604 wd_39 (by decide) (by decide) (by decide +kernel)) rfl (lT wd_601) (lT wd_602) (lT wd_603) rfl (Nat.le_of_ble_eq_true rfl) rfl dL_law_935 (fun r1 M1 h => ?_)
  obtain ⟨rfl, h⟩ := h
  refine l_aload_n hC dL_law_938 rfl rfl ?_
  refine l_aload_n hC dL_law_939 rfl rfl ?_
  refine l_iload_n hC dL_law_940 rfl rfl ?_
  refine l_iconst hC dL_law_941 ?_
  refine l_iadd hC dL_law_942 ?_
  refine l_sld hC hE (by omega) dL_law_943 ?_
  refine l_call2 (As := [(vi (lSc xs (x3 + 1)))]) (rest := [(vi r1)]) hC hE hZ2 rfl (ctX9_jumps hZ2 h) (gCw_law (n := 1) wd_953 wd_49 (by decide) (by decide) (by decide +kernel)) rfl (lT wd_950) (lT wd_951) (lT wd_952) rfl (Nat.le_of_ble_eq_true rfl) rfl dL_law_944 (fun r2 N1 h => ?_)
  obtain ⟨rfl, h⟩ := h
  obtain ⟨hr1, hr2, h⟩ := h
  refine l_ceq hC 1120 hr1 (by rw [← hr2]; exact hr1) dL_law_947 (by decide) (fun _ => ?_) (fun hn => ?_)
  · exact hK M N h
  · exact absurd hr2 hn
def fL_case20 (xs : Nat → Int32) (x3 : Int) (M N : gMem) (K : gMem → gMem → Prop) : Prop :=
  fX8_number (lSc xs (x3 + 1)) (lSc xs (x3 + 2)) M (fun r1 => fX9_number (lSc xs (x3 + 1)) (lSc xs (x3 + 2)) N (fun r2 => rg r1 ∧ r1 = r2 ∧ K M N))
set_option maxHeartbeats 4000000 in
set_option maxRecDepth 100000 in
theorem ctL_case20 {y : gY} {z1 z2 : gZ} {l : Launch} {A : Nat → Prop} {b Ln : Nat} {xs : Nat → Int32} {x3 : Int} {M N : gMem} {K : gMem → gMem → Prop} (hC : lC y l cL_law RL 4 lw_tbl room_1) (hE : lE y z1 z2 A b Ln xs) (hZ1 : gZc z1) (hZ2 : gZm z2) (hx : 0 ≤ x3 ∧ x3 + 8 ≤ Ln) (hK : ∀ M N, K M N → lW y A (lI z1 z2 A M N) 1120 [some (.ref b), some (vr z1 0), some (vr z2 0), some (vi x3)] []) (h : fL_case20 xs x3 M N K) : lW y A (lI z1 z2 A M N) 952 [some (.ref b), some (vr z1 0), some (vr z2 0), some (vi x3)] [] := by
  replace h : fX8_number (lSc xs (x3 + 1)) (lSc xs (x3 + 2)) M (fun r1 => fX9_number (lSc xs (x3 + 1)) (lSc xs (x3 + 2)) N (fun r2 => rg r1 ∧ r1 = r2 ∧ K M N)) := h
  refine l_aload_n hC dL_law_952 rfl rfl ?_
  refine l_aload_n hC dL_law_953 rfl rfl ?_
  refine l_iload_n hC dL_law_954 rfl rfl ?_
  refine l_iconst hC dL_law_955 ?_
  refine l_iadd hC dL_law_956 ?_
  refine l_sld hC hE (by omega) dL_law_957 ?_
  refine l_aload_n hC dL_law_958 rfl rfl ?_
  refine l_iload_n hC dL_law_959 rfl rfl ?_
  refine l_iconst hC dL_law_960 ?_
  refine l_iadd hC dL_law_961 ?_
  refine l_sld hC hE (by omega) dL_law_962 ?_
  refine l_call1 (As := [(vi (lSc xs (x3 + 1))), (vi (lSc xs (x3 + 2)))]) (rest := []) hC hE hZ1 rfl (ctX8_number hZ1 h) (gCw_law (n := 2) wd_612 wd_39 (by decide) (by decide) (by decide +kernel)) rfl (lT wd_609) (lT wd_610) (lT wd_611) rfl (Nat.le_of_ble_eq_true rfl) rfl dL_law_963 (fun r1 M1 h => ?_)
  obtain ⟨rfl, h⟩ := h
  refine l_aload_n hC dL_law_966 rfl rfl ?_
  refine l_aload_n hC dL_law_967 rfl rfl ?_
  refine l_iload_n hC dL_law_968 rfl rfl ?_
  refine l_iconst hC dL_law_969 ?_
  refine l_iadd hC dL_law_970 ?_
  refine l_sld hC hE (by omega) dL_law_971 ?_
  refine l_aload_n hC dL_law_972 rfl rfl ?_
  refine l_iload_n hC dL_law_973 rfl rfl ?_
  refine l_iconst hC dL_law_974 ?_
  refine l_iadd hC dL_law_975 ?_
  refine l_sld hC hE (by omega) dL_law_976 ?_
  refine l_call2 (As := [(vi (lSc xs (x3 + 1))), (vi (lSc xs (x3 + 2)))]) (rest := [(vi r1)]) hC hE hZ2 rfl (ctX9_number hZ2 h) (gCw_law (n := 2) wd_957 wd_49 (by decide) (by decide) (by decide +kernel)) rfl (lT wd_954) (lT wd_955) (lT wd_956) rfl (Nat.le_of_ble_eq_true rfl) rfl dL_law_977 (fun r2 N1 h => ?_)
  obtain ⟨rfl, h⟩ := h
  obtain ⟨hr1, hr2, h⟩ := h
  refine l_ceq hC 1120 hr1 (by rw [← hr2]; exact hr1) dL_law_980 (by decide) (fun _ => ?_) (fun hn => ?_)
  · exact hK M N h
  · exact absurd hr2 hn
def fL_case21 (xs : Nat → Int32) (x3 : Int) (M N : gMem) (K : gMem → gMem → Prop) : Prop :=
  fX8_piece (lSc xs (x3 + 1)) (lSc xs (x3 + 2)) M (fun r1 => fX9_piece (lSc xs (x3 + 1)) (lSc xs (x3 + 2)) N (fun r2 => rg r1 ∧ r1 = r2 ∧ K M N))
set_option maxHeartbeats 4000000 in
set_option maxRecDepth 100000 in
theorem ctL_case21 {y : gY} {z1 z2 : gZ} {l : Launch} {A : Nat → Prop} {b Ln : Nat} {xs : Nat → Int32} {x3 : Int} {M N : gMem} {K : gMem → gMem → Prop} (hC : lC y l cL_law RL 4 lw_tbl room_1) (hE : lE y z1 z2 A b Ln xs) (hZ1 : gZc z1) (hZ2 : gZm z2) (hx : 0 ≤ x3 ∧ x3 + 8 ≤ Ln) (hK : ∀ M N, K M N → lW y A (lI z1 z2 A M N) 1120 [some (.ref b), some (vr z1 0), some (vr z2 0), some (vi x3)] []) (h : fL_case21 xs x3 M N K) : lW y A (lI z1 z2 A M N) 985 [some (.ref b), some (vr z1 0), some (vr z2 0), some (vi x3)] [] := by
  replace h : fX8_piece (lSc xs (x3 + 1)) (lSc xs (x3 + 2)) M (fun r1 => fX9_piece (lSc xs (x3 + 1)) (lSc xs (x3 + 2)) N (fun r2 => rg r1 ∧ r1 = r2 ∧ K M N)) := h
  refine l_aload_n hC dL_law_985 rfl rfl ?_
  refine l_aload_n hC dL_law_986 rfl rfl ?_
  refine l_iload_n hC dL_law_987 rfl rfl ?_
  refine l_iconst hC dL_law_988 ?_
  refine l_iadd hC dL_law_989 ?_
  refine l_sld hC hE (by omega) dL_law_990 ?_
  refine l_aload_n hC dL_law_991 rfl rfl ?_
  refine l_iload_n hC dL_law_992 rfl rfl ?_
  refine l_iconst hC dL_law_993 ?_
  refine l_iadd hC dL_law_994 ?_
  refine l_sld hC hE (by omega) dL_law_995 ?_
  refine l_call1 (As := [(vi (lSc xs (x3 + 1))), (vi (lSc xs (x3 + 2)))]) (rest := []) hC hE hZ1 rfl (ctX8_piece hZ1 h) (gCw_law (n := 2) wd_616 wd_39 (by decide) (by decide) (by decide +kernel)) rfl (lT wd_613) (lT wd_614) (lT wd_615) rfl (Nat.le_of_ble_eq_true rfl) rfl dL_law_996 (fun r1 M1 h => ?_)
  obtain ⟨rfl, h⟩ := h
  refine l_aload_n hC dL_law_999 rfl rfl ?_
  refine l_aload_n hC dL_law_1000 rfl rfl ?_
  refine l_iload_n hC dL_law_1001 rfl rfl ?_
  refine l_iconst hC dL_law_1002 ?_
  refine l_iadd hC dL_law_1003 ?_
  refine l_sld hC hE (by omega) dL_law_1004 ?_
  refine l_aload_n hC dL_law_1005 rfl rfl ?_
  refine l_iload_n hC dL_law_1006 rfl rfl ?_
  refine l_iconst hC dL_law_1007 ?_
  refine l_iadd hC dL_law_1008 ?_
  refine l_sld hC hE (by omega) dL_law_1009 ?_
  refine l_call2 (As := [(vi (lSc xs (x3 + 1))), (vi (lSc xs (x3 + 2)))]) (rest := [(vi r1)]) hC hE hZ2 rfl (ctX9_piece hZ2 h) (gCw_law (n := 2) wd_961 wd_49 (by decide) (by decide) (by decide +kernel)) rfl (lT wd_958) (lT wd_959) (lT wd_960) rfl (Nat.le_of_ble_eq_true rfl) rfl dL_law_1010 (fun r2 N1 h => ?_)
  obtain ⟨rfl, h⟩ := h
  obtain ⟨hr1, hr2, h⟩ := h
  refine l_ceq hC 1120 hr1 (by rw [← hr2]; exact hr1) dL_law_1013 (by decide) (fun _ => ?_) (fun hn => ?_)
  · exact hK M N h
  · exact absurd hr2 hn
def fL_case22 (xs : Nat → Int32) (x3 : Int) (M N : gMem) (K : gMem → gMem → Prop) : Prop :=
  fX8_count (lSc xs (x3 + 1)) M (fun r1 => fX9_count (lSc xs (x3 + 1)) N (fun r2 => rg r1 ∧ r1 = r2 ∧ K M N))
set_option maxHeartbeats 4000000 in
set_option maxRecDepth 100000 in
theorem ctL_case22 {y : gY} {z1 z2 : gZ} {l : Launch} {A : Nat → Prop} {b Ln : Nat} {xs : Nat → Int32} {x3 : Int} {M N : gMem} {K : gMem → gMem → Prop} (hC : lC y l cL_law RL 4 lw_tbl room_1) (hE : lE y z1 z2 A b Ln xs) (hZ1 : gZc z1) (hZ2 : gZm z2) (hx : 0 ≤ x3 ∧ x3 + 8 ≤ Ln) (hK : ∀ M N, K M N → lW y A (lI z1 z2 A M N) 1120 [some (.ref b), some (vr z1 0), some (vr z2 0), some (vi x3)] []) (h : fL_case22 xs x3 M N K) : lW y A (lI z1 z2 A M N) 1018 [some (.ref b), some (vr z1 0), some (vr z2 0), some (vi x3)] [] := by
  replace h : fX8_count (lSc xs (x3 + 1)) M (fun r1 => fX9_count (lSc xs (x3 + 1)) N (fun r2 => rg r1 ∧ r1 = r2 ∧ K M N)) := h
  refine l_aload_n hC dL_law_1018 rfl rfl ?_
  refine l_aload_n hC dL_law_1019 rfl rfl ?_
  refine l_iload_n hC dL_law_1020 rfl rfl ?_
  refine l_iconst hC dL_law_1021 ?_
  refine l_iadd hC dL_law_1022 ?_
  refine l_sld hC hE (by omega) dL_law_1023 ?_
  refine l_call1 (As := [(vi (lSc xs (x3 + 1)))]) (rest := []) hC hE hZ1 rfl (ctX8_count hZ1 h) (gCw_law (n := 1) wd_620 wd_39 (by decide) (by decide) (by decide +kernel)) rfl (lT wd_617) (lT wd_618) (lT wd_619) rfl (Nat.le_of_ble_eq_true rfl) rfl dL_law_1024 (fun r1 M1 h => ?_)
  obtain ⟨rfl, h⟩ := h
  refine l_aload_n hC dL_law_1027 rfl rfl ?_
  refine l_aload_n hC dL_law_1028 rfl rfl ?_
  refine l_iload_n hC dL_law_1029 rfl rfl ?_
  refine l_iconst hC dL_law_1030 ?_
  refine l_iadd hC dL_law_1031 ?_
  refine l_sld hC hE (by omega) dL_law_1032 ?_
  refine l_call2 (As := [(vi (lSc xs (x3 + 1)))]) (rest := [(vi r1)]) hC hE hZ2 rfl (ctX9_count hZ2 h) (gCw_law (n := 1) wd_965 wd_49 (by decide) (by decide) (by decide +kernel)) rfl (lT wd_962) (lT wd_963) (lT wd_964) rfl (Nat.le_of_ble_eq_true rfl) rfl dL_law_1033 (fun r2 N1 h => ?_)
  obtain ⟨rfl, h⟩ := h
  obtain ⟨hr1, hr2, h⟩ := h
  refine l_ceq hC 1120 hr1 (by rw [← hr2]; exact hr1) dL_law_1036 (by decide) (fun _ => ?_) (fun hn => ?_)
  · exact hK M N h
  · exact absurd hr2 hn
def fL_case23 (xs : Nat → Int32) (x3 : Int) (M N : gMem) (K : gMem → gMem → Prop) : Prop :=
  fX8_prices (lSc xs (x3 + 1)) (lSc xs (x3 + 2)) M (fun r1 M1 => fX9_prices (lSc xs (x3 + 1)) (lSc xs (x3 + 2)) N (fun r2 N1 => rg r1 ∧ r1 = r2 ∧ K M1 N1))
set_option maxHeartbeats 4000000 in
set_option maxRecDepth 100000 in
theorem ctL_case23 {y : gY} {z1 z2 : gZ} {l : Launch} {A : Nat → Prop} {b Ln : Nat} {xs : Nat → Int32} {x3 : Int} {M N : gMem} {K : gMem → gMem → Prop} (hC : lC y l cL_law RL 4 lw_tbl room_1) (hE : lE y z1 z2 A b Ln xs) (hZ1 : gZc z1) (hZ2 : gZm z2) (hx : 0 ≤ x3 ∧ x3 + 8 ≤ Ln) (hK : ∀ M N, K M N → lW y A (lI z1 z2 A M N) 1120 [some (.ref b), some (vr z1 0), some (vr z2 0), some (vi x3)] []) (h : fL_case23 xs x3 M N K) : lW y A (lI z1 z2 A M N) 1041 [some (.ref b), some (vr z1 0), some (vr z2 0), some (vi x3)] [] := by
  replace h : fX8_prices (lSc xs (x3 + 1)) (lSc xs (x3 + 2)) M (fun r1 M1 => fX9_prices (lSc xs (x3 + 1)) (lSc xs (x3 + 2)) N (fun r2 N1 => rg r1 ∧ r1 = r2 ∧ K M1 N1)) := h
  refine l_aload_n hC dL_law_1041 rfl rfl ?_
  refine l_aload_n hC dL_law_1042 rfl rfl ?_
  refine l_iload_n hC dL_law_1043 rfl rfl ?_
  refine l_iconst hC dL_law_1044 ?_
  refine l_iadd hC dL_law_1045 ?_
  refine l_sld hC hE (by omega) dL_law_1046 ?_
  refine l_aload_n hC dL_law_1047 rfl rfl ?_
  refine l_iload_n hC dL_law_1048 rfl rfl ?_
  refine l_iconst hC dL_law_1049 ?_
  refine l_iadd hC dL_law_1050 ?_
  refine l_sld hC hE (by omega) dL_law_1051 ?_
  refine l_call1 (As := [(vi (lSc xs (x3 + 1))), (vi (lSc xs (x3 + 2)))]) (rest := []) hC hE hZ1 rfl (ctX8_prices hZ1 h) (gCw_law (n := 2) wd_633 wd_39 (by decide) (by decide) (by decide +kernel)) rfl (lT wd_630) (lT wd_631) (lT wd_632) rfl (Nat.le_of_ble_eq_true rfl) rfl dL_law_1052 (fun r1 M1 h => ?_)
  refine l_aload_n hC dL_law_1055 rfl rfl ?_
  refine l_aload_n hC dL_law_1056 rfl rfl ?_
  refine l_iload_n hC dL_law_1057 rfl rfl ?_
  refine l_iconst hC dL_law_1058 ?_
  refine l_iadd hC dL_law_1059 ?_
  refine l_sld hC hE (by omega) dL_law_1060 ?_
  refine l_aload_n hC dL_law_1061 rfl rfl ?_
  refine l_iload_n hC dL_law_1062 rfl rfl ?_
  refine l_iconst hC dL_law_1063 ?_
  refine l_iadd hC dL_law_1064 ?_
  refine l_sld hC hE (by omega) dL_law_1065 ?_
  refine l_call2 (As := [(vi (lSc xs (x3 + 1))), (vi (lSc xs (x3 + 2)))]) (rest := [(vi r1)]) hC hE hZ2 rfl (ctX9_prices hZ2 h) (gCw_law (n := 2) wd_969 wd_49 (by decide) (by decide) (by decide +kernel)) rfl (lT wd_966) (lT wd_967) (lT wd_968) rfl (Nat.le_of_ble_eq_true rfl) rfl dL_law_1066 (fun r2 N1 h => ?_)
  obtain ⟨hr1, hr2, h⟩ := h
  refine l_ceq hC 1120 hr1 (by rw [← hr2]; exact hr1) dL_law_1069 (by decide) (fun _ => ?_) (fun hn => ?_)
  · exact hK M1 N1 h
  · exact absurd hr2 hn
def fL_case24 (xs : Nat → Int32) (x3 : Int) (M N : gMem) (K : gMem → gMem → Prop) : Prop :=
  fX8_supers  M (fun r1 M1 => fX9_supers  N (fun r2 N1 => rg r1 ∧ r1 = r2 ∧ K M1 N1))
set_option maxHeartbeats 4000000 in
set_option maxRecDepth 100000 in
theorem ctL_case24 {y : gY} {z1 z2 : gZ} {l : Launch} {A : Nat → Prop} {b Ln : Nat} {xs : Nat → Int32} {x3 : Int} {M N : gMem} {K : gMem → gMem → Prop} (hC : lC y l cL_law RL 4 lw_tbl room_1) (hE : lE y z1 z2 A b Ln xs) (hZ1 : gZc z1) (hZ2 : gZm z2) (hx : 0 ≤ x3 ∧ x3 + 8 ≤ Ln) (hK : ∀ M N, K M N → lW y A (lI z1 z2 A M N) 1120 [some (.ref b), some (vr z1 0), some (vr z2 0), some (vi x3)] []) (h : fL_case24 xs x3 M N K) : lW y A (lI z1 z2 A M N) 1074 [some (.ref b), some (vr z1 0), some (vr z2 0), some (vi x3)] [] := by
  replace h : fX8_supers  M (fun r1 M1 => fX9_supers  N (fun r2 N1 => rg r1 ∧ r1 = r2 ∧ K M1 N1)) := h
  refine l_aload_n hC dL_law_1074 rfl rfl ?_
  refine l_call1 (As := []) (rest := []) hC hE hZ1 rfl (ctX8_supers hZ1 h) (gCw_law (n := 0) wd_637 wd_39 (by decide) (by decide) (by decide +kernel)) rfl (lT wd_634) (lT wd_635) (lT wd_636) rfl (Nat.le_of_ble_eq_true rfl) rfl dL_law_1075 (fun r1 M1 h => ?_)
  refine l_aload_n hC dL_law_1078 rfl rfl ?_
  refine l_call2 (As := []) (rest := [(vi r1)]) hC hE hZ2 rfl (ctX9_supers hZ2 h) (gCw_law (n := 0) wd_973 wd_49 (by decide) (by decide) (by decide +kernel)) rfl (lT wd_970) (lT wd_971) (lT wd_972) rfl (Nat.le_of_ble_eq_true rfl) rfl dL_law_1079 (fun r2 N1 h => ?_)
  obtain ⟨hr1, hr2, h⟩ := h
  refine l_ceq hC 1120 hr1 (by rw [← hr2]; exact hr1) dL_law_1082 (by decide) (fun _ => ?_) (fun hn => ?_)
  · exact hK M1 N1 h
  · exact absurd hr2 hn
def fL_case25 (xs : Nat → Int32) (x3 : Int) (M N : gMem) (K : gMem → gMem → Prop) : Prop :=
  fX8_pair (lSc xs (x3 + 1)) (lSc xs (x3 + 2)) M (fun r1 => fX9_pair (lSc xs (x3 + 1)) (lSc xs (x3 + 2)) N (fun r2 => rg r1 ∧ r1 = r2 ∧ K M N))
set_option maxHeartbeats 4000000 in
set_option maxRecDepth 100000 in
theorem ctL_case25 {y : gY} {z1 z2 : gZ} {l : Launch} {A : Nat → Prop} {b Ln : Nat} {xs : Nat → Int32} {x3 : Int} {M N : gMem} {K : gMem → gMem → Prop} (hC : lC y l cL_law RL 4 lw_tbl room_1) (hE : lE y z1 z2 A b Ln xs) (hZ1 : gZc z1) (hZ2 : gZm z2) (hx : 0 ≤ x3 ∧ x3 + 8 ≤ Ln) (hK : ∀ M N, K M N → lW y A (lI z1 z2 A M N) 1120 [some (.ref b), some (vr z1 0), some (vr z2 0), some (vi x3)] []) (h : fL_case25 xs x3 M N K) : lW y A (lI z1 z2 A M N) 1087 [some (.ref b), some (vr z1 0), some (vr z2 0), some (vi x3)] [] := by
  replace h : fX8_pair (lSc xs (x3 + 1)) (lSc xs (x3 + 2)) M (fun r1 => fX9_pair (lSc xs (x3 + 1)) (lSc xs (x3 + 2)) N (fun r2 => rg r1 ∧ r1 = r2 ∧ K M N)) := h
  refine l_aload_n hC dL_law_1087 rfl rfl ?_
  refine l_aload_n hC dL_law_1088 rfl rfl ?_
  refine l_iload_n hC dL_law_1089 rfl rfl ?_
  refine l_iconst hC dL_law_1090 ?_
  refine l_iadd hC dL_law_1091 ?_
  refine l_sld hC hE (by omega) dL_law_1092 ?_
  refine l_aload_n hC dL_law_1093 rfl rfl ?_
  refine l_iload_n hC dL_law_1094 rfl rfl ?_
  refine l_iconst hC dL_law_1095 ?_
  refine l_iadd hC dL_law_1096 ?_
  refine l_sld hC hE (by omega) dL_law_1097 ?_
  refine l_call1 (As := [(vi (lSc xs (x3 + 1))), (vi (lSc xs (x3 + 2)))]) (rest := []) hC hE hZ1 rfl (ctX8_pair hZ1 h) (gCw_law (n := 2) wd_679 wd_39 (by decide) (by decide) (by decide +kernel)) rfl (lT wd_676) (lT wd_677) (lT wd_678) rfl (Nat.le_of_ble_eq_true rfl) rfl dL_law_1098 (fun r1 M1 h => ?_)
  obtain ⟨rfl, h⟩ := h
  refine l_aload_n hC dL_law_1101 rfl rfl ?_
  refine l_aload_n hC dL_law_1102 rfl rfl ?_
  refine l_iload_n hC dL_law_1103 rfl rfl ?_
  refine l_iconst hC dL_law_1104 ?_
  refine l_iadd hC dL_law_1105 ?_
  refine l_sld hC hE (by omega) dL_law_1106 ?_
  refine l_aload_n hC dL_law_1107 rfl rfl ?_
  refine l_iload_n hC dL_law_1108 rfl rfl ?_
  refine l_iconst hC dL_law_1109 ?_
  refine l_iadd hC dL_law_1110 ?_
  refine l_sld hC hE (by omega) dL_law_1111 ?_
  refine l_call2 (As := [(vi (lSc xs (x3 + 1))), (vi (lSc xs (x3 + 2)))]) (rest := [(vi r1)]) hC hE hZ2 rfl (ctX9_pair hZ2 h) (gCw_law (n := 2) wd_991 wd_49 (by decide) (by decide) (by decide +kernel)) rfl (lT wd_988) (lT wd_989) (lT wd_990) rfl (Nat.le_of_ble_eq_true rfl) rfl dL_law_1112 (fun r2 N1 h => ?_)
  obtain ⟨rfl, h⟩ := h
  obtain ⟨hr1, hr2, h⟩ := h
  refine l_ceq hC 1120 hr1 (by rw [← hr2]; exact hr1) dL_law_1115 (by decide) (fun _ => ?_) (fun hn => ?_)
  · exact hK M N h
  · exact absurd hr2 hn
def fL_case (c : Int) (xs : Nat → Int32) (x3 : Int) (M N : gMem) (K : gMem → gMem → Prop) : Prop :=
  (c = 0 → fL_case0 xs x3 M N K) ∧
  (c = 1 → fL_case1 xs x3 M N K) ∧
  (c = 2 → fL_case2 xs x3 M N K) ∧
  (c = 3 → fL_case3 xs x3 M N K) ∧
  (c = 4 → fL_case4 xs x3 M N K) ∧
  (c = 5 → fL_case5 xs x3 M N K) ∧
  (c = 6 → fL_case6 xs x3 M N K) ∧
  (c = 7 → fL_case7 xs x3 M N K) ∧
  (c = 8 → fL_case8 xs x3 M N K) ∧
  (c = 9 → fL_case9 xs x3 M N K) ∧
  (c = 10 → fL_case10 xs x3 M N K) ∧
  (c = 11 → fL_case11 xs x3 M N K) ∧
  (c = 12 → fL_case12 xs x3 M N K) ∧
  (c = 13 → fL_case13 xs x3 M N K) ∧
  (c = 14 → fL_case14 xs x3 M N K) ∧
  (c = 15 → fL_case15 xs x3 M N K) ∧
  (c = 16 → fL_case16 xs x3 M N K) ∧
  (c = 17 → fL_case17 xs x3 M N K) ∧
  (c = 18 → fL_case18 xs x3 M N K) ∧
  (c = 19 → fL_case19 xs x3 M N K) ∧
  (c = 20 → fL_case20 xs x3 M N K) ∧
  (c = 21 → fL_case21 xs x3 M N K) ∧
  (c = 22 → fL_case22 xs x3 M N K) ∧
  (c = 23 → fL_case23 xs x3 M N K) ∧
  (c = 24 → fL_case24 xs x3 M N K) ∧
  (c = 25 → fL_case25 xs x3 M N K) ∧
  ((c < 0 ∨ 25 < c) → K M N)
def fL_loop (xs : Nat → Int32) (Ln : Int) : Nat → Int → gMem → gMem → Prop
  | 0, _, _, _ => False
  | n + 1, x3, M, N => 0 ≤ x3 ∧ x3 < 2147483600 ∧ (x3 ≤ Ln - 8 → fL_case (band (lSc xs x3) 31) xs x3 M N (fun M1 N1 => fL_loop xs Ln n (x3 + 8) M1 N1))
def lR (y : gY) : Prop := match y with
  | (p, l, e, R, s, m, args, below, meth, c, Q, nc, ns) => ∀ (H : Heap) (locs : List Loc) (ls : Array Slot) (pc : Nat), (∀ q ∈ locs, s.heap.size ≤ q.base) → decode cL_law pc = .ok (.ireturn, 1) → W p l e R s m args below meth c H locs nc ns Q (F0 m pc ls [.int 1])
theorem band_rg (a b : Int) : rg (band a b) := ⟨Int32.le_toInt _, Int32.toInt_lt _⟩
set_option maxHeartbeats 4000000 in
set_option maxRecDepth 100000 in
theorem ctL_loop {y : gY} {z1 z2 : gZ} {l : Launch} {A : Nat → Prop} {b Ln : Nat} {xs : Nat → Int32} (hC : lC y l cL_law RL 4 lw_tbl room_1) (hE : lE y z1 z2 A b Ln xs) (hA : ∀ q, A q → y.2.2.2.2.1.heap.size ≤ q) (hZ1 : gZc z1) (hZ2 : gZm z2) (hR : lR y) :
    ∀ (n : Nat) (x3 : Int) (M N : gMem), fL_loop xs Ln n x3 M N → lW y A (lI z1 z2 A M N) 18 [some (.ref b), some (vr z1 0), some (vr z2 0), some (vi x3)] [] := by
  have hLn : Ln ≤ 4096 := by
    obtain ⟨p, l', e, R, s, m, args, below, meth, c, Q, nc, ns⟩ := y
    exact hE.2.2.2.2.2.2.2.2.2
  intro n
  induction n with
  | zero => intro x3 M N h; exact False.elim h
  | succ n ih =>
    intro x3 M N h
    obtain ⟨hx0, hx1, h⟩ := h
    have hK : ∀ M1 N1, fL_loop xs Ln n (x3 + 8) M1 N1 → lW y A (lI z1 z2 A M1 N1) 1120 [some (.ref b), some (vr z1 0), some (vr z2 0), some (vi x3)] [] := fun M1 N1 h1 => by
      refine l_iinc2 (lc' := [some (.ref b), some (vr z1 0), some (vr z2 0), some (vi (x3 + 8))]) hC dL_law_1120 rfl rfl ?_
      refine l_goto hC 18 dL_law_1123 (by decide) ?_
      exact ih (x3 + 8) M1 N1 h1
    refine l_iload_n hC dL_law_18 rfl rfl ?_
    refine l_aload_n hC dL_law_19 rfl rfl ?_
    refine l_slen hC hE dL_law_20 ?_
    refine l_bipush hC dL_law_21 (by decide) ?_
    refine l_isub hC dL_law_23 ?_
    refine l_cgt hC 1126 ⟨by omega, by omega⟩ ⟨by omega, by omega⟩ dL_law_24 (by decide) (fun hc => ?_) (fun hc => ?_)
    · refine l_iconst hC dL_law_1126 ?_
      obtain ⟨p, l', e, R, s, m, args, below, meth, c, Q, nc, ns⟩ := y
      intro H locs ls hH hS hl
      exact hR H locs ls _ (fun q hq => hA _ (hS.2.2 q hq)) dL_law_1127
    · replace h := h (by omega)
      refine l_aload_n hC dL_law_27 rfl rfl ?_
      refine l_iload_n hC dL_law_28 rfl rfl ?_
      refine l_sld hC hE (by omega) dL_law_29 ?_
      refine l_bipush hC dL_law_30 (by decide) ?_
      refine l_iand hC dL_law_32 ?_
      generalize hce : band (lSc xs x3) 31 = ce at h ⊢
      have hcr : rg ce := by rw [← hce]; exact band_rg _ _
      obtain ⟨hs0, hs1, hs2, hs3, hs4, hs5, hs6, hs7, hs8, hs9, hs10, hs11, hs12, hs13, hs14, hs15, hs16, hs17, hs18, hs19, hs20, hs21, hs22, hs23, hs24, hs25, hD⟩ := h
      have hq : (ce < 0 ∨ 25 < ce) ∨ ce = 0 ∨ ce = 1 ∨ ce = 2 ∨ ce = 3 ∨ ce = 4 ∨ ce = 5 ∨ ce = 6 ∨ ce = 7 ∨ ce = 8 ∨ ce = 9 ∨ ce = 10 ∨ ce = 11 ∨ ce = 12 ∨ ce = 13 ∨ ce = 14 ∨ ce = 15 ∨ ce = 16 ∨ ce = 17 ∨ ce = 18 ∨ ce = 19 ∨ ce = 20 ∨ ce = 21 ∨ ce = 22 ∨ ce = 23 ∨ ce = 24 ∨ ce = 25 := by omega
      rcases hq with hq | hq | hq | hq | hq | hq | hq | hq | hq | hq | hq | hq | hq | hq | hq | hq | hq | hq | hq | hq | hq | hq | hq | hq | hq | hq | hq
      · refine l_tswOut hC 1120 hcr dL_law_33 hq (by decide) ?_
        exact hK M N (hD hq)
      · refine l_tswIn (off := 119) hC 152 hcr dL_law_33 (by omega) (by omega) (by rw [hq]; rfl) (by decide) ?_
        exact ctL_case0 hC hE hZ1 hZ2 (by omega) hK (hs0 hq)
      · refine l_tswIn (off := 182) hC 215 hcr dL_law_33 (by omega) (by omega) (by rw [hq]; rfl) (by decide) ?_
        exact ctL_case1 hC hE hZ1 hZ2 (by omega) hK (hs1 hq)
      · refine l_tswIn (off := 205) hC 238 hcr dL_law_33 (by omega) (by omega) (by rw [hq]; rfl) (by decide) ?_
        exact ctL_case2 hC hE hZ1 hZ2 (by omega) hK (hs2 hq)
      · refine l_tswIn (off := 248) hC 281 hcr dL_law_33 (by omega) (by omega) (by rw [hq]; rfl) (by decide) ?_
        exact ctL_case3 hC hE hZ1 hZ2 (by omega) hK (hs3 hq)
      · refine l_tswIn (off := 301) hC 334 hcr dL_law_33 (by omega) (by omega) (by rw [hq]; rfl) (by decide) ?_
        exact ctL_case4 hC hE hZ1 hZ2 (by omega) hK (hs4 hq)
      · refine l_tswIn (off := 334) hC 367 hcr dL_law_33 (by omega) (by omega) (by rw [hq]; rfl) (by decide) ?_
        exact ctL_case5 hC hE hZ1 hZ2 (by omega) hK (hs5 hq)
      · refine l_tswIn (off := 367) hC 400 hcr dL_law_33 (by omega) (by omega) (by rw [hq]; rfl) (by decide) ?_
        exact ctL_case6 hC hE hZ1 hZ2 (by omega) hK (hs6 hq)
      · refine l_tswIn (off := 400) hC 433 hcr dL_law_33 (by omega) (by omega) (by rw [hq]; rfl) (by decide) ?_
        exact ctL_case7 hC hE hZ1 hZ2 (by omega) hK (hs7 hq)
      · refine l_tswIn (off := 503) hC 536 hcr dL_law_33 (by omega) (by omega) (by rw [hq]; rfl) (by decide) ?_
        exact ctL_case8 hC hE hZ1 hZ2 (by omega) hK (hs8 hq)
      · refine l_tswIn (off := 556) hC 589 hcr dL_law_33 (by omega) (by omega) (by rw [hq]; rfl) (by decide) ?_
        exact ctL_case9 hC hE hZ1 hZ2 (by omega) hK (hs9 hq)
      · refine l_tswIn (off := 599) hC 632 hcr dL_law_33 (by omega) (by omega) (by rw [hq]; rfl) (by decide) ?_
        exact ctL_case10 hC hE hZ1 hZ2 (by omega) hK (hs10 hq)
      · refine l_tswIn (off := 632) hC 665 hcr dL_law_33 (by omega) (by omega) (by rw [hq]; rfl) (by decide) ?_
        exact ctL_case11 hC hE hZ1 hZ2 (by omega) hK (hs11 hq)
      · refine l_tswIn (off := 675) hC 708 hcr dL_law_33 (by omega) (by omega) (by rw [hq]; rfl) (by decide) ?_
        exact ctL_case12 hC hE hZ1 hZ2 (by omega) hK (hs12 hq)
      · refine l_tswIn (off := 718) hC 751 hcr dL_law_33 (by omega) (by omega) (by rw [hq]; rfl) (by decide) ?_
        exact ctL_case13 hC hE hZ1 hZ2 (by omega) hK (hs13 hq)
      · refine l_tswIn (off := 761) hC 794 hcr dL_law_33 (by omega) (by omega) (by rw [hq]; rfl) (by decide) ?_
        exact ctL_case14 hC hE hZ1 hZ2 (by omega) hK (hs14 hq)
      · refine l_tswIn (off := 794) hC 827 hcr dL_law_33 (by omega) (by omega) (by rw [hq]; rfl) (by decide) ?_
        exact ctL_case15 hC hE hZ1 hZ2 (by omega) hK (hs15 hq)
      · refine l_tswIn (off := 817) hC 850 hcr dL_law_33 (by omega) (by omega) (by rw [hq]; rfl) (by decide) ?_
        exact ctL_case16 hC hE hZ1 hZ2 (by omega) hK (hs16 hq)
      · refine l_tswIn (off := 850) hC 883 hcr dL_law_33 (by omega) (by omega) (by rw [hq]; rfl) (by decide) ?_
        exact ctL_case17 hC hE hZ1 hZ2 (by omega) hK (hs17 hq)
      · refine l_tswIn (off := 873) hC 906 hcr dL_law_33 (by omega) (by omega) (by rw [hq]; rfl) (by decide) ?_
        exact ctL_case18 hC hE hZ1 hZ2 (by omega) hK (hs18 hq)
      · refine l_tswIn (off := 896) hC 929 hcr dL_law_33 (by omega) (by omega) (by rw [hq]; rfl) (by decide) ?_
        exact ctL_case19 hC hE hZ1 hZ2 (by omega) hK (hs19 hq)
      · refine l_tswIn (off := 919) hC 952 hcr dL_law_33 (by omega) (by omega) (by rw [hq]; rfl) (by decide) ?_
        exact ctL_case20 hC hE hZ1 hZ2 (by omega) hK (hs20 hq)
      · refine l_tswIn (off := 952) hC 985 hcr dL_law_33 (by omega) (by omega) (by rw [hq]; rfl) (by decide) ?_
        exact ctL_case21 hC hE hZ1 hZ2 (by omega) hK (hs21 hq)
      · refine l_tswIn (off := 985) hC 1018 hcr dL_law_33 (by omega) (by omega) (by rw [hq]; rfl) (by decide) ?_
        exact ctL_case22 hC hE hZ1 hZ2 (by omega) hK (hs22 hq)
      · refine l_tswIn (off := 1008) hC 1041 hcr dL_law_33 (by omega) (by omega) (by rw [hq]; rfl) (by decide) ?_
        exact ctL_case23 hC hE hZ1 hZ2 (by omega) hK (hs23 hq)
      · refine l_tswIn (off := 1041) hC 1074 hcr dL_law_33 (by omega) (by omega) (by rw [hq]; rfl) (by decide) ?_
        exact ctL_case24 hC hE hZ1 hZ2 (by omega) hK (hs24 hq)
      · refine l_tswIn (off := 1054) hC 1087 hcr dL_law_33 (by omega) (by omega) (by rw [hq]; rfl) (by decide) ?_
        exact ctL_case25 hC hE hZ1 hZ2 (by omega) hK (hs25 hq)
