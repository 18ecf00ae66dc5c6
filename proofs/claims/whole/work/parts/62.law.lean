section LC
variable {p : Program} {l : Launch} {e : Env} {s : State} {m : MethodId} {b Len : Nat} {xs : Nat → Int32} {below : List Frame} {meth : Method} {c : Code} {D : va_G} {aC : Nat → ClassId} {ad : Nat → Nat} {cells slots i : Nat} {G : GG}
theorem l_in {k : Nat} {v : Int32} (hv : v = nI k) (hk : k < 5) (hi : i + 5 ≤ Len) (hLen : Len ≤ 2560) : vp_in (nI i + v) Len := by
  subst hv
  rw [nI_add]
  exact vp_in_nI (by omega) (by omega)
set_option maxRecDepth 20000 in
theorem lc_0 (C : lw_At p s m meth c b Len xs) (hK : zK D aC s) (hi : i + 5 ≤ Len) (hLen : Len ≤ 2560) (hcs : cells ≤ 600000 ∧ slots ≤ 7302250) (hI : II G) (k : ∀ G', II G' → lJ p l e s m b below meth c D aC ad cells slots 878 [(3, .int (nI i)), (2, .ref (ad 49)), (1, .ref (ad 0)), (0, .ref b)] [] G') : lJ p l e s m b below meth c D aC ad cells slots 140 [(3, .int (nI i)), (2, .ref (ad 49)), (1, .ref (ad 0)), (0, .ref b)] [] G := by
  refine l_aload 2 C dL_law_140 rfl ?_
  refine l_aload 3 C dL_law_141 rfl ?_
  refine l_iload 0 C dL_law_142 rfl ?_
  refine l_iconst (v := 1) C dL_law_143 (by decide) ?_
  refine l_iadd C dL_law_144 ?_
  refine l_sld C dL_law_145 (l_in (k := 1) rfl (by omega) hi hLen) ?_
  refine l_aload 3 C dL_law_146 rfl ?_
  refine l_iload 0 C dL_law_147 rfl ?_
  refine l_iconst (v := 2) C dL_law_148 (by decide) ?_
  refine l_iadd C dL_law_149 ?_
  refine l_sld C dL_law_150 (l_in (k := 2) rfl (by omega) hi hLen) ?_
  refine l_calli (K' := kX7_source) (bp := 0) (As := [.int (xs (nI i + 1).toNatClampNeg), .int (xs (nI i + 2).toNatClampNeg)]) (S := []) C hK dL_law_151 (zm2 25 rfl rfl) ok_X7_source ⟨by decide, by decide⟩ ly_0 rfl rfl rfl (Nat.le_of_ble_eq_true rfl) hcs rfl rfl (pr_source hI) (fun r G1 h1 => ?_)
  refine l_aload 1 C dL_law_154 rfl ?_
  refine l_aload 3 C dL_law_155 rfl ?_
  refine l_iload 0 C dL_law_156 rfl ?_
  refine l_iconst (v := 1) C dL_law_157 (by decide) ?_
  refine l_iadd C dL_law_158 ?_
  refine l_sld C dL_law_159 (l_in (k := 1) rfl (by omega) hi hLen) ?_
  refine l_aload 3 C dL_law_160 rfl ?_
  refine l_iload 0 C dL_law_161 rfl ?_
  refine l_iconst (v := 2) C dL_law_162 (by decide) ?_
  refine l_iadd C dL_law_163 ?_
  refine l_sld C dL_law_164 (l_in (k := 2) rfl (by omega) hi hLen) ?_
  refine l_calli (K' := kX8_source) (bp := 49) (As := [.int (xs (nI i + 1).toNatClampNeg), .int (xs (nI i + 2).toNatClampNeg)]) (S := [.int r]) C hK dL_law_165 (zm3 233 rfl rfl) ok_X8_source ⟨by decide, by decide⟩ ly_49 rfl rfl rfl (Nat.le_of_ble_eq_true rfl) hcs rfl rfl (h1) (fun r2 G2 h2 => ?_)
  exact l_ieq 878 C dL_law_168 (by decide) h2.1.symm (k G2 h2.2)
set_option maxRecDepth 20000 in
theorem lc_1 (C : lw_At p s m meth c b Len xs) (hK : zK D aC s) (hi : i + 5 ≤ Len) (hLen : Len ≤ 2560) (hcs : cells ≤ 600000 ∧ slots ≤ 7302250) (hI : II G) (k : ∀ G', II G' → lJ p l e s m b below meth c D aC ad cells slots 878 [(3, .int (nI i)), (2, .ref (ad 49)), (1, .ref (ad 0)), (0, .ref b)] [] G') : lJ p l e s m b below meth c D aC ad cells slots 173 [(3, .int (nI i)), (2, .ref (ad 49)), (1, .ref (ad 0)), (0, .ref b)] [] G := by
  refine l_aload 2 C dL_law_173 rfl ?_
  refine l_aload 3 C dL_law_174 rfl ?_
  refine l_iload 0 C dL_law_175 rfl ?_
  refine l_iconst (v := 1) C dL_law_176 (by decide) ?_
  refine l_iadd C dL_law_177 ?_
  refine l_sld C dL_law_178 (l_in (k := 1) rfl (by omega) hi hLen) ?_
  refine l_aload 3 C dL_law_179 rfl ?_
  refine l_iload 0 C dL_law_180 rfl ?_
  refine l_iconst (v := 2) C dL_law_181 (by decide) ?_
  refine l_iadd C dL_law_182 ?_
  refine l_sld C dL_law_183 (l_in (k := 2) rfl (by omega) hi hLen) ?_
  refine l_calli (K' := kX7_line) (bp := 0) (As := [.int (xs (nI i + 1).toNatClampNeg), .int (xs (nI i + 2).toNatClampNeg)]) (S := []) C hK dL_law_184 (zm2 32 rfl rfl) ok_X7_line ⟨by decide, by decide⟩ ly_0 rfl rfl rfl (Nat.le_of_ble_eq_true rfl) hcs rfl rfl (pr_line hI) (fun r G1 h1 => ?_)
  refine l_aload 1 C dL_law_187 rfl ?_
  refine l_aload 3 C dL_law_188 rfl ?_
  refine l_iload 0 C dL_law_189 rfl ?_
  refine l_iconst (v := 1) C dL_law_190 (by decide) ?_
  refine l_iadd C dL_law_191 ?_
  refine l_sld C dL_law_192 (l_in (k := 1) rfl (by omega) hi hLen) ?_
  refine l_aload 3 C dL_law_193 rfl ?_
  refine l_iload 0 C dL_law_194 rfl ?_
  refine l_iconst (v := 2) C dL_law_195 (by decide) ?_
  refine l_iadd C dL_law_196 ?_
  refine l_sld C dL_law_197 (l_in (k := 2) rfl (by omega) hi hLen) ?_
  refine l_calli (K' := kX8_line) (bp := 49) (As := [.int (xs (nI i + 1).toNatClampNeg), .int (xs (nI i + 2).toNatClampNeg)]) (S := [.int r]) C hK dL_law_198 (zm4 0 rfl rfl) ok_X8_line ⟨by decide, by decide⟩ ly_49 rfl rfl rfl (Nat.le_of_ble_eq_true rfl) hcs rfl rfl (h1) (fun r2 G2 h2 => ?_)
  exact l_ieq 878 C dL_law_201 (by decide) h2.1.symm (k G2 h2.2)
set_option maxRecDepth 20000 in
theorem lc_2 (C : lw_At p s m meth c b Len xs) (hK : zK D aC s) (hi : i + 5 ≤ Len) (hLen : Len ≤ 2560) (hcs : cells ≤ 600000 ∧ slots ≤ 7302250) (hI : II G) (k : ∀ G', II G' → lJ p l e s m b below meth c D aC ad cells slots 878 [(3, .int (nI i)), (2, .ref (ad 49)), (1, .ref (ad 0)), (0, .ref b)] [] G') : lJ p l e s m b below meth c D aC ad cells slots 206 [(3, .int (nI i)), (2, .ref (ad 49)), (1, .ref (ad 0)), (0, .ref b)] [] G := by
  refine l_aload 2 C dL_law_206 rfl ?_
  refine l_aload 3 C dL_law_207 rfl ?_
  refine l_iload 0 C dL_law_208 rfl ?_
  refine l_iconst (v := 1) C dL_law_209 (by decide) ?_
  refine l_iadd C dL_law_210 ?_
  refine l_sld C dL_law_211 (l_in (k := 1) rfl (by omega) hi hLen) ?_
  refine l_aload 3 C dL_law_212 rfl ?_
  refine l_iload 0 C dL_law_213 rfl ?_
  refine l_iconst (v := 2) C dL_law_214 (by decide) ?_
  refine l_iadd C dL_law_215 ?_
  refine l_sld C dL_law_216 (l_in (k := 2) rfl (by omega) hi hLen) ?_
  refine l_calli (K' := kX7_load) (bp := 0) (As := [.int (xs (nI i + 1).toNatClampNeg), .int (xs (nI i + 2).toNatClampNeg)]) (S := []) C hK dL_law_217 (zm2 44 rfl rfl) ok_X7_load ⟨by decide, by decide⟩ ly_0 rfl rfl rfl (Nat.le_of_ble_eq_true rfl) hcs rfl rfl (pr_load hI) (fun r G1 h1 => ?_)
  refine l_aload 1 C dL_law_220 rfl ?_
  refine l_aload 3 C dL_law_221 rfl ?_
  refine l_iload 0 C dL_law_222 rfl ?_
  refine l_iconst (v := 1) C dL_law_223 (by decide) ?_
  refine l_iadd C dL_law_224 ?_
  refine l_sld C dL_law_225 (l_in (k := 1) rfl (by omega) hi hLen) ?_
  refine l_aload 3 C dL_law_226 rfl ?_
  refine l_iload 0 C dL_law_227 rfl ?_
  refine l_iconst (v := 2) C dL_law_228 (by decide) ?_
  refine l_iadd C dL_law_229 ?_
  refine l_sld C dL_law_230 (l_in (k := 2) rfl (by omega) hi hLen) ?_
  refine l_calli (K' := kX8_load) (bp := 49) (As := [.int (xs (nI i + 1).toNatClampNeg), .int (xs (nI i + 2).toNatClampNeg)]) (S := [.int r]) C hK dL_law_231 (zm4 4 rfl rfl) ok_X8_load ⟨by decide, by decide⟩ ly_49 rfl rfl rfl (Nat.le_of_ble_eq_true rfl) hcs rfl rfl (h1) (fun r2 G2 h2 => ?_)
  exact l_ieq 878 C dL_law_234 (by decide) h2.1.symm (k G2 h2.2)
set_option maxRecDepth 20000 in
theorem lc_3 (C : lw_At p s m meth c b Len xs) (hK : zK D aC s) (hi : i + 5 ≤ Len) (hLen : Len ≤ 2560) (hcs : cells ≤ 600000 ∧ slots ≤ 7302250) (hI : II G) (k : ∀ G', II G' → lJ p l e s m b below meth c D aC ad cells slots 878 [(3, .int (nI i)), (2, .ref (ad 49)), (1, .ref (ad 0)), (0, .ref b)] [] G') : lJ p l e s m b below meth c D aC ad cells slots 239 [(3, .int (nI i)), (2, .ref (ad 49)), (1, .ref (ad 0)), (0, .ref b)] [] G := by
  refine l_aload 2 C dL_law_239 rfl ?_
  refine l_aload 3 C dL_law_240 rfl ?_
  refine l_iload 0 C dL_law_241 rfl ?_
  refine l_iconst (v := 1) C dL_law_242 (by decide) ?_
  refine l_iadd C dL_law_243 ?_
  refine l_sld C dL_law_244 (l_in (k := 1) rfl (by omega) hi hLen) ?_
  refine l_aload 3 C dL_law_245 rfl ?_
  refine l_iload 0 C dL_law_246 rfl ?_
  refine l_iconst (v := 2) C dL_law_247 (by decide) ?_
  refine l_iadd C dL_law_248 ?_
  refine l_sld C dL_law_249 (l_in (k := 2) rfl (by omega) hi hLen) ?_
  refine l_aload 3 C dL_law_250 rfl ?_
  refine l_iload 0 C dL_law_251 rfl ?_
  refine l_iconst (v := 3) C dL_law_252 (by decide) ?_
  refine l_iadd C dL_law_253 ?_
  refine l_sld C dL_law_254 (l_in (k := 3) rfl (by omega) hi hLen) ?_
  refine l_calli (K' := kX7_corner) (bp := 0) (As := [.int (xs (nI i + 1).toNatClampNeg), .int (xs (nI i + 2).toNatClampNeg), .int (xs (nI i + 3).toNatClampNeg)]) (S := []) C hK dL_law_255 (zm2 48 rfl rfl) ok_X7_corner ⟨by decide, by decide⟩ ly_0 rfl rfl rfl (Nat.le_of_ble_eq_true rfl) hcs rfl rfl (pr_corner hI) (fun r G1 h1 => ?_)
  refine l_aload 1 C dL_law_258 rfl ?_
  refine l_aload 3 C dL_law_259 rfl ?_
  refine l_iload 0 C dL_law_260 rfl ?_
  refine l_iconst (v := 1) C dL_law_261 (by decide) ?_
  refine l_iadd C dL_law_262 ?_
  refine l_sld C dL_law_263 (l_in (k := 1) rfl (by omega) hi hLen) ?_
  refine l_aload 3 C dL_law_264 rfl ?_
  refine l_iload 0 C dL_law_265 rfl ?_
  refine l_iconst (v := 2) C dL_law_266 (by decide) ?_
  refine l_iadd C dL_law_267 ?_
  refine l_sld C dL_law_268 (l_in (k := 2) rfl (by omega) hi hLen) ?_
  refine l_aload 3 C dL_law_269 rfl ?_
  refine l_iload 0 C dL_law_270 rfl ?_
  refine l_iconst (v := 3) C dL_law_271 (by decide) ?_
  refine l_iadd C dL_law_272 ?_
  refine l_sld C dL_law_273 (l_in (k := 3) rfl (by omega) hi hLen) ?_
  refine l_calli (K' := kX8_corner) (bp := 49) (As := [.int (xs (nI i + 1).toNatClampNeg), .int (xs (nI i + 2).toNatClampNeg), .int (xs (nI i + 3).toNatClampNeg)]) (S := [.int r]) C hK dL_law_274 (zm4 8 rfl rfl) ok_X8_corner ⟨by decide, by decide⟩ ly_49 rfl rfl rfl (Nat.le_of_ble_eq_true rfl) hcs rfl rfl (h1) (fun r2 G2 h2 => ?_)
  exact l_ieq 878 C dL_law_277 (by decide) h2.1.symm (k G2 h2.2)
set_option maxRecDepth 20000 in
theorem lc_4 (C : lw_At p s m meth c b Len xs) (hK : zK D aC s) (hi : i + 5 ≤ Len) (hLen : Len ≤ 2560) (hcs : cells ≤ 600000 ∧ slots ≤ 7302250) (hI : II G) (k : ∀ G', II G' → lJ p l e s m b below meth c D aC ad cells slots 878 [(3, .int (nI i)), (2, .ref (ad 49)), (1, .ref (ad 0)), (0, .ref b)] [] G') : lJ p l e s m b below meth c D aC ad cells slots 282 [(3, .int (nI i)), (2, .ref (ad 49)), (1, .ref (ad 0)), (0, .ref b)] [] G := by
  refine l_aload 2 C dL_law_282 rfl ?_
  refine l_aload 3 C dL_law_283 rfl ?_
  refine l_iload 0 C dL_law_284 rfl ?_
  refine l_iconst (v := 1) C dL_law_285 (by decide) ?_
  refine l_iadd C dL_law_286 ?_
  refine l_sld C dL_law_287 (l_in (k := 1) rfl (by omega) hi hLen) ?_
  refine l_aload 3 C dL_law_288 rfl ?_
  refine l_iload 0 C dL_law_289 rfl ?_
  refine l_iconst (v := 2) C dL_law_290 (by decide) ?_
  refine l_iadd C dL_law_291 ?_
  refine l_sld C dL_law_292 (l_in (k := 2) rfl (by omega) hi hLen) ?_
  refine l_aload 3 C dL_law_293 rfl ?_
  refine l_iload 0 C dL_law_294 rfl ?_
  refine l_iconst (v := 3) C dL_law_295 (by decide) ?_
  refine l_iadd C dL_law_296 ?_
  refine l_sld C dL_law_297 (l_in (k := 3) rfl (by omega) hi hLen) ?_
  refine l_aload 3 C dL_law_298 rfl ?_
  refine l_iload 0 C dL_law_299 rfl ?_
  refine l_iconst (v := 4) C dL_law_300 (by decide) ?_
  refine l_iadd C dL_law_301 ?_
  refine l_sld C dL_law_302 (l_in (k := 4) rfl (by omega) hi hLen) ?_
  refine l_calli (K' := kX7_breaker) (bp := 0) (As := [.int (xs (nI i + 1).toNatClampNeg), .int (xs (nI i + 2).toNatClampNeg), .int (xs (nI i + 3).toNatClampNeg), .int (xs (nI i + 4).toNatClampNeg)]) (S := []) C hK dL_law_303 (zm2 57 rfl rfl) ok_X7_breaker ⟨by decide, by decide⟩ ly_0 rfl rfl rfl (Nat.le_of_ble_eq_true rfl) hcs rfl rfl (pr_breaker hI) (fun r G1 h1 => ?_)
  refine l_aload 1 C dL_law_306 rfl ?_
  refine l_aload 3 C dL_law_307 rfl ?_
  refine l_iload 0 C dL_law_308 rfl ?_
  refine l_iconst (v := 1) C dL_law_309 (by decide) ?_
  refine l_iadd C dL_law_310 ?_
  refine l_sld C dL_law_311 (l_in (k := 1) rfl (by omega) hi hLen) ?_
  refine l_aload 3 C dL_law_312 rfl ?_
  refine l_iload 0 C dL_law_313 rfl ?_
  refine l_iconst (v := 2) C dL_law_314 (by decide) ?_
  refine l_iadd C dL_law_315 ?_
  refine l_sld C dL_law_316 (l_in (k := 2) rfl (by omega) hi hLen) ?_
  refine l_aload 3 C dL_law_317 rfl ?_
  refine l_iload 0 C dL_law_318 rfl ?_
  refine l_iconst (v := 3) C dL_law_319 (by decide) ?_
  refine l_iadd C dL_law_320 ?_
  refine l_sld C dL_law_321 (l_in (k := 3) rfl (by omega) hi hLen) ?_
  refine l_aload 3 C dL_law_322 rfl ?_
  refine l_iload 0 C dL_law_323 rfl ?_
  refine l_iconst (v := 4) C dL_law_324 (by decide) ?_
  refine l_iadd C dL_law_325 ?_
  refine l_sld C dL_law_326 (l_in (k := 4) rfl (by omega) hi hLen) ?_
  refine l_calli (K' := kX8_breaker) (bp := 49) (As := [.int (xs (nI i + 1).toNatClampNeg), .int (xs (nI i + 2).toNatClampNeg), .int (xs (nI i + 3).toNatClampNeg), .int (xs (nI i + 4).toNatClampNeg)]) (S := [.int r]) C hK dL_law_327 (zm4 12 rfl rfl) ok_X8_breaker ⟨by decide, by decide⟩ ly_49 rfl rfl rfl (Nat.le_of_ble_eq_true rfl) hcs rfl rfl (h1) (fun r2 G2 h2 => ?_)
  exact l_ieq 878 C dL_law_330 (by decide) h2.1.symm (k G2 h2.2)
set_option maxRecDepth 20000 in
theorem lc_5 (C : lw_At p s m meth c b Len xs) (hK : zK D aC s) (hi : i + 5 ≤ Len) (hLen : Len ≤ 2560) (hcs : cells ≤ 600000 ∧ slots ≤ 7302250) (hI : II G) (k : ∀ G', II G' → lJ p l e s m b below meth c D aC ad cells slots 878 [(3, .int (nI i)), (2, .ref (ad 49)), (1, .ref (ad 0)), (0, .ref b)] [] G') : lJ p l e s m b below meth c D aC ad cells slots 335 [(3, .int (nI i)), (2, .ref (ad 49)), (1, .ref (ad 0)), (0, .ref b)] [] G := by
  refine l_aload 2 C dL_law_335 rfl ?_
  refine l_aload 3 C dL_law_336 rfl ?_
  refine l_iload 0 C dL_law_337 rfl ?_
  refine l_iconst (v := 1) C dL_law_338 (by decide) ?_
  refine l_iadd C dL_law_339 ?_
  refine l_sld C dL_law_340 (l_in (k := 1) rfl (by omega) hi hLen) ?_
  refine l_calli (K' := kX7_remove) (bp := 0) (As := [.int (xs (nI i + 1).toNatClampNeg)]) (S := []) C hK dL_law_341 (zm2 69 rfl rfl) ok_X7_remove ⟨by decide, by decide⟩ ly_0 rfl rfl rfl (Nat.le_of_ble_eq_true rfl) hcs rfl rfl (pr_remove hI) (fun r G1 h1 => ?_)
  refine l_aload 1 C dL_law_344 rfl ?_
  refine l_aload 3 C dL_law_345 rfl ?_
  refine l_iload 0 C dL_law_346 rfl ?_
  refine l_iconst (v := 1) C dL_law_347 (by decide) ?_
  refine l_iadd C dL_law_348 ?_
  refine l_sld C dL_law_349 (l_in (k := 1) rfl (by omega) hi hLen) ?_
  refine l_calli (K' := kX8_remove) (bp := 49) (As := [.int (xs (nI i + 1).toNatClampNeg)]) (S := [.int r]) C hK dL_law_350 (zm4 20 rfl rfl) ok_X8_remove ⟨by decide, by decide⟩ ly_49 rfl rfl rfl (Nat.le_of_ble_eq_true rfl) hcs rfl rfl (h1) (fun r2 G2 h2 => ?_)
  exact l_ieq 878 C dL_law_353 (by decide) h2.1.symm (k G2 h2.2)
set_option maxRecDepth 20000 in
theorem lc_6 (C : lw_At p s m meth c b Len xs) (hK : zK D aC s) (hi : i + 5 ≤ Len) (hLen : Len ≤ 2560) (hcs : cells ≤ 600000 ∧ slots ≤ 7302250) (hI : II G) (k : ∀ G', II G' → lJ p l e s m b below meth c D aC ad cells slots 878 [(3, .int (nI i)), (2, .ref (ad 49)), (1, .ref (ad 0)), (0, .ref b)] [] G') : lJ p l e s m b below meth c D aC ad cells slots 358 [(3, .int (nI i)), (2, .ref (ad 49)), (1, .ref (ad 0)), (0, .ref b)] [] G := by
  refine l_aload 2 C dL_law_358 rfl ?_
  refine l_aload 3 C dL_law_359 rfl ?_
  refine l_iload 0 C dL_law_360 rfl ?_
  refine l_iconst (v := 1) C dL_law_361 (by decide) ?_
  refine l_iadd C dL_law_362 ?_
  refine l_sld C dL_law_363 (l_in (k := 1) rfl (by omega) hi hLen) ?_
  refine l_aload 3 C dL_law_364 rfl ?_
  refine l_iload 0 C dL_law_365 rfl ?_
  refine l_iconst (v := 2) C dL_law_366 (by decide) ?_
  refine l_iadd C dL_law_367 ?_
  refine l_sld C dL_law_368 (l_in (k := 2) rfl (by omega) hi hLen) ?_
  refine l_calli (K' := kX7_dial) (bp := 0) (As := [.int (xs (nI i + 1).toNatClampNeg), .int (xs (nI i + 2).toNatClampNeg)]) (S := []) C hK dL_law_369 (zm2 84 rfl rfl) ok_X7_dial ⟨by decide, by decide⟩ ly_0 rfl rfl rfl (Nat.le_of_ble_eq_true rfl) hcs rfl rfl (pr_dial hI) (fun r G1 h1 => ?_)
  refine l_aload 1 C dL_law_372 rfl ?_
  refine l_aload 3 C dL_law_373 rfl ?_
  refine l_iload 0 C dL_law_374 rfl ?_
  refine l_iconst (v := 1) C dL_law_375 (by decide) ?_
  refine l_iadd C dL_law_376 ?_
  refine l_sld C dL_law_377 (l_in (k := 1) rfl (by omega) hi hLen) ?_
  refine l_aload 3 C dL_law_378 rfl ?_
  refine l_iload 0 C dL_law_379 rfl ?_
  refine l_iconst (v := 2) C dL_law_380 (by decide) ?_
  refine l_iadd C dL_law_381 ?_
  refine l_sld C dL_law_382 (l_in (k := 2) rfl (by omega) hi hLen) ?_
  refine l_calli (K' := kX8_dial) (bp := 49) (As := [.int (xs (nI i + 1).toNatClampNeg), .int (xs (nI i + 2).toNatClampNeg)]) (S := [.int r]) C hK dL_law_383 (zm4 28 rfl rfl) ok_X8_dial ⟨by decide, by decide⟩ ly_49 rfl rfl rfl (Nat.le_of_ble_eq_true rfl) hcs rfl rfl (h1) (fun r2 G2 h2 => ?_)
  exact l_ieq 878 C dL_law_386 (by decide) h2.1.symm (k G2 h2.2)
set_option maxRecDepth 20000 in
theorem lc_7 (C : lw_At p s m meth c b Len xs) (hK : zK D aC s) (hi : i + 5 ≤ Len) (hLen : Len ≤ 2560) (hcs : cells ≤ 600000 ∧ slots ≤ 7302250) (hI : II G) (k : ∀ G', II G' → lJ p l e s m b below meth c D aC ad cells slots 878 [(3, .int (nI i)), (2, .ref (ad 49)), (1, .ref (ad 0)), (0, .ref b)] [] G') : lJ p l e s m b below meth c D aC ad cells slots 391 [(3, .int (nI i)), (2, .ref (ad 49)), (1, .ref (ad 0)), (0, .ref b)] [] G := by
  by_cases hx : xs (nI i + 2).toNatClampNeg = 0
  · refine l_aload 2 C dL_law_391 rfl ?_
    refine l_aload 3 C dL_law_392 rfl ?_
    refine l_iload 0 C dL_law_393 rfl ?_
    refine l_iconst (v := 1) C dL_law_394 (by decide) ?_
    refine l_iadd C dL_law_395 ?_
    refine l_sld C dL_law_396 (l_in (k := 1) rfl (by omega) hi hLen) ?_
    refine l_aload 3 C dL_law_397 rfl ?_
    refine l_iload 0 C dL_law_398 rfl ?_
    refine l_iconst (v := 2) C dL_law_399 (by decide) ?_
    refine l_iadd C dL_law_400 ?_
    refine l_sld C dL_law_401 (l_in (k := 2) rfl (by omega) hi hLen) ?_
    refine l_if0 409 C dL_law_402 (by decide) (fun _ => ?_) (fun z => absurd hx z)
    refine l_iconst (v := 0) C dL_law_409 (by decide) ?_
    refine l_calli (K' := kX7_fails) (bp := 0) (As := [.int (xs (nI i + 1).toNatClampNeg), .int 0]) (S := []) C hK dL_law_410 (zm2 88 rfl rfl) ok_X7_fails ⟨by decide, by decide⟩ ly_0 rfl rfl rfl (Nat.le_of_ble_eq_true rfl) hcs rfl rfl (pr_fails (Or.inl rfl) hI) (fun r G1 h1 => ?_)
    refine l_aload 1 C dL_law_413 rfl ?_
    refine l_aload 3 C dL_law_414 rfl ?_
    refine l_iload 0 C dL_law_415 rfl ?_
    refine l_iconst (v := 1) C dL_law_416 (by decide) ?_
    refine l_iadd C dL_law_417 ?_
    refine l_sld C dL_law_418 (l_in (k := 1) rfl (by omega) hi hLen) ?_
    refine l_aload 3 C dL_law_419 rfl ?_
    refine l_iload 0 C dL_law_420 rfl ?_
    refine l_iconst (v := 2) C dL_law_421 (by decide) ?_
    refine l_iadd C dL_law_422 ?_
    refine l_sld C dL_law_423 (l_in (k := 2) rfl (by omega) hi hLen) ?_
    refine l_if0 431 C dL_law_424 (by decide) (fun _ => ?_) (fun z => absurd hx z)
    refine l_iconst (v := 0) C dL_law_431 (by decide) ?_
    refine l_calli (K' := kX8_fails) (bp := 49) (As := [.int (xs (nI i + 1).toNatClampNeg), .int 0]) (S := [.int r]) C hK dL_law_432 (zm4 32 rfl rfl) ok_X8_fails ⟨by decide, by decide⟩ ly_49 rfl rfl rfl (Nat.le_of_ble_eq_true rfl) hcs rfl rfl (h1) (fun r2 G2 h2 => ?_)
    exact l_ieq 878 C dL_law_435 (by decide) h2.1.symm (k G2 h2.2)
  · refine l_aload 2 C dL_law_391 rfl ?_
    refine l_aload 3 C dL_law_392 rfl ?_
    refine l_iload 0 C dL_law_393 rfl ?_
    refine l_iconst (v := 1) C dL_law_394 (by decide) ?_
    refine l_iadd C dL_law_395 ?_
    refine l_sld C dL_law_396 (l_in (k := 1) rfl (by omega) hi hLen) ?_
    refine l_aload 3 C dL_law_397 rfl ?_
    refine l_iload 0 C dL_law_398 rfl ?_
    refine l_iconst (v := 2) C dL_law_399 (by decide) ?_
    refine l_iadd C dL_law_400 ?_
    refine l_sld C dL_law_401 (l_in (k := 2) rfl (by omega) hi hLen) ?_
    refine l_if0 409 C dL_law_402 (by decide) (fun z => absurd z hx) (fun _ => ?_)
    refine l_iconst (v := 1) C dL_law_405 (by decide) ?_
    refine l_goto 410 C dL_law_406 (by decide) ?_
    refine l_calli (K' := kX7_fails) (bp := 0) (As := [.int (xs (nI i + 1).toNatClampNeg), .int 1]) (S := []) C hK dL_law_410 (zm2 88 rfl rfl) ok_X7_fails ⟨by decide, by decide⟩ ly_0 rfl rfl rfl (Nat.le_of_ble_eq_true rfl) hcs rfl rfl (pr_fails (Or.inr rfl) hI) (fun r G1 h1 => ?_)
    refine l_aload 1 C dL_law_413 rfl ?_
    refine l_aload 3 C dL_law_414 rfl ?_
    refine l_iload 0 C dL_law_415 rfl ?_
    refine l_iconst (v := 1) C dL_law_416 (by decide) ?_
    refine l_iadd C dL_law_417 ?_
    refine l_sld C dL_law_418 (l_in (k := 1) rfl (by omega) hi hLen) ?_
    refine l_aload 3 C dL_law_419 rfl ?_
    refine l_iload 0 C dL_law_420 rfl ?_
    refine l_iconst (v := 2) C dL_law_421 (by decide) ?_
    refine l_iadd C dL_law_422 ?_
    refine l_sld C dL_law_423 (l_in (k := 2) rfl (by omega) hi hLen) ?_
    refine l_if0 431 C dL_law_424 (by decide) (fun z => absurd z hx) (fun _ => ?_)
    refine l_iconst (v := 1) C dL_law_427 (by decide) ?_
    refine l_goto 432 C dL_law_428 (by decide) ?_
    refine l_calli (K' := kX8_fails) (bp := 49) (As := [.int (xs (nI i + 1).toNatClampNeg), .int 1]) (S := [.int r]) C hK dL_law_432 (zm4 32 rfl rfl) ok_X8_fails ⟨by decide, by decide⟩ ly_49 rfl rfl rfl (Nat.le_of_ble_eq_true rfl) hcs rfl rfl (h1) (fun r2 G2 h2 => ?_)
    exact l_ieq 878 C dL_law_435 (by decide) h2.1.symm (k G2 h2.2)
set_option maxRecDepth 20000 in
theorem lc_8 (C : lw_At p s m meth c b Len xs) (hK : zK D aC s) (hi : i + 5 ≤ Len) (hLen : Len ≤ 2560) (hcs : cells ≤ 600000 ∧ slots ≤ 7302250) (hI : II G) (k : ∀ G', II G' → lJ p l e s m b below meth c D aC ad cells slots 878 [(3, .int (nI i)), (2, .ref (ad 49)), (1, .ref (ad 0)), (0, .ref b)] [] G') : lJ p l e s m b below meth c D aC ad cells slots 440 [(3, .int (nI i)), (2, .ref (ad 49)), (1, .ref (ad 0)), (0, .ref b)] [] G := by
  refine l_aload 2 C dL_law_440 rfl ?_
  refine l_aload 3 C dL_law_441 rfl ?_
  refine l_iload 0 C dL_law_442 rfl ?_
  refine l_iconst (v := 1) C dL_law_443 (by decide) ?_
  refine l_iadd C dL_law_444 ?_
  refine l_sld C dL_law_445 (l_in (k := 1) rfl (by omega) hi hLen) ?_
  refine l_aload 3 C dL_law_446 rfl ?_
  refine l_iload 0 C dL_law_447 rfl ?_
  refine l_iconst (v := 2) C dL_law_448 (by decide) ?_
  refine l_iadd C dL_law_449 ?_
  refine l_sld C dL_law_450 (l_in (k := 2) rfl (by omega) hi hLen) ?_
  refine l_aload 3 C dL_law_451 rfl ?_
  refine l_iload 0 C dL_law_452 rfl ?_
  refine l_iconst (v := 3) C dL_law_453 (by decide) ?_
  refine l_iadd C dL_law_454 ?_
  refine l_sld C dL_law_455 (l_in (k := 3) rfl (by omega) hi hLen) ?_
  refine l_calli (K' := kX7_told) (bp := 0) (As := [.int (xs (nI i + 1).toNatClampNeg), .int (xs (nI i + 2).toNatClampNeg), .int (xs (nI i + 3).toNatClampNeg)]) (S := []) C hK dL_law_456 (zm2 96 rfl rfl) ok_X7_told ⟨by decide, by decide⟩ ly_0 rfl rfl rfl (Nat.le_of_ble_eq_true rfl) hcs rfl rfl (pr_told hI) (fun r G1 h1 => ?_)
  refine l_aload 1 C dL_law_459 rfl ?_
  refine l_aload 3 C dL_law_460 rfl ?_
  refine l_iload 0 C dL_law_461 rfl ?_
  refine l_iconst (v := 1) C dL_law_462 (by decide) ?_
  refine l_iadd C dL_law_463 ?_
  refine l_sld C dL_law_464 (l_in (k := 1) rfl (by omega) hi hLen) ?_
  refine l_aload 3 C dL_law_465 rfl ?_
  refine l_iload 0 C dL_law_466 rfl ?_
  refine l_iconst (v := 2) C dL_law_467 (by decide) ?_
  refine l_iadd C dL_law_468 ?_
  refine l_sld C dL_law_469 (l_in (k := 2) rfl (by omega) hi hLen) ?_
  refine l_aload 3 C dL_law_470 rfl ?_
  refine l_iload 0 C dL_law_471 rfl ?_
  refine l_iconst (v := 3) C dL_law_472 (by decide) ?_
  refine l_iadd C dL_law_473 ?_
  refine l_sld C dL_law_474 (l_in (k := 3) rfl (by omega) hi hLen) ?_
  refine l_calli (K' := kX8_told) (bp := 49) (As := [.int (xs (nI i + 1).toNatClampNeg), .int (xs (nI i + 2).toNatClampNeg), .int (xs (nI i + 3).toNatClampNeg)]) (S := [.int r]) C hK dL_law_475 (zm4 36 rfl rfl) ok_X8_told ⟨by decide, by decide⟩ ly_49 rfl rfl rfl (Nat.le_of_ble_eq_true rfl) hcs rfl rfl (h1) (fun r2 G2 h2 => ?_)
  exact l_ieq 878 C dL_law_478 (by decide) h2.1.symm (k G2 h2.2)
set_option maxRecDepth 20000 in
theorem lc_9 (C : lw_At p s m meth c b Len xs) (hK : zK D aC s) (hi : i + 5 ≤ Len) (hLen : Len ≤ 2560) (hcs : cells ≤ 600000 ∧ slots ≤ 7302250) (hI : II G) (k : ∀ G', II G' → lJ p l e s m b below meth c D aC ad cells slots 878 [(3, .int (nI i)), (2, .ref (ad 49)), (1, .ref (ad 0)), (0, .ref b)] [] G') : lJ p l e s m b below meth c D aC ad cells slots 483 [(3, .int (nI i)), (2, .ref (ad 49)), (1, .ref (ad 0)), (0, .ref b)] [] G := by
  refine l_aload 2 C dL_law_483 rfl ?_
  refine l_aload 3 C dL_law_484 rfl ?_
  refine l_iload 0 C dL_law_485 rfl ?_
  refine l_iconst (v := 1) C dL_law_486 (by decide) ?_
  refine l_iadd C dL_law_487 ?_
  refine l_sld C dL_law_488 (l_in (k := 1) rfl (by omega) hi hLen) ?_
  refine l_aload 3 C dL_law_489 rfl ?_
  refine l_iload 0 C dL_law_490 rfl ?_
  refine l_iconst (v := 2) C dL_law_491 (by decide) ?_
  refine l_iadd C dL_law_492 ?_
  refine l_sld C dL_law_493 (l_in (k := 2) rfl (by omega) hi hLen) ?_
  refine l_calli (K' := kX7_lineOf) (bp := 0) (As := [.int (xs (nI i + 1).toNatClampNeg), .int (xs (nI i + 2).toNatClampNeg)]) (S := []) C hK dL_law_494 (zm2 101 rfl rfl) ok_X7_lineOf ⟨by decide, by decide⟩ ly_0 rfl rfl rfl (Nat.le_of_ble_eq_true rfl) hcs rfl rfl (pr_lineOf hI) (fun r G1 h1 => ?_)
  refine l_aload 1 C dL_law_497 rfl ?_
  refine l_aload 3 C dL_law_498 rfl ?_
  refine l_iload 0 C dL_law_499 rfl ?_
  refine l_iconst (v := 1) C dL_law_500 (by decide) ?_
  refine l_iadd C dL_law_501 ?_
  refine l_sld C dL_law_502 (l_in (k := 1) rfl (by omega) hi hLen) ?_
  refine l_aload 3 C dL_law_503 rfl ?_
  refine l_iload 0 C dL_law_504 rfl ?_
  refine l_iconst (v := 2) C dL_law_505 (by decide) ?_
  refine l_iadd C dL_law_506 ?_
  refine l_sld C dL_law_507 (l_in (k := 2) rfl (by omega) hi hLen) ?_
  refine l_calli (K' := kX8_lineOf) (bp := 49) (As := [.int (xs (nI i + 1).toNatClampNeg), .int (xs (nI i + 2).toNatClampNeg)]) (S := [.int r]) C hK dL_law_508 (zm4 94 rfl rfl) ok_X8_lineOf ⟨by decide, by decide⟩ ly_49 rfl rfl rfl (Nat.le_of_ble_eq_true rfl) hcs rfl rfl (h1) (fun r2 G2 h2 => ?_)
  exact l_ieq 878 C dL_law_511 (by decide) h2.1.symm (k G2 h2.2)
set_option maxRecDepth 20000 in
theorem lc_10 (C : lw_At p s m meth c b Len xs) (hK : zK D aC s) (hi : i + 5 ≤ Len) (hLen : Len ≤ 2560) (hcs : cells ≤ 600000 ∧ slots ≤ 7302250) (hI : II G) (k : ∀ G', II G' → lJ p l e s m b below meth c D aC ad cells slots 878 [(3, .int (nI i)), (2, .ref (ad 49)), (1, .ref (ad 0)), (0, .ref b)] [] G') : lJ p l e s m b below meth c D aC ad cells slots 516 [(3, .int (nI i)), (2, .ref (ad 49)), (1, .ref (ad 0)), (0, .ref b)] [] G := by
  refine l_aload 2 C dL_law_516 rfl ?_
  refine l_aload 3 C dL_law_517 rfl ?_
  refine l_iload 0 C dL_law_518 rfl ?_
  refine l_iconst (v := 1) C dL_law_519 (by decide) ?_
  refine l_iadd C dL_law_520 ?_
  refine l_sld C dL_law_521 (l_in (k := 1) rfl (by omega) hi hLen) ?_
  refine l_aload 3 C dL_law_522 rfl ?_
  refine l_iload 0 C dL_law_523 rfl ?_
  refine l_iconst (v := 2) C dL_law_524 (by decide) ?_
  refine l_iadd C dL_law_525 ?_
  refine l_sld C dL_law_526 (l_in (k := 2) rfl (by omega) hi hLen) ?_
  refine l_aload 3 C dL_law_527 rfl ?_
  refine l_iload 0 C dL_law_528 rfl ?_
  refine l_iconst (v := 3) C dL_law_529 (by decide) ?_
  refine l_iadd C dL_law_530 ?_
  refine l_sld C dL_law_531 (l_in (k := 3) rfl (by omega) hi hLen) ?_
  refine l_aload 3 C dL_law_532 rfl ?_
  refine l_iload 0 C dL_law_533 rfl ?_
  refine l_iconst (v := 4) C dL_law_534 (by decide) ?_
  refine l_iadd C dL_law_535 ?_
  refine l_sld C dL_law_536 (l_in (k := 4) rfl (by omega) hi hLen) ?_
  refine l_calll (K' := kX7_fault) (bp := 0) (As := [.int (xs (nI i + 1).toNatClampNeg), .int (xs (nI i + 2).toNatClampNeg), .int (xs (nI i + 3).toNatClampNeg), .int (xs (nI i + 4).toNatClampNeg)]) (S := []) C hK dL_law_537 (zm2 130 rfl rfl) ok_X7_fault ⟨by decide, by decide⟩ ly_0 rfl rfl rfl (Nat.le_of_ble_eq_true rfl) hcs rfl rfl (pr_fault hI) (fun r G1 h1 => ?_)
  refine l_aload 1 C dL_law_540 rfl ?_
  refine l_aload 3 C dL_law_541 rfl ?_
  refine l_iload 0 C dL_law_542 rfl ?_
  refine l_iconst (v := 1) C dL_law_543 (by decide) ?_
  refine l_iadd C dL_law_544 ?_
  refine l_sld C dL_law_545 (l_in (k := 1) rfl (by omega) hi hLen) ?_
  refine l_aload 3 C dL_law_546 rfl ?_
  refine l_iload 0 C dL_law_547 rfl ?_
  refine l_iconst (v := 2) C dL_law_548 (by decide) ?_
  refine l_iadd C dL_law_549 ?_
  refine l_sld C dL_law_550 (l_in (k := 2) rfl (by omega) hi hLen) ?_
  refine l_aload 3 C dL_law_551 rfl ?_
  refine l_iload 0 C dL_law_552 rfl ?_
  refine l_iconst (v := 3) C dL_law_553 (by decide) ?_
  refine l_iadd C dL_law_554 ?_
  refine l_sld C dL_law_555 (l_in (k := 3) rfl (by omega) hi hLen) ?_
  refine l_aload 3 C dL_law_556 rfl ?_
  refine l_iload 0 C dL_law_557 rfl ?_
  refine l_iconst (v := 4) C dL_law_558 (by decide) ?_
  refine l_iadd C dL_law_559 ?_
  refine l_sld C dL_law_560 (l_in (k := 4) rfl (by omega) hi hLen) ?_
  refine l_calll (K' := kX8_fault) (bp := 49) (As := [.int (xs (nI i + 1).toNatClampNeg), .int (xs (nI i + 2).toNatClampNeg), .int (xs (nI i + 3).toNatClampNeg), .int (xs (nI i + 4).toNatClampNeg)]) (S := [.long r]) C hK dL_law_561 (zm4 40 rfl rfl) ok_X8_fault ⟨by decide, by decide⟩ ly_49 rfl rfl rfl (Nat.le_of_ble_eq_true rfl) hcs rfl rfl (h1) (fun r2 G2 h2 => ?_)
  exact l_leq 878 C dL_law_564 dL_law_565 (by decide) h2.1.symm (k G2 h2.2)
set_option maxRecDepth 20000 in
theorem lc_11 (C : lw_At p s m meth c b Len xs) (hK : zK D aC s) (hi : i + 5 ≤ Len) (hLen : Len ≤ 2560) (hcs : cells ≤ 600000 ∧ slots ≤ 7302250) (hI : II G) (k : ∀ G', II G' → lJ p l e s m b below meth c D aC ad cells slots 878 [(3, .int (nI i)), (2, .ref (ad 49)), (1, .ref (ad 0)), (0, .ref b)] [] G') : lJ p l e s m b below meth c D aC ad cells slots 570 [(3, .int (nI i)), (2, .ref (ad 49)), (1, .ref (ad 0)), (0, .ref b)] [] G := by
  refine l_aload 2 C dL_law_570 rfl ?_
  refine l_aload 3 C dL_law_571 rfl ?_
  refine l_iload 0 C dL_law_572 rfl ?_
  refine l_iconst (v := 1) C dL_law_573 (by decide) ?_
  refine l_iadd C dL_law_574 ?_
  refine l_sld C dL_law_575 (l_in (k := 1) rfl (by omega) hi hLen) ?_
  refine l_aload 3 C dL_law_576 rfl ?_
  refine l_iload 0 C dL_law_577 rfl ?_
  refine l_iconst (v := 2) C dL_law_578 (by decide) ?_
  refine l_iadd C dL_law_579 ?_
  refine l_sld C dL_law_580 (l_in (k := 2) rfl (by omega) hi hLen) ?_
  refine l_aload 3 C dL_law_581 rfl ?_
  refine l_iload 0 C dL_law_582 rfl ?_
  refine l_iconst (v := 3) C dL_law_583 (by decide) ?_
  refine l_iadd C dL_law_584 ?_
  refine l_sld C dL_law_585 (l_in (k := 3) rfl (by omega) hi hLen) ?_
  refine l_aload 3 C dL_law_586 rfl ?_
  refine l_iload 0 C dL_law_587 rfl ?_
  refine l_iconst (v := 4) C dL_law_588 (by decide) ?_
  refine l_iadd C dL_law_589 ?_
  refine l_sld C dL_law_590 (l_in (k := 4) rfl (by omega) hi hLen) ?_
  refine l_calli (K' := kX7_waits) (bp := 0) (As := [.int (xs (nI i + 1).toNatClampNeg), .int (xs (nI i + 2).toNatClampNeg), .int (xs (nI i + 3).toNatClampNeg), .int (xs (nI i + 4).toNatClampNeg)]) (S := []) C hK dL_law_591 (zm2 151 rfl rfl) ok_X7_waits ⟨by decide, by decide⟩ ly_0 rfl rfl rfl (Nat.le_of_ble_eq_true rfl) hcs rfl rfl (pr_waits hI) (fun r G1 h1 => ?_)
  refine l_aload 1 C dL_law_594 rfl ?_
  refine l_aload 3 C dL_law_595 rfl ?_
  refine l_iload 0 C dL_law_596 rfl ?_
  refine l_iconst (v := 1) C dL_law_597 (by decide) ?_
  refine l_iadd C dL_law_598 ?_
  refine l_sld C dL_law_599 (l_in (k := 1) rfl (by omega) hi hLen) ?_
  refine l_aload 3 C dL_law_600 rfl ?_
  refine l_iload 0 C dL_law_601 rfl ?_
  refine l_iconst (v := 2) C dL_law_602 (by decide) ?_
  refine l_iadd C dL_law_603 ?_
  refine l_sld C dL_law_604 (l_in (k := 2) rfl (by omega) hi hLen) ?_
  refine l_aload 3 C dL_law_605 rfl ?_
  refine l_iload 0 C dL_law_606 rfl ?_
  refine l_iconst (v := 3) C dL_law_607 (by decide) ?_
  refine l_iadd C dL_law_608 ?_
  refine l_sld C dL_law_609 (l_in (k := 3) rfl (by omega) hi hLen) ?_
  refine l_aload 3 C dL_law_610 rfl ?_
  refine l_iload 0 C dL_law_611 rfl ?_
  refine l_iconst (v := 4) C dL_law_612 (by decide) ?_
  refine l_iadd C dL_law_613 ?_
  refine l_sld C dL_law_614 (l_in (k := 4) rfl (by omega) hi hLen) ?_
  refine l_calli (K' := kX8_waits) (bp := 49) (As := [.int (xs (nI i + 1).toNatClampNeg), .int (xs (nI i + 2).toNatClampNeg), .int (xs (nI i + 3).toNatClampNeg), .int (xs (nI i + 4).toNatClampNeg)]) (S := [.int r]) C hK dL_law_615 (zm4 55 rfl rfl) ok_X8_waits ⟨by decide, by decide⟩ ly_49 rfl rfl rfl (Nat.le_of_ble_eq_true rfl) hcs rfl rfl (h1) (fun r2 G2 h2 => ?_)
  exact l_ieq 878 C dL_law_618 (by decide) h2.1.symm (k G2 h2.2)
set_option maxRecDepth 20000 in
theorem lc_12 (C : lw_At p s m meth c b Len xs) (hK : zK D aC s) (hi : i + 5 ≤ Len) (hLen : Len ≤ 2560) (hcs : cells ≤ 600000 ∧ slots ≤ 7302250) (hI : II G) (k : ∀ G', II G' → lJ p l e s m b below meth c D aC ad cells slots 878 [(3, .int (nI i)), (2, .ref (ad 49)), (1, .ref (ad 0)), (0, .ref b)] [] G') : lJ p l e s m b below meth c D aC ad cells slots 623 [(3, .int (nI i)), (2, .ref (ad 49)), (1, .ref (ad 0)), (0, .ref b)] [] G := by
  refine l_aload 2 C dL_law_623 rfl ?_
  refine l_aload 3 C dL_law_624 rfl ?_
  refine l_iload 0 C dL_law_625 rfl ?_
  refine l_iconst (v := 1) C dL_law_626 (by decide) ?_
  refine l_iadd C dL_law_627 ?_
  refine l_sld C dL_law_628 (l_in (k := 1) rfl (by omega) hi hLen) ?_
  refine l_aload 3 C dL_law_629 rfl ?_
  refine l_iload 0 C dL_law_630 rfl ?_
  refine l_iconst (v := 2) C dL_law_631 (by decide) ?_
  refine l_iadd C dL_law_632 ?_
  refine l_sld C dL_law_633 (l_in (k := 2) rfl (by omega) hi hLen) ?_
  refine l_aload 3 C dL_law_634 rfl ?_
  refine l_iload 0 C dL_law_635 rfl ?_
  refine l_iconst (v := 3) C dL_law_636 (by decide) ?_
  refine l_iadd C dL_law_637 ?_
  refine l_sld C dL_law_638 (l_in (k := 3) rfl (by omega) hi hLen) ?_
  refine l_calli (K' := kX7_run) (bp := 0) (As := [.int (xs (nI i + 1).toNatClampNeg), .int (xs (nI i + 2).toNatClampNeg), .int (xs (nI i + 3).toNatClampNeg)]) (S := []) C hK dL_law_639 (zm2 168 rfl rfl) ok_X7_run ⟨by decide, by decide⟩ ly_0 rfl rfl rfl (Nat.le_of_ble_eq_true rfl) hcs rfl rfl (pr_run hI) (fun r G1 h1 => ?_)
  refine l_aload 1 C dL_law_642 rfl ?_
  refine l_aload 3 C dL_law_643 rfl ?_
  refine l_iload 0 C dL_law_644 rfl ?_
  refine l_iconst (v := 1) C dL_law_645 (by decide) ?_
  refine l_iadd C dL_law_646 ?_
  refine l_sld C dL_law_647 (l_in (k := 1) rfl (by omega) hi hLen) ?_
  refine l_aload 3 C dL_law_648 rfl ?_
  refine l_iload 0 C dL_law_649 rfl ?_
  refine l_iconst (v := 2) C dL_law_650 (by decide) ?_
  refine l_iadd C dL_law_651 ?_
  refine l_sld C dL_law_652 (l_in (k := 2) rfl (by omega) hi hLen) ?_
  refine l_aload 3 C dL_law_653 rfl ?_
  refine l_iload 0 C dL_law_654 rfl ?_
  refine l_iconst (v := 3) C dL_law_655 (by decide) ?_
  refine l_iadd C dL_law_656 ?_
  refine l_sld C dL_law_657 (l_in (k := 3) rfl (by omega) hi hLen) ?_
  refine l_calli (K' := kX8_run) (bp := 49) (As := [.int (xs (nI i + 1).toNatClampNeg), .int (xs (nI i + 2).toNatClampNeg), .int (xs (nI i + 3).toNatClampNeg)]) (S := [.int r]) C hK dL_law_658 (zm4 72 rfl rfl) ok_X8_run ⟨by decide, by decide⟩ ly_49 rfl rfl rfl (Nat.le_of_ble_eq_true rfl) hcs rfl rfl (h1) (fun r2 G2 h2 => ?_)
  exact l_ieq 878 C dL_law_661 (by decide) h2.1.symm (k G2 h2.2)
set_option maxRecDepth 20000 in
theorem lc_13 (C : lw_At p s m meth c b Len xs) (hK : zK D aC s) (hi : i + 5 ≤ Len) (hLen : Len ≤ 2560) (hcs : cells ≤ 600000 ∧ slots ≤ 7302250) (hI : II G) (k : ∀ G', II G' → lJ p l e s m b below meth c D aC ad cells slots 878 [(3, .int (nI i)), (2, .ref (ad 49)), (1, .ref (ad 0)), (0, .ref b)] [] G') : lJ p l e s m b below meth c D aC ad cells slots 666 [(3, .int (nI i)), (2, .ref (ad 49)), (1, .ref (ad 0)), (0, .ref b)] [] G := by
  refine l_aload 2 C dL_law_666 rfl ?_
  refine l_aload 3 C dL_law_667 rfl ?_
  refine l_iload 0 C dL_law_668 rfl ?_
  refine l_iconst (v := 1) C dL_law_669 (by decide) ?_
  refine l_iadd C dL_law_670 ?_
  refine l_sld C dL_law_671 (l_in (k := 1) rfl (by omega) hi hLen) ?_
  refine l_aload 3 C dL_law_672 rfl ?_
  refine l_iload 0 C dL_law_673 rfl ?_
  refine l_iconst (v := 2) C dL_law_674 (by decide) ?_
  refine l_iadd C dL_law_675 ?_
  refine l_sld C dL_law_676 (l_in (k := 2) rfl (by omega) hi hLen) ?_
  refine l_calli (K' := kX7_ran) (bp := 0) (As := [.int (xs (nI i + 1).toNatClampNeg), .int (xs (nI i + 2).toNatClampNeg)]) (S := []) C hK dL_law_677 (zm2 184 rfl rfl) ok_X7_ran ⟨by decide, by decide⟩ ly_0 rfl rfl rfl (Nat.le_of_ble_eq_true rfl) hcs rfl rfl (pr_ran hI) (fun r G1 h1 => ?_)
  refine l_aload 1 C dL_law_680 rfl ?_
  refine l_aload 3 C dL_law_681 rfl ?_
  refine l_iload 0 C dL_law_682 rfl ?_
  refine l_iconst (v := 1) C dL_law_683 (by decide) ?_
  refine l_iadd C dL_law_684 ?_
  refine l_sld C dL_law_685 (l_in (k := 1) rfl (by omega) hi hLen) ?_
  refine l_aload 3 C dL_law_686 rfl ?_
  refine l_iload 0 C dL_law_687 rfl ?_
  refine l_iconst (v := 2) C dL_law_688 (by decide) ?_
  refine l_iadd C dL_law_689 ?_
  refine l_sld C dL_law_690 (l_in (k := 2) rfl (by omega) hi hLen) ?_
  refine l_calli (K' := kX8_ran) (bp := 49) (As := [.int (xs (nI i + 1).toNatClampNeg), .int (xs (nI i + 2).toNatClampNeg)]) (S := [.int r]) C hK dL_law_691 (zm4 80 rfl rfl) ok_X8_ran ⟨by decide, by decide⟩ ly_49 rfl rfl rfl (Nat.le_of_ble_eq_true rfl) hcs rfl rfl (h1) (fun r2 G2 h2 => ?_)
  exact l_ieq 878 C dL_law_694 (by decide) h2.1.symm (k G2 h2.2)
set_option maxRecDepth 20000 in
theorem lc_14 (C : lw_At p s m meth c b Len xs) (hK : zK D aC s) (hi : i + 5 ≤ Len) (hLen : Len ≤ 2560) (hcs : cells ≤ 600000 ∧ slots ≤ 7302250) (hI : II G) (k : ∀ G', II G' → lJ p l e s m b below meth c D aC ad cells slots 878 [(3, .int (nI i)), (2, .ref (ad 49)), (1, .ref (ad 0)), (0, .ref b)] [] G') : lJ p l e s m b below meth c D aC ad cells slots 699 [(3, .int (nI i)), (2, .ref (ad 49)), (1, .ref (ad 0)), (0, .ref b)] [] G := by
  refine l_aload 2 C dL_law_699 rfl ?_
  refine l_aload 3 C dL_law_700 rfl ?_
  refine l_iload 0 C dL_law_701 rfl ?_
  refine l_iconst (v := 1) C dL_law_702 (by decide) ?_
  refine l_iadd C dL_law_703 ?_
  refine l_sld C dL_law_704 (l_in (k := 1) rfl (by omega) hi hLen) ?_
  refine l_calli (K' := kX7_right) (bp := 0) (As := [.int (xs (nI i + 1).toNatClampNeg)]) (S := []) C hK dL_law_705 (zm2 188 rfl rfl) ok_X7_right ⟨by decide, by decide⟩ ly_0 rfl rfl rfl (Nat.le_of_ble_eq_true rfl) hcs rfl rfl (pr_right hI) (fun r G1 h1 => ?_)
  refine l_aload 1 C dL_law_708 rfl ?_
  refine l_aload 3 C dL_law_709 rfl ?_
  refine l_iload 0 C dL_law_710 rfl ?_
  refine l_iconst (v := 1) C dL_law_711 (by decide) ?_
  refine l_iadd C dL_law_712 ?_
  refine l_sld C dL_law_713 (l_in (k := 1) rfl (by omega) hi hLen) ?_
  refine l_calli (K' := kX8_right) (bp := 49) (As := [.int (xs (nI i + 1).toNatClampNeg)]) (S := [.int r]) C hK dL_law_714 (zm4 110 rfl rfl) ok_X8_right ⟨by decide, by decide⟩ ly_49 rfl rfl rfl (Nat.le_of_ble_eq_true rfl) hcs rfl rfl (h1) (fun r2 G2 h2 => ?_)
  exact l_ieq 878 C dL_law_717 (by decide) h2.1.symm (k G2 h2.2)
set_option maxRecDepth 20000 in
theorem lc_15 (C : lw_At p s m meth c b Len xs) (hK : zK D aC s) (hi : i + 5 ≤ Len) (hLen : Len ≤ 2560) (hcs : cells ≤ 600000 ∧ slots ≤ 7302250) (hI : II G) (k : ∀ G', II G' → lJ p l e s m b below meth c D aC ad cells slots 878 [(3, .int (nI i)), (2, .ref (ad 49)), (1, .ref (ad 0)), (0, .ref b)] [] G') : lJ p l e s m b below meth c D aC ad cells slots 722 [(3, .int (nI i)), (2, .ref (ad 49)), (1, .ref (ad 0)), (0, .ref b)] [] G := by
  refine l_aload 2 C dL_law_722 rfl ?_
  refine l_calli (K' := kX7_fit) (bp := 0) (As := []) (S := []) C hK dL_law_723 (zm2 234 rfl rfl) ok_X7_fit ⟨by decide, by decide⟩ ly_0 rfl rfl rfl (Nat.le_of_ble_eq_true rfl) hcs rfl rfl (pr_fit hI) (fun r G1 h1 => ?_)
  refine l_aload 1 C dL_law_726 rfl ?_
  refine l_calli (K' := kX8_fit) (bp := 49) (As := []) (S := [.int r]) C hK dL_law_727 (zm4 130 rfl rfl) ok_X8_fit ⟨by decide, by decide⟩ ly_49 rfl rfl rfl (Nat.le_of_ble_eq_true rfl) hcs rfl rfl (h1) (fun r2 G2 h2 => ?_)
  exact l_ieq 878 C dL_law_730 (by decide) h2.1.symm (k G2 h2.2)
set_option maxRecDepth 20000 in
theorem lc_16 (C : lw_At p s m meth c b Len xs) (hK : zK D aC s) (hi : i + 5 ≤ Len) (hLen : Len ≤ 2560) (hcs : cells ≤ 600000 ∧ slots ≤ 7302250) (hI : II G) (k : ∀ G', II G' → lJ p l e s m b below meth c D aC ad cells slots 878 [(3, .int (nI i)), (2, .ref (ad 49)), (1, .ref (ad 0)), (0, .ref b)] [] G') : lJ p l e s m b below meth c D aC ad cells slots 735 [(3, .int (nI i)), (2, .ref (ad 49)), (1, .ref (ad 0)), (0, .ref b)] [] G := by
  refine l_aload 2 C dL_law_735 rfl ?_
  refine l_aload 3 C dL_law_736 rfl ?_
  refine l_iload 0 C dL_law_737 rfl ?_
  refine l_iconst (v := 1) C dL_law_738 (by decide) ?_
  refine l_iadd C dL_law_739 ?_
  refine l_sld C dL_law_740 (l_in (k := 1) rfl (by omega) hi hLen) ?_
  refine l_aload 3 C dL_law_741 rfl ?_
  refine l_iload 0 C dL_law_742 rfl ?_
  refine l_iconst (v := 2) C dL_law_743 (by decide) ?_
  refine l_iadd C dL_law_744 ?_
  refine l_sld C dL_law_745 (l_in (k := 2) rfl (by omega) hi hLen) ?_
  refine l_aload 3 C dL_law_746 rfl ?_
  refine l_iload 0 C dL_law_747 rfl ?_
  refine l_iconst (v := 3) C dL_law_748 (by decide) ?_
  refine l_iadd C dL_law_749 ?_
  refine l_sld C dL_law_750 (l_in (k := 3) rfl (by omega) hi hLen) ?_
  refine l_calll (K' := kX7_arc) (bp := 0) (As := [.int (xs (nI i + 1).toNatClampNeg), .int (xs (nI i + 2).toNatClampNeg), .int (xs (nI i + 3).toNatClampNeg)]) (S := []) C hK dL_law_751 (zm3 42 rfl rfl) ok_X7_arc ⟨by decide, by decide⟩ ly_0 rfl rfl rfl (Nat.le_of_ble_eq_true rfl) hcs rfl rfl (pr_arc hI) (fun r G1 h1 => ?_)
  refine l_aload 1 C dL_law_754 rfl ?_
  refine l_aload 3 C dL_law_755 rfl ?_
  refine l_iload 0 C dL_law_756 rfl ?_
  refine l_iconst (v := 1) C dL_law_757 (by decide) ?_
  refine l_iadd C dL_law_758 ?_
  refine l_sld C dL_law_759 (l_in (k := 1) rfl (by omega) hi hLen) ?_
  refine l_aload 3 C dL_law_760 rfl ?_
  refine l_iload 0 C dL_law_761 rfl ?_
  refine l_iconst (v := 2) C dL_law_762 (by decide) ?_
  refine l_iadd C dL_law_763 ?_
  refine l_sld C dL_law_764 (l_in (k := 2) rfl (by omega) hi hLen) ?_
  refine l_aload 3 C dL_law_765 rfl ?_
  refine l_iload 0 C dL_law_766 rfl ?_
  refine l_iconst (v := 3) C dL_law_767 (by decide) ?_
  refine l_iadd C dL_law_768 ?_
  refine l_sld C dL_law_769 (l_in (k := 3) rfl (by omega) hi hLen) ?_
  refine l_calll (K' := kX8_arc) (bp := 49) (As := [.int (xs (nI i + 1).toNatClampNeg), .int (xs (nI i + 2).toNatClampNeg), .int (xs (nI i + 3).toNatClampNeg)]) (S := [.long r]) C hK dL_law_770 (zm4 84 rfl rfl) ok_X8_arc ⟨by decide, by decide⟩ ly_49 rfl rfl rfl (Nat.le_of_ble_eq_true rfl) hcs rfl rfl (h1) (fun r2 G2 h2 => ?_)
  exact l_leq 878 C dL_law_773 dL_law_774 (by decide) h2.1.symm (k G2 h2.2)
set_option maxRecDepth 20000 in
theorem lc_17 (C : lw_At p s m meth c b Len xs) (hK : zK D aC s) (hi : i + 5 ≤ Len) (hLen : Len ≤ 2560) (hcs : cells ≤ 600000 ∧ slots ≤ 7302250) (hI : II G) (k : ∀ G', II G' → lJ p l e s m b below meth c D aC ad cells slots 878 [(3, .int (nI i)), (2, .ref (ad 49)), (1, .ref (ad 0)), (0, .ref b)] [] G') : lJ p l e s m b below meth c D aC ad cells slots 779 [(3, .int (nI i)), (2, .ref (ad 49)), (1, .ref (ad 0)), (0, .ref b)] [] G := by
  refine l_aload 2 C dL_law_779 rfl ?_
  refine l_calll (K' := kX7_worst) (bp := 0) (As := []) (S := []) C hK dL_law_780 (zm3 50 rfl rfl) ok_X7_worst ⟨by decide, by decide⟩ ly_0 rfl rfl rfl (Nat.le_of_ble_eq_true rfl) hcs rfl rfl (pr_worst hI) (fun r G1 h1 => ?_)
  refine l_aload 1 C dL_law_783 rfl ?_
  refine l_calll (K' := kX8_worst) (bp := 49) (As := []) (S := [.long r]) C hK dL_law_784 (zm4 89 rfl rfl) ok_X8_worst ⟨by decide, by decide⟩ ly_49 rfl rfl rfl (Nat.le_of_ble_eq_true rfl) hcs rfl rfl (h1) (fun r2 G2 h2 => ?_)
  exact l_leq 878 C dL_law_787 dL_law_788 (by decide) h2.1.symm (k G2 h2.2)
set_option maxRecDepth 20000 in
theorem lc_18 (C : lw_At p s m meth c b Len xs) (hK : zK D aC s) (hi : i + 5 ≤ Len) (hLen : Len ≤ 2560) (hcs : cells ≤ 600000 ∧ slots ≤ 7302250) (hI : II G) (k : ∀ G', II G' → lJ p l e s m b below meth c D aC ad cells slots 878 [(3, .int (nI i)), (2, .ref (ad 49)), (1, .ref (ad 0)), (0, .ref b)] [] G') : lJ p l e s m b below meth c D aC ad cells slots 793 [(3, .int (nI i)), (2, .ref (ad 49)), (1, .ref (ad 0)), (0, .ref b)] [] G := by
  refine l_aload 2 C dL_law_793 rfl ?_
  refine l_calli (K' := kX7_growth) (bp := 0) (As := []) (S := []) C hK dL_law_794 (zm3 61 rfl rfl) ok_X7_growth ⟨by decide, by decide⟩ ly_0 rfl rfl rfl (Nat.le_of_ble_eq_true rfl) hcs rfl rfl (pr_growth hI) (fun r G1 h1 => ?_)
  refine l_aload 1 C dL_law_797 rfl ?_
  refine l_calli (K' := kX8_growth) (bp := 49) (As := []) (S := [.int r]) C hK dL_law_798 (zm4 138 rfl rfl) ok_X8_growth ⟨by decide, by decide⟩ ly_49 rfl rfl rfl (Nat.le_of_ble_eq_true rfl) hcs rfl rfl (h1) (fun r2 G2 h2 => ?_)
  exact l_ieq 878 C dL_law_801 (by decide) h2.1.symm (k G2 h2.2)
set_option maxRecDepth 20000 in
theorem lc_19 (C : lw_At p s m meth c b Len xs) (hK : zK D aC s) (hi : i + 5 ≤ Len) (hLen : Len ≤ 2560) (hcs : cells ≤ 600000 ∧ slots ≤ 7302250) (hI : II G) (k : ∀ G', II G' → lJ p l e s m b below meth c D aC ad cells slots 878 [(3, .int (nI i)), (2, .ref (ad 49)), (1, .ref (ad 0)), (0, .ref b)] [] G') : lJ p l e s m b below meth c D aC ad cells slots 806 [(3, .int (nI i)), (2, .ref (ad 49)), (1, .ref (ad 0)), (0, .ref b)] [] G := by
  refine l_aload 2 C dL_law_806 rfl ?_
  refine l_calli (K' := kX7_goal) (bp := 0) (As := []) (S := []) C hK dL_law_807 (zm3 79 rfl rfl) ok_X7_goal ⟨by decide, by decide⟩ ly_0 rfl rfl rfl (Nat.le_of_ble_eq_true rfl) hcs rfl rfl (pr_goal hI) (fun r G1 h1 => ?_)
  refine l_aload 1 C dL_law_810 rfl ?_
  refine l_calli (K' := kX8_goal) (bp := 49) (As := []) (S := [.int r]) C hK dL_law_811 (zm4 143 rfl rfl) ok_X8_goal ⟨by decide, by decide⟩ ly_49 rfl rfl rfl (Nat.le_of_ble_eq_true rfl) hcs rfl rfl (h1) (fun r2 G2 h2 => ?_)
  exact l_ieq 878 C dL_law_814 (by decide) h2.1.symm (k G2 h2.2)
set_option maxRecDepth 20000 in
theorem lc_20 (C : lw_At p s m meth c b Len xs) (hK : zK D aC s) (hi : i + 5 ≤ Len) (hLen : Len ≤ 2560) (hcs : cells ≤ 600000 ∧ slots ≤ 7302250) (hI : II G) (k : ∀ G', II G' → lJ p l e s m b below meth c D aC ad cells slots 878 [(3, .int (nI i)), (2, .ref (ad 49)), (1, .ref (ad 0)), (0, .ref b)] [] G') : lJ p l e s m b below meth c D aC ad cells slots 819 [(3, .int (nI i)), (2, .ref (ad 49)), (1, .ref (ad 0)), (0, .ref b)] [] G := by
  refine l_aload 2 C dL_law_819 rfl ?_
  refine l_calli (K' := kX7_change) (bp := 0) (As := []) (S := []) C hK dL_law_820 (zm3 87 rfl rfl) ok_X7_change ⟨by decide, by decide⟩ ly_0 rfl rfl rfl (Nat.le_of_ble_eq_true rfl) hcs rfl rfl (pr_change hI) (fun r G1 h1 => ?_)
  refine l_aload 1 C dL_law_823 rfl ?_
  refine l_calli (K' := kX8_change) (bp := 49) (As := []) (S := [.int r]) C hK dL_law_824 (zm4 147 rfl rfl) ok_X8_change ⟨by decide, by decide⟩ ly_49 rfl rfl rfl (Nat.le_of_ble_eq_true rfl) hcs rfl rfl (h1) (fun r2 G2 h2 => ?_)
  exact l_ieq 878 C dL_law_827 (by decide) h2.1.symm (k G2 h2.2)
set_option maxRecDepth 20000 in
theorem lc_21 (C : lw_At p s m meth c b Len xs) (hK : zK D aC s) (hi : i + 5 ≤ Len) (hLen : Len ≤ 2560) (hcs : cells ≤ 600000 ∧ slots ≤ 7302250) (hI : II G) (k : ∀ G', II G' → lJ p l e s m b below meth c D aC ad cells slots 878 [(3, .int (nI i)), (2, .ref (ad 49)), (1, .ref (ad 0)), (0, .ref b)] [] G') : lJ p l e s m b below meth c D aC ad cells slots 832 [(3, .int (nI i)), (2, .ref (ad 49)), (1, .ref (ad 0)), (0, .ref b)] [] G := by
  refine l_aload 2 C dL_law_832 rfl ?_
  refine l_aload 3 C dL_law_833 rfl ?_
  refine l_iload 0 C dL_law_834 rfl ?_
  refine l_iconst (v := 1) C dL_law_835 (by decide) ?_
  refine l_iadd C dL_law_836 ?_
  refine l_sld C dL_law_837 (l_in (k := 1) rfl (by omega) hi hLen) ?_
  refine l_calli (K' := kX7_step) (bp := 0) (As := [.int (xs (nI i + 1).toNatClampNeg)]) (S := []) C hK dL_law_838 (zm3 113 rfl rfl) ok_X7_step ⟨by decide, by decide⟩ ly_0 rfl rfl rfl (Nat.le_of_ble_eq_true rfl) hcs rfl rfl (pr_step hI) (fun r G1 h1 => ?_)
  refine l_aload 1 C dL_law_841 rfl ?_
  refine l_aload 3 C dL_law_842 rfl ?_
  refine l_iload 0 C dL_law_843 rfl ?_
  refine l_iconst (v := 1) C dL_law_844 (by decide) ?_
  refine l_iadd C dL_law_845 ?_
  refine l_sld C dL_law_846 (l_in (k := 1) rfl (by omega) hi hLen) ?_
  refine l_calli (K' := kX8_step) (bp := 49) (As := [.int (xs (nI i + 1).toNatClampNeg)]) (S := [.int r]) C hK dL_law_847 (zm4 155 rfl rfl) ok_X8_step ⟨by decide, by decide⟩ ly_49 rfl rfl rfl (Nat.le_of_ble_eq_true rfl) hcs rfl rfl (h1) (fun r2 G2 h2 => ?_)
  exact l_ieq 878 C dL_law_850 (by decide) h2.1.symm (k G2 h2.2)
set_option maxRecDepth 20000 in
theorem lc_22 (C : lw_At p s m meth c b Len xs) (hK : zK D aC s) (hi : i + 5 ≤ Len) (hLen : Len ≤ 2560) (hcs : cells ≤ 600000 ∧ slots ≤ 7302250) (hI : II G) (k : ∀ G', II G' → lJ p l e s m b below meth c D aC ad cells slots 878 [(3, .int (nI i)), (2, .ref (ad 49)), (1, .ref (ad 0)), (0, .ref b)] [] G') : lJ p l e s m b below meth c D aC ad cells slots 855 [(3, .int (nI i)), (2, .ref (ad 49)), (1, .ref (ad 0)), (0, .ref b)] [] G := by
  refine l_aload 2 C dL_law_855 rfl ?_
  refine l_aload 3 C dL_law_856 rfl ?_
  refine l_iload 0 C dL_law_857 rfl ?_
  refine l_iconst (v := 1) C dL_law_858 (by decide) ?_
  refine l_iadd C dL_law_859 ?_
  refine l_sld C dL_law_860 (l_in (k := 1) rfl (by omega) hi hLen) ?_
  refine l_calli (K' := kX7_about) (bp := 0) (As := [.int (xs (nI i + 1).toNatClampNeg)]) (S := []) C hK dL_law_861 (zm3 117 rfl rfl) ok_X7_about ⟨by decide, by decide⟩ ly_0 rfl rfl rfl (Nat.le_of_ble_eq_true rfl) hcs rfl rfl (pr_about hI) (fun r G1 h1 => ?_)
  refine l_aload 1 C dL_law_864 rfl ?_
  refine l_aload 3 C dL_law_865 rfl ?_
  refine l_iload 0 C dL_law_866 rfl ?_
  refine l_iconst (v := 1) C dL_law_867 (by decide) ?_
  refine l_iadd C dL_law_868 ?_
  refine l_sld C dL_law_869 (l_in (k := 1) rfl (by omega) hi hLen) ?_
  refine l_calli (K' := kX8_about) (bp := 49) (As := [.int (xs (nI i + 1).toNatClampNeg)]) (S := [.int r]) C hK dL_law_870 (zm4 159 rfl rfl) ok_X8_about ⟨by decide, by decide⟩ ly_49 rfl rfl rfl (Nat.le_of_ble_eq_true rfl) hcs rfl rfl (h1) (fun r2 G2 h2 => ?_)
  exact l_ieq 878 C dL_law_873 (by decide) h2.1.symm (k G2 h2.2)
set_option maxRecDepth 20000 in
theorem law_loop (C : lw_At p s m meth c b Len xs) (hK : zK D aC s) (hLen : Len ≤ 2560) (hcs : cells ≤ 600000 ∧ slots ≤ 7302250) : ∀ (n i : Nat) (G : GG), i ≤ Len + 5 → Len + 6 ≤ i + n → II G → lJ p l e s m b below meth c D aC ad cells slots 18 [(3, .int (nI i)), (2, .ref (ad 49)), (1, .ref (ad 0)), (0, .ref b)] [] G := by
  intro n
  induction n with
  | zero => intro i G h1 h2; omega
  | succ n ih =>
    intro i G h1 h2 hI
    refine l_iload 0 C dL_law_18 rfl ?_
    refine l_aload 3 C dL_law_19 rfl ?_
    refine l_slen C dL_law_20 ?_
    refine l_iconst (v := 5) C dL_law_21 (by decide) ?_
    refine l_isub C dL_law_22 ?_
    have ec : (nI Len - 5).toInt = (Len : Int) - 5 := pk_sub_toInt (b := 5) (by omega) (by omega)
    refine l_igt 884 C dL_law_23 (by decide) (fun q => ?_) (fun q => ?_)
    · refine l_iconst (v := 1) C dL_law_884 (by decide) ?_
      exact l_ret C dL_law_885 hcs.1 hcs.2
    · rw [Ilt, ec, nI_toInt (by omega)] at q
      have hi : i + 5 ≤ Len := by omega
      have k : ∀ G', II G' → lJ p l e s m b below meth c D aC ad cells slots 878 [(3, .int (nI i)), (2, .ref (ad 49)), (1, .ref (ad 0)), (0, .ref b)] [] G' := by
        intro G' hI'
        refine l_iinc (kk := 0) (v := nI (i + 5)) (L' := [(3, .int (nI (i + 5))), (2, .ref (ad 49)), (1, .ref (ad 0)), (0, .ref b)]) C dL_law_878 rfl (nI_add i 5) (by decide) rfl ?_
        refine l_goto 18 C dL_law_881 (by decide) ?_
        exact ih (i + 5) G' (by omega) (by omega) hI'
      refine l_aload 3 C dL_law_26 rfl ?_
      refine l_iload 0 C dL_law_27 rfl ?_
      refine l_sld C dL_law_28 (vp_in_nI (by omega) (by omega)) ?_
      refine l_bipush (v := 31) C dL_law_29 (by decide) ?_
      refine l_iand C dL_law_31 ?_
      generalize (xs (nI i).toNatClampNeg &&& 31) = v
      by_cases hv : v.toInt < 0 ∨ 22 < v.toInt
      · exact l_tabOut 878 C dL_law_32 hv (by decide) (k G hI)
      · have hv2 : v.toInt = 0 ∨ v.toInt = 1 ∨ v.toInt = 2 ∨ v.toInt = 3 ∨ v.toInt = 4 ∨ v.toInt = 5 ∨ v.toInt = 6 ∨ v.toInt = 7 ∨ v.toInt = 8 ∨ v.toInt = 9 ∨ v.toInt = 10 ∨ v.toInt = 11 ∨ v.toInt = 12 ∨ v.toInt = 13 ∨ v.toInt = 14 ∨ v.toInt = 15 ∨ v.toInt = 16 ∨ v.toInt = 17 ∨ v.toInt = 18 ∨ v.toInt = 19 ∨ v.toInt = 20 ∨ v.toInt = 21 ∨ v.toInt = 22 := by omega
        rcases hv2 with hv2 | hv2 | hv2 | hv2 | hv2 | hv2 | hv2 | hv2 | hv2 | hv2 | hv2 | hv2 | hv2 | hv2 | hv2 | hv2 | hv2 | hv2 | hv2 | hv2 | hv2 | hv2 | hv2
        · exact l_tabIn (v := 0) (off := 108) 140 C dL_law_32 hv2 (by decide) (by decide) rfl (by decide) (lc_0 C hK hi hLen hcs hI k)
        · exact l_tabIn (v := 1) (off := 141) 173 C dL_law_32 hv2 (by decide) (by decide) rfl (by decide) (lc_1 C hK hi hLen hcs hI k)
        · exact l_tabIn (v := 2) (off := 174) 206 C dL_law_32 hv2 (by decide) (by decide) rfl (by decide) (lc_2 C hK hi hLen hcs hI k)
        · exact l_tabIn (v := 3) (off := 207) 239 C dL_law_32 hv2 (by decide) (by decide) rfl (by decide) (lc_3 C hK hi hLen hcs hI k)
        · exact l_tabIn (v := 4) (off := 250) 282 C dL_law_32 hv2 (by decide) (by decide) rfl (by decide) (lc_4 C hK hi hLen hcs hI k)
        · exact l_tabIn (v := 5) (off := 303) 335 C dL_law_32 hv2 (by decide) (by decide) rfl (by decide) (lc_5 C hK hi hLen hcs hI k)
        · exact l_tabIn (v := 6) (off := 326) 358 C dL_law_32 hv2 (by decide) (by decide) rfl (by decide) (lc_6 C hK hi hLen hcs hI k)
        · exact l_tabIn (v := 7) (off := 359) 391 C dL_law_32 hv2 (by decide) (by decide) rfl (by decide) (lc_7 C hK hi hLen hcs hI k)
        · exact l_tabIn (v := 8) (off := 408) 440 C dL_law_32 hv2 (by decide) (by decide) rfl (by decide) (lc_8 C hK hi hLen hcs hI k)
        · exact l_tabIn (v := 9) (off := 451) 483 C dL_law_32 hv2 (by decide) (by decide) rfl (by decide) (lc_9 C hK hi hLen hcs hI k)
        · exact l_tabIn (v := 10) (off := 484) 516 C dL_law_32 hv2 (by decide) (by decide) rfl (by decide) (lc_10 C hK hi hLen hcs hI k)
        · exact l_tabIn (v := 11) (off := 538) 570 C dL_law_32 hv2 (by decide) (by decide) rfl (by decide) (lc_11 C hK hi hLen hcs hI k)
        · exact l_tabIn (v := 12) (off := 591) 623 C dL_law_32 hv2 (by decide) (by decide) rfl (by decide) (lc_12 C hK hi hLen hcs hI k)
        · exact l_tabIn (v := 13) (off := 634) 666 C dL_law_32 hv2 (by decide) (by decide) rfl (by decide) (lc_13 C hK hi hLen hcs hI k)
        · exact l_tabIn (v := 14) (off := 667) 699 C dL_law_32 hv2 (by decide) (by decide) rfl (by decide) (lc_14 C hK hi hLen hcs hI k)
        · exact l_tabIn (v := 15) (off := 690) 722 C dL_law_32 hv2 (by decide) (by decide) rfl (by decide) (lc_15 C hK hi hLen hcs hI k)
        · exact l_tabIn (v := 16) (off := 703) 735 C dL_law_32 hv2 (by decide) (by decide) rfl (by decide) (lc_16 C hK hi hLen hcs hI k)
        · exact l_tabIn (v := 17) (off := 747) 779 C dL_law_32 hv2 (by decide) (by decide) rfl (by decide) (lc_17 C hK hi hLen hcs hI k)
        · exact l_tabIn (v := 18) (off := 761) 793 C dL_law_32 hv2 (by decide) (by decide) rfl (by decide) (lc_18 C hK hi hLen hcs hI k)
        · exact l_tabIn (v := 19) (off := 774) 806 C dL_law_32 hv2 (by decide) (by decide) rfl (by decide) (lc_19 C hK hi hLen hcs hI k)
        · exact l_tabIn (v := 20) (off := 787) 819 C dL_law_32 hv2 (by decide) (by decide) rfl (by decide) (lc_20 C hK hi hLen hcs hI k)
        · exact l_tabIn (v := 21) (off := 800) 832 C dL_law_32 hv2 (by decide) (by decide) rfl (by decide) (lc_21 C hK hi hLen hcs hI k)
        · exact l_tabIn (v := 22) (off := 823) 855 C dL_law_32 hv2 (by decide) (by decide) rfl (by decide) (lc_22 C hK hi hLen hcs hI k)
end LC
