theorem y_inL {i k L : Nat} (hi : i + 6 ≤ L) (hL : L ≤ 3072) {v : Int32} (hv : v = nI k := by rfl) (hk : k < 6 := by decide) : vp_in (nI i + v) L := by
  subst hv
  rw [nI_add]
  exact vp_in_nI (by omega) (by omega)
set_option maxHeartbeats 4000000 in
set_option maxRecDepth 100000 in
theorem yc_0 {x : xCx} {b L : Nat} {xs : Nat → Int32} (Y : yOk x b L xs) {g g' : xG} (G : yG x g g') {RR : xMem → xMem → Prop} (hm : ∀ (a0 a1 a2 a3 a4 : Int32) (C M : xMem), RR C M → wX11_feed a0 a1 a2 a3 a4 C (fun r C' => wX12_feed a0 a1 a2 a3 a4 M (fun r' M' => r = r' ∧ RR C' M'))) (i : Nat) (hi : i + 6 ≤ L) {C M : xMem} (hRR : RR C M) (hk : ∀ C' M', RR C' M' → yW x 1262 (yL g g' b i) [] (PPc g g' C' M')) : yW x 176 (yL g g' b i) [] (PPc g g' C M) := by
  refine y_aload_n Y 1 rfl rfl dL_law_176 ?_
  refine y_aload_n Y 0 rfl rfl dL_law_177 ?_
  refine y_iload_n Y 3 rfl rfl dL_law_178 ?_
  refine y_iconst Y (v1 := 1) dL_law_179 (by decide) ?_
  refine y_iadd Y dL_law_180 ?_
  refine y_sld Y (y_inL (k := 1) hi Y.x8) dL_law_181 ?_
  refine y_aload_n Y 0 rfl rfl dL_law_182 ?_
  refine y_iload_n Y 3 rfl rfl dL_law_183 ?_
  refine y_iconst Y (v1 := 2) dL_law_184 (by decide) ?_
  refine y_iadd Y dL_law_185 ?_
  refine y_sld Y (y_inL (k := 2) hi Y.x8) dL_law_186 ?_
  refine y_aload_n Y 0 rfl rfl dL_law_187 ?_
  refine y_iload_n Y 3 rfl rfl dL_law_188 ?_
  refine y_iconst Y (v1 := 3) dL_law_189 (by decide) ?_
  refine y_iadd Y dL_law_190 ?_
  refine y_sld Y (y_inL (k := 3) hi Y.x8) dL_law_191 ?_
  refine y_aload_n Y 0 rfl rfl dL_law_192 ?_
  refine y_iload_n Y 3 rfl rfl dL_law_193 ?_
  refine y_iconst Y (v1 := 4) dL_law_194 (by decide) ?_
  refine y_iadd Y dL_law_195 ?_
  refine y_sld Y (y_inL (k := 4) hi Y.x8) dL_law_196 ?_
  refine y_aload_n Y 0 rfl rfl dL_law_197 ?_
  refine y_iload_n Y 3 rfl rfl dL_law_198 ?_
  refine y_iconst Y (v1 := 5) dL_law_199 (by decide) ?_
  refine y_iadd Y dL_law_200 ?_
  refine y_sld Y (y_inL (k := 5) hi Y.x8) dL_law_201 ?_
  refine y_call Y (w := WC g) (PQ := fun C' => PPc g g' C' M) (M0 := C) (st := []) (As := [.int (xs (nI i + 1).toNatClampNeg), .int (xs (nI i + 2).toNatClampNeg), .int (xs (nI i + 3).toNatClampNeg), .int (xs (nI i + 4).toNatClampNeg), .int (xs (nI i + 5).toNatClampNeg)]) (c := 0) G.1 G.2.2.2.2.1 G.2.2.2.2.2.2.2 (x_stC g) (fun H h => h.1) (PP_putC G) (enC_11 (c := 0) rfl) (Nat.le_of_ble_eq_true rfl) rfl (tX11_feed G.2.2.1 _ _ _ _ _ _ C _ (hm _ _ _ _ _ C M hRR)) wm_L_13 wi_X11_feed wv_X11_feed wz_X11 wc_X11_feed rfl yd_X11_feed rfl ⟨rfl, rfl⟩ ⟨Nat.le_of_ble_eq_true rfl, Nat.le_of_ble_eq_true rfl⟩ (Nat.le_of_ble_eq_true rfl) rfl dL_law_202 (y_ki (PQ := fun C' => PPc g g' C' M) (fun r C' h => ?_))
  refine y_aload_n Y 2 rfl rfl dL_law_205 ?_
  refine y_aload_n Y 0 rfl rfl dL_law_206 ?_
  refine y_iload_n Y 3 rfl rfl dL_law_207 ?_
  refine y_iconst Y (v1 := 1) dL_law_208 (by decide) ?_
  refine y_iadd Y dL_law_209 ?_
  refine y_sld Y (y_inL (k := 1) hi Y.x8) dL_law_210 ?_
  refine y_aload_n Y 0 rfl rfl dL_law_211 ?_
  refine y_iload_n Y 3 rfl rfl dL_law_212 ?_
  refine y_iconst Y (v1 := 2) dL_law_213 (by decide) ?_
  refine y_iadd Y dL_law_214 ?_
  refine y_sld Y (y_inL (k := 2) hi Y.x8) dL_law_215 ?_
  refine y_aload_n Y 0 rfl rfl dL_law_216 ?_
  refine y_iload_n Y 3 rfl rfl dL_law_217 ?_
  refine y_iconst Y (v1 := 3) dL_law_218 (by decide) ?_
  refine y_iadd Y dL_law_219 ?_
  refine y_sld Y (y_inL (k := 3) hi Y.x8) dL_law_220 ?_
  refine y_aload_n Y 0 rfl rfl dL_law_221 ?_
  refine y_iload_n Y 3 rfl rfl dL_law_222 ?_
  refine y_iconst Y (v1 := 4) dL_law_223 (by decide) ?_
  refine y_iadd Y dL_law_224 ?_
  refine y_sld Y (y_inL (k := 4) hi Y.x8) dL_law_225 ?_
  refine y_aload_n Y 0 rfl rfl dL_law_226 ?_
  refine y_iload_n Y 3 rfl rfl dL_law_227 ?_
  refine y_iconst Y (v1 := 5) dL_law_228 (by decide) ?_
  refine y_iadd Y dL_law_229 ?_
  refine y_sld Y (y_inL (k := 5) hi Y.x8) dL_law_230 ?_
  refine y_call Y (w := WM g') (PQ := fun M' => PPc g g' C' M') (M0 := M) (st := [.int r]) (As := [.int (xs (nI i + 1).toNatClampNeg), .int (xs (nI i + 2).toNatClampNeg), .int (xs (nI i + 3).toNatClampNeg), .int (xs (nI i + 4).toNatClampNeg), .int (xs (nI i + 5).toNatClampNeg)]) (c := 0) G.2.1 G.2.2.2.2.2.1 trivial (x_stM g') (fun H h => h.2) (PP_putM G) (enM_12 (c := 0) rfl) (Nat.le_of_ble_eq_true rfl) rfl (tX12_feed G.2.2.2.1 _ _ _ _ _ _ M _ h) wm_L_17 wi_X12_feed wv_X12_feed wz_X12 wc_X12_feed rfl yd_X12_feed rfl ⟨rfl, rfl⟩ ⟨Nat.le_of_ble_eq_true rfl, Nat.le_of_ble_eq_true rfl⟩ (Nat.le_of_ble_eq_true rfl) rfl dL_law_231 (y_ki (PQ := fun M' => PPc g g' C' M') (fun r' M' h => ?_))
  exact y_eq Y (tgt := 1262) dL_law_234 (by decide) h.1 (hk C' M' h.2)
set_option maxHeartbeats 4000000 in
set_option maxRecDepth 100000 in
theorem yc_1 {x : xCx} {b L : Nat} {xs : Nat → Int32} (Y : yOk x b L xs) {g g' : xG} (G : yG x g g') {RR : xMem → xMem → Prop} (hm : ∀ (a0 a1 : Int32) (C M : xMem), RR C M → wX11_story a0 a1 C (fun r C' => wX12_story a0 a1 M (fun r' M' => r = r' ∧ RR C' M'))) (i : Nat) (hi : i + 6 ≤ L) {C M : xMem} (hRR : RR C M) (hk : ∀ C' M', RR C' M' → yW x 1262 (yL g g' b i) [] (PPc g g' C' M')) : yW x 239 (yL g g' b i) [] (PPc g g' C M) := by
  refine y_aload_n Y 1 rfl rfl dL_law_239 ?_
  refine y_aload_n Y 0 rfl rfl dL_law_240 ?_
  refine y_iload_n Y 3 rfl rfl dL_law_241 ?_
  refine y_iconst Y (v1 := 1) dL_law_242 (by decide) ?_
  refine y_iadd Y dL_law_243 ?_
  refine y_sld Y (y_inL (k := 1) hi Y.x8) dL_law_244 ?_
  refine y_aload_n Y 0 rfl rfl dL_law_245 ?_
  refine y_iload_n Y 3 rfl rfl dL_law_246 ?_
  refine y_iconst Y (v1 := 2) dL_law_247 (by decide) ?_
  refine y_iadd Y dL_law_248 ?_
  refine y_sld Y (y_inL (k := 2) hi Y.x8) dL_law_249 ?_
  refine y_call Y (w := WC g) (PQ := fun C' => PPc g g' C' M) (M0 := C) (st := []) (As := [.int (xs (nI i + 1).toNatClampNeg), .int (xs (nI i + 2).toNatClampNeg)]) (c := 0) G.1 G.2.2.2.2.1 G.2.2.2.2.2.2.2 (x_stC g) (fun H h => h.1) (PP_putC G) (enC_11 (c := 0) rfl) (Nat.le_of_ble_eq_true rfl) rfl (tX11_story G.2.2.1 _ _ _ C _ (hm _ _ C M hRR)) wm_L_18 wi_X11_story wv_X11_story wz_X11 wc_X11_story rfl yd_X11_story rfl ⟨rfl, rfl⟩ ⟨Nat.le_of_ble_eq_true rfl, Nat.le_of_ble_eq_true rfl⟩ (Nat.le_of_ble_eq_true rfl) rfl dL_law_250 (y_ki (PQ := fun C' => PPc g g' C' M) (fun r C' h => ?_))
  refine y_aload_n Y 2 rfl rfl dL_law_253 ?_
  refine y_aload_n Y 0 rfl rfl dL_law_254 ?_
  refine y_iload_n Y 3 rfl rfl dL_law_255 ?_
  refine y_iconst Y (v1 := 1) dL_law_256 (by decide) ?_
  refine y_iadd Y dL_law_257 ?_
  refine y_sld Y (y_inL (k := 1) hi Y.x8) dL_law_258 ?_
  refine y_aload_n Y 0 rfl rfl dL_law_259 ?_
  refine y_iload_n Y 3 rfl rfl dL_law_260 ?_
  refine y_iconst Y (v1 := 2) dL_law_261 (by decide) ?_
  refine y_iadd Y dL_law_262 ?_
  refine y_sld Y (y_inL (k := 2) hi Y.x8) dL_law_263 ?_
  refine y_call Y (w := WM g') (PQ := fun M' => PPc g g' C' M') (M0 := M) (st := [.int r]) (As := [.int (xs (nI i + 1).toNatClampNeg), .int (xs (nI i + 2).toNatClampNeg)]) (c := 0) G.2.1 G.2.2.2.2.2.1 trivial (x_stM g') (fun H h => h.2) (PP_putM G) (enM_12 (c := 0) rfl) (Nat.le_of_ble_eq_true rfl) rfl (tX12_story G.2.2.2.1 _ _ _ M _ h) wm_L_22 wi_X12_story wv_X12_story wz_X12 wc_X12_story rfl yd_X12_story rfl ⟨rfl, rfl⟩ ⟨Nat.le_of_ble_eq_true rfl, Nat.le_of_ble_eq_true rfl⟩ (Nat.le_of_ble_eq_true rfl) rfl dL_law_264 (y_ki (PQ := fun M' => PPc g g' C' M') (fun r' M' h => ?_))
  exact y_eq Y (tgt := 1262) dL_law_267 (by decide) h.1 (hk C' M' h.2)
set_option maxHeartbeats 4000000 in
set_option maxRecDepth 100000 in
theorem yc_2 {x : xCx} {b L : Nat} {xs : Nat → Int32} (Y : yOk x b L xs) {g g' : xG} (G : yG x g g') {RR : xMem → xMem → Prop} (hm : ∀ (a0 : Int32) (C M : xMem), RR C M → wX11_law a0 C (fun r C' => wX12_law a0 M (fun r' M' => r = r' ∧ RR C' M'))) (i : Nat) (hi : i + 6 ≤ L) {C M : xMem} (hRR : RR C M) (hk : ∀ C' M', RR C' M' → yW x 1262 (yL g g' b i) [] (PPc g g' C' M')) : yW x 272 (yL g g' b i) [] (PPc g g' C M) := by
  refine y_aload_n Y 1 rfl rfl dL_law_272 ?_
  refine y_aload_n Y 0 rfl rfl dL_law_273 ?_
  refine y_iload_n Y 3 rfl rfl dL_law_274 ?_
  refine y_iconst Y (v1 := 1) dL_law_275 (by decide) ?_
  refine y_iadd Y dL_law_276 ?_
  refine y_sld Y (y_inL (k := 1) hi Y.x8) dL_law_277 ?_
  refine y_call Y (w := WC g) (PQ := fun C' => PPc g g' C' M) (M0 := C) (st := []) (As := [.int (xs (nI i + 1).toNatClampNeg)]) (c := 0) G.1 G.2.2.2.2.1 G.2.2.2.2.2.2.2 (x_stC g) (fun H h => h.1) (PP_putC G) (enC_11 (c := 0) rfl) (Nat.le_of_ble_eq_true rfl) rfl (tX11_law G.2.2.1 _ _ C _ (hm _ C M hRR)) wm_L_23 wi_X11_law wv_X11_law wz_X11 wc_X11_law rfl yd_X11_law rfl ⟨rfl, rfl⟩ ⟨Nat.le_of_ble_eq_true rfl, Nat.le_of_ble_eq_true rfl⟩ (Nat.le_of_ble_eq_true rfl) rfl dL_law_278 (y_ki (PQ := fun C' => PPc g g' C' M) (fun r C' h => ?_))
  refine y_aload_n Y 2 rfl rfl dL_law_281 ?_
  refine y_aload_n Y 0 rfl rfl dL_law_282 ?_
  refine y_iload_n Y 3 rfl rfl dL_law_283 ?_
  refine y_iconst Y (v1 := 1) dL_law_284 (by decide) ?_
  refine y_iadd Y dL_law_285 ?_
  refine y_sld Y (y_inL (k := 1) hi Y.x8) dL_law_286 ?_
  refine y_call Y (w := WM g') (PQ := fun M' => PPc g g' C' M') (M0 := M) (st := [.int r]) (As := [.int (xs (nI i + 1).toNatClampNeg)]) (c := 0) G.2.1 G.2.2.2.2.2.1 trivial (x_stM g') (fun H h => h.2) (PP_putM G) (enM_12 (c := 0) rfl) (Nat.le_of_ble_eq_true rfl) rfl (tX12_law G.2.2.2.1 _ _ M _ h) wm_L_27 wi_X12_law wv_X12_law wz_X12 wc_X12_law rfl yd_X12_law rfl ⟨rfl, rfl⟩ ⟨Nat.le_of_ble_eq_true rfl, Nat.le_of_ble_eq_true rfl⟩ (Nat.le_of_ble_eq_true rfl) rfl dL_law_287 (y_ki (PQ := fun M' => PPc g g' C' M') (fun r' M' h => ?_))
  exact y_eq Y (tgt := 1262) dL_law_290 (by decide) h.1 (hk C' M' h.2)
set_option maxHeartbeats 4000000 in
set_option maxRecDepth 100000 in
theorem yc_3 {x : xCx} {b L : Nat} {xs : Nat → Int32} (Y : yOk x b L xs) {g g' : xG} (G : yG x g g') {RR : xMem → xMem → Prop} (hm : ∀ (a0 a1 a2 a3 a4 : Int32) (C M : xMem), RR C M → wX11_end a0 a1 a2 a3 a4 C (fun r C' => wX12_end a0 a1 a2 a3 a4 M (fun r' M' => r = r' ∧ RR C' M'))) (i : Nat) (hi : i + 6 ≤ L) {C M : xMem} (hRR : RR C M) (hk : ∀ C' M', RR C' M' → yW x 1262 (yL g g' b i) [] (PPc g g' C' M')) : yW x 295 (yL g g' b i) [] (PPc g g' C M) := by
  refine y_aload_n Y 1 rfl rfl dL_law_295 ?_
  refine y_aload_n Y 0 rfl rfl dL_law_296 ?_
  refine y_iload_n Y 3 rfl rfl dL_law_297 ?_
  refine y_iconst Y (v1 := 1) dL_law_298 (by decide) ?_
  refine y_iadd Y dL_law_299 ?_
  refine y_sld Y (y_inL (k := 1) hi Y.x8) dL_law_300 ?_
  refine y_aload_n Y 0 rfl rfl dL_law_301 ?_
  refine y_iload_n Y 3 rfl rfl dL_law_302 ?_
  refine y_iconst Y (v1 := 2) dL_law_303 (by decide) ?_
  refine y_iadd Y dL_law_304 ?_
  refine y_sld Y (y_inL (k := 2) hi Y.x8) dL_law_305 ?_
  refine y_aload_n Y 0 rfl rfl dL_law_306 ?_
  refine y_iload_n Y 3 rfl rfl dL_law_307 ?_
  refine y_iconst Y (v1 := 3) dL_law_308 (by decide) ?_
  refine y_iadd Y dL_law_309 ?_
  refine y_sld Y (y_inL (k := 3) hi Y.x8) dL_law_310 ?_
  refine y_aload_n Y 0 rfl rfl dL_law_311 ?_
  refine y_iload_n Y 3 rfl rfl dL_law_312 ?_
  refine y_iconst Y (v1 := 4) dL_law_313 (by decide) ?_
  refine y_iadd Y dL_law_314 ?_
  refine y_sld Y (y_inL (k := 4) hi Y.x8) dL_law_315 ?_
  refine y_aload_n Y 0 rfl rfl dL_law_316 ?_
  refine y_iload_n Y 3 rfl rfl dL_law_317 ?_
  refine y_iconst Y (v1 := 5) dL_law_318 (by decide) ?_
  refine y_iadd Y dL_law_319 ?_
  refine y_sld Y (y_inL (k := 5) hi Y.x8) dL_law_320 ?_
  refine y_call Y (w := WC g) (PQ := fun C' => PPc g g' C' M) (M0 := C) (st := []) (As := [.int (xs (nI i + 1).toNatClampNeg), .int (xs (nI i + 2).toNatClampNeg), .int (xs (nI i + 3).toNatClampNeg), .int (xs (nI i + 4).toNatClampNeg), .int (xs (nI i + 5).toNatClampNeg)]) (c := 0) G.1 G.2.2.2.2.1 G.2.2.2.2.2.2.2 (x_stC g) (fun H h => h.1) (PP_putC G) (enC_11 (c := 0) rfl) (Nat.le_of_ble_eq_true rfl) rfl (tX11_end G.2.2.1 _ _ _ _ _ _ C _ (hm _ _ _ _ _ C M hRR)) wm_L_28 wi_X11_end wv_X11_end wz_X11 wc_X11_end rfl yd_X11_end rfl ⟨rfl, rfl⟩ ⟨Nat.le_of_ble_eq_true rfl, Nat.le_of_ble_eq_true rfl⟩ (Nat.le_of_ble_eq_true rfl) rfl dL_law_321 (y_ki (PQ := fun C' => PPc g g' C' M) (fun r C' h => ?_))
  refine y_aload_n Y 2 rfl rfl dL_law_324 ?_
  refine y_aload_n Y 0 rfl rfl dL_law_325 ?_
  refine y_iload_n Y 3 rfl rfl dL_law_326 ?_
  refine y_iconst Y (v1 := 1) dL_law_327 (by decide) ?_
  refine y_iadd Y dL_law_328 ?_
  refine y_sld Y (y_inL (k := 1) hi Y.x8) dL_law_329 ?_
  refine y_aload_n Y 0 rfl rfl dL_law_330 ?_
  refine y_iload_n Y 3 rfl rfl dL_law_331 ?_
  refine y_iconst Y (v1 := 2) dL_law_332 (by decide) ?_
  refine y_iadd Y dL_law_333 ?_
  refine y_sld Y (y_inL (k := 2) hi Y.x8) dL_law_334 ?_
  refine y_aload_n Y 0 rfl rfl dL_law_335 ?_
  refine y_iload_n Y 3 rfl rfl dL_law_336 ?_
  refine y_iconst Y (v1 := 3) dL_law_337 (by decide) ?_
  refine y_iadd Y dL_law_338 ?_
  refine y_sld Y (y_inL (k := 3) hi Y.x8) dL_law_339 ?_
  refine y_aload_n Y 0 rfl rfl dL_law_340 ?_
  refine y_iload_n Y 3 rfl rfl dL_law_341 ?_
  refine y_iconst Y (v1 := 4) dL_law_342 (by decide) ?_
  refine y_iadd Y dL_law_343 ?_
  refine y_sld Y (y_inL (k := 4) hi Y.x8) dL_law_344 ?_
  refine y_aload_n Y 0 rfl rfl dL_law_345 ?_
  refine y_iload_n Y 3 rfl rfl dL_law_346 ?_
  refine y_iconst Y (v1 := 5) dL_law_347 (by decide) ?_
  refine y_iadd Y dL_law_348 ?_
  refine y_sld Y (y_inL (k := 5) hi Y.x8) dL_law_349 ?_
  refine y_call Y (w := WM g') (PQ := fun M' => PPc g g' C' M') (M0 := M) (st := [.int r]) (As := [.int (xs (nI i + 1).toNatClampNeg), .int (xs (nI i + 2).toNatClampNeg), .int (xs (nI i + 3).toNatClampNeg), .int (xs (nI i + 4).toNatClampNeg), .int (xs (nI i + 5).toNatClampNeg)]) (c := 0) G.2.1 G.2.2.2.2.2.1 trivial (x_stM g') (fun H h => h.2) (PP_putM G) (enM_12 (c := 0) rfl) (Nat.le_of_ble_eq_true rfl) rfl (tX12_end G.2.2.2.1 _ _ _ _ _ _ M _ h) wm_L_32 wi_X12_end wv_X12_end wz_X12 wc_X12_end rfl yd_X12_end rfl ⟨rfl, rfl⟩ ⟨Nat.le_of_ble_eq_true rfl, Nat.le_of_ble_eq_true rfl⟩ (Nat.le_of_ble_eq_true rfl) rfl dL_law_350 (y_ki (PQ := fun M' => PPc g g' C' M') (fun r' M' h => ?_))
  exact y_eq Y (tgt := 1262) dL_law_353 (by decide) h.1 (hk C' M' h.2)
set_option maxHeartbeats 4000000 in
set_option maxRecDepth 100000 in
theorem yc_4 {x : xCx} {b L : Nat} {xs : Nat → Int32} (Y : yOk x b L xs) {g g' : xG} (G : yG x g g') {RR : xMem → xMem → Prop} (hm : ∀ (a0 a1 a2 : Int32) (C M : xMem), RR C M → wX11_teller a0 a1 a2 C (fun r C' => wX12_teller a0 a1 a2 M (fun r' M' => r = r' ∧ RR C' M'))) (i : Nat) (hi : i + 6 ≤ L) {C M : xMem} (hRR : RR C M) (hk : ∀ C' M', RR C' M' → yW x 1262 (yL g g' b i) [] (PPc g g' C' M')) : yW x 358 (yL g g' b i) [] (PPc g g' C M) := by
  refine y_aload_n Y 1 rfl rfl dL_law_358 ?_
  refine y_aload_n Y 0 rfl rfl dL_law_359 ?_
  refine y_iload_n Y 3 rfl rfl dL_law_360 ?_
  refine y_iconst Y (v1 := 1) dL_law_361 (by decide) ?_
  refine y_iadd Y dL_law_362 ?_
  refine y_sld Y (y_inL (k := 1) hi Y.x8) dL_law_363 ?_
  refine y_aload_n Y 0 rfl rfl dL_law_364 ?_
  refine y_iload_n Y 3 rfl rfl dL_law_365 ?_
  refine y_iconst Y (v1 := 2) dL_law_366 (by decide) ?_
  refine y_iadd Y dL_law_367 ?_
  refine y_sld Y (y_inL (k := 2) hi Y.x8) dL_law_368 ?_
  refine y_aload_n Y 0 rfl rfl dL_law_369 ?_
  refine y_iload_n Y 3 rfl rfl dL_law_370 ?_
  refine y_iconst Y (v1 := 3) dL_law_371 (by decide) ?_
  refine y_iadd Y dL_law_372 ?_
  refine y_sld Y (y_inL (k := 3) hi Y.x8) dL_law_373 ?_
  refine y_call Y (w := WC g) (PQ := fun C' => PPc g g' C' M) (M0 := C) (st := []) (As := [.int (xs (nI i + 1).toNatClampNeg), .int (xs (nI i + 2).toNatClampNeg), .int (xs (nI i + 3).toNatClampNeg)]) (c := 0) G.1 G.2.2.2.2.1 G.2.2.2.2.2.2.2 (x_stC g) (fun H h => h.1) (PP_putC G) (enC_11 (c := 0) rfl) (Nat.le_of_ble_eq_true rfl) rfl (tX11_teller G.2.2.1 _ _ _ _ C _ (hm _ _ _ C M hRR)) wm_L_33 wi_X11_teller wv_X11_teller wz_X11 wc_X11_teller rfl yd_X11_teller rfl ⟨rfl, rfl⟩ ⟨Nat.le_of_ble_eq_true rfl, Nat.le_of_ble_eq_true rfl⟩ (Nat.le_of_ble_eq_true rfl) rfl dL_law_374 (y_ki (PQ := fun C' => PPc g g' C' M) (fun r C' h => ?_))
  refine y_aload_n Y 2 rfl rfl dL_law_377 ?_
  refine y_aload_n Y 0 rfl rfl dL_law_378 ?_
  refine y_iload_n Y 3 rfl rfl dL_law_379 ?_
  refine y_iconst Y (v1 := 1) dL_law_380 (by decide) ?_
  refine y_iadd Y dL_law_381 ?_
  refine y_sld Y (y_inL (k := 1) hi Y.x8) dL_law_382 ?_
  refine y_aload_n Y 0 rfl rfl dL_law_383 ?_
  refine y_iload_n Y 3 rfl rfl dL_law_384 ?_
  refine y_iconst Y (v1 := 2) dL_law_385 (by decide) ?_
  refine y_iadd Y dL_law_386 ?_
  refine y_sld Y (y_inL (k := 2) hi Y.x8) dL_law_387 ?_
  refine y_aload_n Y 0 rfl rfl dL_law_388 ?_
  refine y_iload_n Y 3 rfl rfl dL_law_389 ?_
  refine y_iconst Y (v1 := 3) dL_law_390 (by decide) ?_
  refine y_iadd Y dL_law_391 ?_
  refine y_sld Y (y_inL (k := 3) hi Y.x8) dL_law_392 ?_
  refine y_call Y (w := WM g') (PQ := fun M' => PPc g g' C' M') (M0 := M) (st := [.int r]) (As := [.int (xs (nI i + 1).toNatClampNeg), .int (xs (nI i + 2).toNatClampNeg), .int (xs (nI i + 3).toNatClampNeg)]) (c := 0) G.2.1 G.2.2.2.2.2.1 trivial (x_stM g') (fun H h => h.2) (PP_putM G) (enM_12 (c := 0) rfl) (Nat.le_of_ble_eq_true rfl) rfl (tX12_teller G.2.2.2.1 _ _ _ _ M _ h) wm_L_37 wi_X12_teller wv_X12_teller wz_X12 wc_X12_teller rfl yd_X12_teller rfl ⟨rfl, rfl⟩ ⟨Nat.le_of_ble_eq_true rfl, Nat.le_of_ble_eq_true rfl⟩ (Nat.le_of_ble_eq_true rfl) rfl dL_law_393 (y_ki (PQ := fun M' => PPc g g' C' M') (fun r' M' h => ?_))
  exact y_eq Y (tgt := 1262) dL_law_396 (by decide) h.1 (hk C' M' h.2)
set_option maxHeartbeats 4000000 in
set_option maxRecDepth 100000 in
theorem yc_5 {x : xCx} {b L : Nat} {xs : Nat → Int32} (Y : yOk x b L xs) {g g' : xG} (G : yG x g g') {RR : xMem → xMem → Prop} (hm : ∀ (a0 a1 a2 : Int32) (C M : xMem), RR C M → wX11_listener a0 a1 a2 C (fun r C' => wX12_listener a0 a1 a2 M (fun r' M' => r = r' ∧ RR C' M'))) (i : Nat) (hi : i + 6 ≤ L) {C M : xMem} (hRR : RR C M) (hk : ∀ C' M', RR C' M' → yW x 1262 (yL g g' b i) [] (PPc g g' C' M')) : yW x 401 (yL g g' b i) [] (PPc g g' C M) := by
  refine y_aload_n Y 1 rfl rfl dL_law_401 ?_
  refine y_aload_n Y 0 rfl rfl dL_law_402 ?_
  refine y_iload_n Y 3 rfl rfl dL_law_403 ?_
  refine y_iconst Y (v1 := 1) dL_law_404 (by decide) ?_
  refine y_iadd Y dL_law_405 ?_
  refine y_sld Y (y_inL (k := 1) hi Y.x8) dL_law_406 ?_
  refine y_aload_n Y 0 rfl rfl dL_law_407 ?_
  refine y_iload_n Y 3 rfl rfl dL_law_408 ?_
  refine y_iconst Y (v1 := 2) dL_law_409 (by decide) ?_
  refine y_iadd Y dL_law_410 ?_
  refine y_sld Y (y_inL (k := 2) hi Y.x8) dL_law_411 ?_
  refine y_aload_n Y 0 rfl rfl dL_law_412 ?_
  refine y_iload_n Y 3 rfl rfl dL_law_413 ?_
  refine y_iconst Y (v1 := 3) dL_law_414 (by decide) ?_
  refine y_iadd Y dL_law_415 ?_
  refine y_sld Y (y_inL (k := 3) hi Y.x8) dL_law_416 ?_
  refine y_call Y (w := WC g) (PQ := fun C' => PPc g g' C' M) (M0 := C) (st := []) (As := [.int (xs (nI i + 1).toNatClampNeg), .int (xs (nI i + 2).toNatClampNeg), .int (xs (nI i + 3).toNatClampNeg)]) (c := 0) G.1 G.2.2.2.2.1 G.2.2.2.2.2.2.2 (x_stC g) (fun H h => h.1) (PP_putC G) (enC_11 (c := 0) rfl) (Nat.le_of_ble_eq_true rfl) rfl (tX11_listener G.2.2.1 _ _ _ _ C _ (hm _ _ _ C M hRR)) wm_L_38 wi_X11_listener wv_X11_listener wz_X11 wc_X11_listener rfl yd_X11_listener rfl ⟨rfl, rfl⟩ ⟨Nat.le_of_ble_eq_true rfl, Nat.le_of_ble_eq_true rfl⟩ (Nat.le_of_ble_eq_true rfl) rfl dL_law_417 (y_ki (PQ := fun C' => PPc g g' C' M) (fun r C' h => ?_))
  refine y_aload_n Y 2 rfl rfl dL_law_420 ?_
  refine y_aload_n Y 0 rfl rfl dL_law_421 ?_
  refine y_iload_n Y 3 rfl rfl dL_law_422 ?_
  refine y_iconst Y (v1 := 1) dL_law_423 (by decide) ?_
  refine y_iadd Y dL_law_424 ?_
  refine y_sld Y (y_inL (k := 1) hi Y.x8) dL_law_425 ?_
  refine y_aload_n Y 0 rfl rfl dL_law_426 ?_
  refine y_iload_n Y 3 rfl rfl dL_law_427 ?_
  refine y_iconst Y (v1 := 2) dL_law_428 (by decide) ?_
  refine y_iadd Y dL_law_429 ?_
  refine y_sld Y (y_inL (k := 2) hi Y.x8) dL_law_430 ?_
  refine y_aload_n Y 0 rfl rfl dL_law_431 ?_
  refine y_iload_n Y 3 rfl rfl dL_law_432 ?_
  refine y_iconst Y (v1 := 3) dL_law_433 (by decide) ?_
  refine y_iadd Y dL_law_434 ?_
  refine y_sld Y (y_inL (k := 3) hi Y.x8) dL_law_435 ?_
  refine y_call Y (w := WM g') (PQ := fun M' => PPc g g' C' M') (M0 := M) (st := [.int r]) (As := [.int (xs (nI i + 1).toNatClampNeg), .int (xs (nI i + 2).toNatClampNeg), .int (xs (nI i + 3).toNatClampNeg)]) (c := 0) G.2.1 G.2.2.2.2.2.1 trivial (x_stM g') (fun H h => h.2) (PP_putM G) (enM_12 (c := 0) rfl) (Nat.le_of_ble_eq_true rfl) rfl (tX12_listener G.2.2.2.1 _ _ _ _ M _ h) wm_L_41 wi_X12_listener wv_X12_listener wz_X12 wc_X12_listener rfl yd_X12_listener rfl ⟨rfl, rfl⟩ ⟨Nat.le_of_ble_eq_true rfl, Nat.le_of_ble_eq_true rfl⟩ (Nat.le_of_ble_eq_true rfl) rfl dL_law_436 (y_ki (PQ := fun M' => PPc g g' C' M') (fun r' M' h => ?_))
  exact y_eq Y (tgt := 1262) dL_law_439 (by decide) h.1 (hk C' M' h.2)
set_option maxHeartbeats 4000000 in
set_option maxRecDepth 100000 in
theorem yc_6 {x : xCx} {b L : Nat} {xs : Nat → Int32} (Y : yOk x b L xs) {g g' : xG} (G : yG x g g') {RR : xMem → xMem → Prop} (hm : ∀ (a0 : Int32) (C M : xMem), RR C M → wX11_evenings a0 C (fun r C' => wX12_evenings a0 M (fun r' M' => r = r' ∧ RR C' M'))) (i : Nat) (hi : i + 6 ≤ L) {C M : xMem} (hRR : RR C M) (hk : ∀ C' M', RR C' M' → yW x 1262 (yL g g' b i) [] (PPc g g' C' M')) : yW x 444 (yL g g' b i) [] (PPc g g' C M) := by
  refine y_aload_n Y 1 rfl rfl dL_law_444 ?_
  refine y_aload_n Y 0 rfl rfl dL_law_445 ?_
  refine y_iload_n Y 3 rfl rfl dL_law_446 ?_
  refine y_iconst Y (v1 := 1) dL_law_447 (by decide) ?_
  refine y_iadd Y dL_law_448 ?_
  refine y_sld Y (y_inL (k := 1) hi Y.x8) dL_law_449 ?_
  refine y_call Y (w := WC g) (PQ := fun C' => PPc g g' C' M) (M0 := C) (st := []) (As := [.int (xs (nI i + 1).toNatClampNeg)]) (c := 0) G.1 G.2.2.2.2.1 G.2.2.2.2.2.2.2 (x_stC g) (fun H h => h.1) (PP_putC G) (enC_11 (c := 0) rfl) (Nat.le_of_ble_eq_true rfl) rfl (tX11_evenings G.2.2.1 _ _ C _ (hm _ C M hRR)) wm_L_42 wi_X11_evenings wv_X11_evenings wz_X11 wc_X11_evenings rfl yd_X11_evenings rfl ⟨rfl, rfl⟩ ⟨Nat.le_of_ble_eq_true rfl, Nat.le_of_ble_eq_true rfl⟩ (Nat.le_of_ble_eq_true rfl) rfl dL_law_450 (y_ki (PQ := fun C' => PPc g g' C' M) (fun r C' h => ?_))
  refine y_aload_n Y 2 rfl rfl dL_law_453 ?_
  refine y_aload_n Y 0 rfl rfl dL_law_454 ?_
  refine y_iload_n Y 3 rfl rfl dL_law_455 ?_
  refine y_iconst Y (v1 := 1) dL_law_456 (by decide) ?_
  refine y_iadd Y dL_law_457 ?_
  refine y_sld Y (y_inL (k := 1) hi Y.x8) dL_law_458 ?_
  refine y_call Y (w := WM g') (PQ := fun M' => PPc g g' C' M') (M0 := M) (st := [.int r]) (As := [.int (xs (nI i + 1).toNatClampNeg)]) (c := 0) G.2.1 G.2.2.2.2.2.1 trivial (x_stM g') (fun H h => h.2) (PP_putM G) (enM_12 (c := 0) rfl) (Nat.le_of_ble_eq_true rfl) rfl (tX12_evenings G.2.2.2.1 _ _ M _ h) wm_L_45 wi_X12_evenings wv_X12_evenings wz_X12 wc_X12_evenings rfl yd_X12_evenings rfl ⟨rfl, rfl⟩ ⟨Nat.le_of_ble_eq_true rfl, Nat.le_of_ble_eq_true rfl⟩ (Nat.le_of_ble_eq_true rfl) rfl dL_law_459 (y_ki (PQ := fun M' => PPc g g' C' M') (fun r' M' h => ?_))
  exact y_eq Y (tgt := 1262) dL_law_462 (by decide) h.1 (hk C' M' h.2)
set_option maxHeartbeats 4000000 in
set_option maxRecDepth 100000 in
theorem yc_7 {x : xCx} {b L : Nat} {xs : Nat → Int32} (Y : yOk x b L xs) {g g' : xG} (G : yG x g g') {RR : xMem → xMem → Prop} (hm : ∀ (a0 a1 : Int32) (C M : xMem), RR C M → wX11_tried a0 a1 C (fun r C' => wX12_tried a0 a1 M (fun r' M' => r = r' ∧ RR C' M'))) (i : Nat) (hi : i + 6 ≤ L) {C M : xMem} (hRR : RR C M) (hk : ∀ C' M', RR C' M' → yW x 1262 (yL g g' b i) [] (PPc g g' C' M')) : yW x 467 (yL g g' b i) [] (PPc g g' C M) := by
  refine y_aload_n Y 1 rfl rfl dL_law_467 ?_
  refine y_aload_n Y 0 rfl rfl dL_law_468 ?_
  refine y_iload_n Y 3 rfl rfl dL_law_469 ?_
  refine y_iconst Y (v1 := 1) dL_law_470 (by decide) ?_
  refine y_iadd Y dL_law_471 ?_
  refine y_sld Y (y_inL (k := 1) hi Y.x8) dL_law_472 ?_
  refine y_aload_n Y 0 rfl rfl dL_law_473 ?_
  refine y_iload_n Y 3 rfl rfl dL_law_474 ?_
  refine y_iconst Y (v1 := 2) dL_law_475 (by decide) ?_
  refine y_iadd Y dL_law_476 ?_
  refine y_sld Y (y_inL (k := 2) hi Y.x8) dL_law_477 ?_
  refine y_call Y (w := WC g) (PQ := fun C' => PPc g g' C' M) (M0 := C) (st := []) (As := [.int (xs (nI i + 1).toNatClampNeg), .int (xs (nI i + 2).toNatClampNeg)]) (c := 0) G.1 G.2.2.2.2.1 G.2.2.2.2.2.2.2 (x_stC g) (fun H h => h.1) (PP_putC G) (enC_11 (c := 0) rfl) (Nat.le_of_ble_eq_true rfl) rfl (tX11_tried G.2.2.1 _ _ _ C _ (hm _ _ C M hRR)) wm_L_46 wi_X11_tried wv_X11_tried wz_X11 wc_X11_tried rfl yd_X11_tried rfl ⟨rfl, rfl⟩ ⟨Nat.le_of_ble_eq_true rfl, Nat.le_of_ble_eq_true rfl⟩ (Nat.le_of_ble_eq_true rfl) rfl dL_law_478 (y_ki (PQ := fun C' => PPc g g' C' M) (fun r C' h => ?_))
  refine y_aload_n Y 2 rfl rfl dL_law_481 ?_
  refine y_aload_n Y 0 rfl rfl dL_law_482 ?_
  refine y_iload_n Y 3 rfl rfl dL_law_483 ?_
  refine y_iconst Y (v1 := 1) dL_law_484 (by decide) ?_
  refine y_iadd Y dL_law_485 ?_
  refine y_sld Y (y_inL (k := 1) hi Y.x8) dL_law_486 ?_
  refine y_aload_n Y 0 rfl rfl dL_law_487 ?_
  refine y_iload_n Y 3 rfl rfl dL_law_488 ?_
  refine y_iconst Y (v1 := 2) dL_law_489 (by decide) ?_
  refine y_iadd Y dL_law_490 ?_
  refine y_sld Y (y_inL (k := 2) hi Y.x8) dL_law_491 ?_
  refine y_call Y (w := WM g') (PQ := fun M' => PPc g g' C' M') (M0 := M) (st := [.int r]) (As := [.int (xs (nI i + 1).toNatClampNeg), .int (xs (nI i + 2).toNatClampNeg)]) (c := 0) G.2.1 G.2.2.2.2.2.1 trivial (x_stM g') (fun H h => h.2) (PP_putM G) (enM_12 (c := 0) rfl) (Nat.le_of_ble_eq_true rfl) rfl (tX12_tried G.2.2.2.1 _ _ _ M _ h) wm_L_49 wi_X12_tried wv_X12_tried wz_X12 wc_X12_tried rfl yd_X12_tried rfl ⟨rfl, rfl⟩ ⟨Nat.le_of_ble_eq_true rfl, Nat.le_of_ble_eq_true rfl⟩ (Nat.le_of_ble_eq_true rfl) rfl dL_law_492 (y_ki (PQ := fun M' => PPc g g' C' M') (fun r' M' h => ?_))
  exact y_eq Y (tgt := 1262) dL_law_495 (by decide) h.1 (hk C' M' h.2)
set_option maxHeartbeats 4000000 in
set_option maxRecDepth 100000 in
theorem yc_8 {x : xCx} {b L : Nat} {xs : Nat → Int32} (Y : yOk x b L xs) {g g' : xG} (G : yG x g g') {RR : xMem → xMem → Prop} (hm : ∀ (a0 a1 : Int32) (C M : xMem), RR C M → wX11_other a0 a1 C (fun r C' => wX12_other a0 a1 M (fun r' M' => r = r' ∧ RR C' M'))) (i : Nat) (hi : i + 6 ≤ L) {C M : xMem} (hRR : RR C M) (hk : ∀ C' M', RR C' M' → yW x 1262 (yL g g' b i) [] (PPc g g' C' M')) : yW x 500 (yL g g' b i) [] (PPc g g' C M) := by
  refine y_aload_n Y 1 rfl rfl dL_law_500 ?_
  refine y_aload_n Y 0 rfl rfl dL_law_501 ?_
  refine y_iload_n Y 3 rfl rfl dL_law_502 ?_
  refine y_iconst Y (v1 := 1) dL_law_503 (by decide) ?_
  refine y_iadd Y dL_law_504 ?_
  refine y_sld Y (y_inL (k := 1) hi Y.x8) dL_law_505 ?_
  refine y_aload_n Y 0 rfl rfl dL_law_506 ?_
  refine y_iload_n Y 3 rfl rfl dL_law_507 ?_
  refine y_iconst Y (v1 := 2) dL_law_508 (by decide) ?_
  refine y_iadd Y dL_law_509 ?_
  refine y_sld Y (y_inL (k := 2) hi Y.x8) dL_law_510 ?_
  refine y_call Y (w := WC g) (PQ := fun C' => PPc g g' C' M) (M0 := C) (st := []) (As := [.int (xs (nI i + 1).toNatClampNeg), .int (xs (nI i + 2).toNatClampNeg)]) (c := 0) G.1 G.2.2.2.2.1 G.2.2.2.2.2.2.2 (x_stC g) (fun H h => h.1) (PP_putC G) (enC_11 (c := 0) rfl) (Nat.le_of_ble_eq_true rfl) rfl (tX11_other G.2.2.1 _ _ _ C _ (hm _ _ C M hRR)) wm_L_50 wi_X11_other wv_X11_other wz_X11 wc_X11_other rfl yd_X11_other rfl ⟨rfl, rfl⟩ ⟨Nat.le_of_ble_eq_true rfl, Nat.le_of_ble_eq_true rfl⟩ (Nat.le_of_ble_eq_true rfl) rfl dL_law_511 (y_ki (PQ := fun C' => PPc g g' C' M) (fun r C' h => ?_))
  refine y_aload_n Y 2 rfl rfl dL_law_514 ?_
  refine y_aload_n Y 0 rfl rfl dL_law_515 ?_
  refine y_iload_n Y 3 rfl rfl dL_law_516 ?_
  refine y_iconst Y (v1 := 1) dL_law_517 (by decide) ?_
  refine y_iadd Y dL_law_518 ?_
  refine y_sld Y (y_inL (k := 1) hi Y.x8) dL_law_519 ?_
  refine y_aload_n Y 0 rfl rfl dL_law_520 ?_
  refine y_iload_n Y 3 rfl rfl dL_law_521 ?_
  refine y_iconst Y (v1 := 2) dL_law_522 (by decide) ?_
  refine y_iadd Y dL_law_523 ?_
  refine y_sld Y (y_inL (k := 2) hi Y.x8) dL_law_524 ?_
  refine y_call Y (w := WM g') (PQ := fun M' => PPc g g' C' M') (M0 := M) (st := [.int r]) (As := [.int (xs (nI i + 1).toNatClampNeg), .int (xs (nI i + 2).toNatClampNeg)]) (c := 0) G.2.1 G.2.2.2.2.2.1 trivial (x_stM g') (fun H h => h.2) (PP_putM G) (enM_12 (c := 0) rfl) (Nat.le_of_ble_eq_true rfl) rfl (tX12_other G.2.2.2.1 _ _ _ M _ h) wm_L_53 wi_X12_other wv_X12_other wz_X12 wc_X12_other rfl yd_X12_other rfl ⟨rfl, rfl⟩ ⟨Nat.le_of_ble_eq_true rfl, Nat.le_of_ble_eq_true rfl⟩ (Nat.le_of_ble_eq_true rfl) rfl dL_law_525 (y_ki (PQ := fun M' => PPc g g' C' M') (fun r' M' h => ?_))
  exact y_eq Y (tgt := 1262) dL_law_528 (by decide) h.1 (hk C' M' h.2)
set_option maxHeartbeats 4000000 in
set_option maxRecDepth 100000 in
theorem yc_9 {x : xCx} {b L : Nat} {xs : Nat → Int32} (Y : yOk x b L xs) {g g' : xG} (G : yG x g g') {RR : xMem → xMem → Prop} (hm : ∀ (C M : xMem), RR C M → wX11_copy  C (fun r C' => wX12_copy  M (fun r' M' => r = r' ∧ RR C' M'))) (i : Nat) (hi : i + 6 ≤ L) {C M : xMem} (hRR : RR C M) (hk : ∀ C' M', RR C' M' → yW x 1262 (yL g g' b i) [] (PPc g g' C' M')) : yW x 533 (yL g g' b i) [] (PPc g g' C M) := by
  refine y_aload_n Y 1 rfl rfl dL_law_533 ?_
  refine y_call Y (w := WC g) (PQ := fun C' => PPc g g' C' M) (M0 := C) (st := []) (As := []) (c := 0) G.1 G.2.2.2.2.1 G.2.2.2.2.2.2.2 (x_stC g) (fun H h => h.1) (PP_putC G) (enC_11 (c := 0) rfl) (Nat.le_of_ble_eq_true rfl) rfl (tX11_copy G.2.2.1 _  C _ (hm  C M hRR)) wm_L_54 wi_X11_copy wv_X11_copy wz_X11 wc_X11_copy rfl yd_X11_copy rfl ⟨rfl, rfl⟩ ⟨Nat.le_of_ble_eq_true rfl, Nat.le_of_ble_eq_true rfl⟩ (Nat.le_of_ble_eq_true rfl) rfl dL_law_534 (y_ki (PQ := fun C' => PPc g g' C' M) (fun r C' h => ?_))
  refine y_aload_n Y 2 rfl rfl dL_law_537 ?_
  refine y_call Y (w := WM g') (PQ := fun M' => PPc g g' C' M') (M0 := M) (st := [.int r]) (As := []) (c := 0) G.2.1 G.2.2.2.2.2.1 trivial (x_stM g') (fun H h => h.2) (PP_putM G) (enM_12 (c := 0) rfl) (Nat.le_of_ble_eq_true rfl) rfl (tX12_copy G.2.2.2.1 _  M _ h) wm_L_58 wi_X12_copy wv_X12_copy wz_X12 wc_X12_copy rfl yd_X12_copy rfl ⟨rfl, rfl⟩ ⟨Nat.le_of_ble_eq_true rfl, Nat.le_of_ble_eq_true rfl⟩ (Nat.le_of_ble_eq_true rfl) rfl dL_law_538 (y_ki (PQ := fun M' => PPc g g' C' M') (fun r' M' h => ?_))
  exact y_eq Y (tgt := 1262) dL_law_541 (by decide) h.1 (hk C' M' h.2)
set_option maxHeartbeats 4000000 in
set_option maxRecDepth 100000 in
theorem yc_10 {x : xCx} {b L : Nat} {xs : Nat → Int32} (Y : yOk x b L xs) {g g' : xG} (G : yG x g g') {RR : xMem → xMem → Prop} (hm : ∀ (a0 a1 : Int32) (C M : xMem), RR C M → wX11_first a0 a1 C (fun r C' => wX12_first a0 a1 M (fun r' M' => r = r' ∧ RR C' M'))) (i : Nat) (hi : i + 6 ≤ L) {C M : xMem} (hRR : RR C M) (hk : ∀ C' M', RR C' M' → yW x 1262 (yL g g' b i) [] (PPc g g' C' M')) : yW x 546 (yL g g' b i) [] (PPc g g' C M) := by
  refine y_aload_n Y 1 rfl rfl dL_law_546 ?_
  refine y_aload_n Y 0 rfl rfl dL_law_547 ?_
  refine y_iload_n Y 3 rfl rfl dL_law_548 ?_
  refine y_iconst Y (v1 := 1) dL_law_549 (by decide) ?_
  refine y_iadd Y dL_law_550 ?_
  refine y_sld Y (y_inL (k := 1) hi Y.x8) dL_law_551 ?_
  refine y_aload_n Y 0 rfl rfl dL_law_552 ?_
  refine y_iload_n Y 3 rfl rfl dL_law_553 ?_
  refine y_iconst Y (v1 := 2) dL_law_554 (by decide) ?_
  refine y_iadd Y dL_law_555 ?_
  refine y_sld Y (y_inL (k := 2) hi Y.x8) dL_law_556 ?_
  refine y_call Y (w := WC g) (PQ := fun C' => PPc g g' C' M) (M0 := C) (st := []) (As := [.int (xs (nI i + 1).toNatClampNeg), .int (xs (nI i + 2).toNatClampNeg)]) (c := 0) G.1 G.2.2.2.2.1 G.2.2.2.2.2.2.2 (x_stC g) (fun H h => h.1) (PP_putC G) (enC_11 (c := 0) rfl) (Nat.le_of_ble_eq_true rfl) rfl (tX11_first G.2.2.1 _ _ _ C _ (hm _ _ C M hRR)) wm_L_59 wi_X11_first wv_X11_first wz_X11 wc_X11_first rfl yd_X11_first rfl ⟨rfl, rfl⟩ ⟨Nat.le_of_ble_eq_true rfl, Nat.le_of_ble_eq_true rfl⟩ (Nat.le_of_ble_eq_true rfl) rfl dL_law_557 (y_ki (PQ := fun C' => PPc g g' C' M) (fun r C' h => ?_))
  refine y_aload_n Y 2 rfl rfl dL_law_560 ?_
  refine y_aload_n Y 0 rfl rfl dL_law_561 ?_
  refine y_iload_n Y 3 rfl rfl dL_law_562 ?_
  refine y_iconst Y (v1 := 1) dL_law_563 (by decide) ?_
  refine y_iadd Y dL_law_564 ?_
  refine y_sld Y (y_inL (k := 1) hi Y.x8) dL_law_565 ?_
  refine y_aload_n Y 0 rfl rfl dL_law_566 ?_
  refine y_iload_n Y 3 rfl rfl dL_law_567 ?_
  refine y_iconst Y (v1 := 2) dL_law_568 (by decide) ?_
  refine y_iadd Y dL_law_569 ?_
  refine y_sld Y (y_inL (k := 2) hi Y.x8) dL_law_570 ?_
  refine y_call Y (w := WM g') (PQ := fun M' => PPc g g' C' M') (M0 := M) (st := [.int r]) (As := [.int (xs (nI i + 1).toNatClampNeg), .int (xs (nI i + 2).toNatClampNeg)]) (c := 0) G.2.1 G.2.2.2.2.2.1 trivial (x_stM g') (fun H h => h.2) (PP_putM G) (enM_12 (c := 0) rfl) (Nat.le_of_ble_eq_true rfl) rfl (tX12_first G.2.2.2.1 _ _ _ M _ h) wm_L_62 wi_X12_first wv_X12_first wz_X12 wc_X12_first rfl yd_X12_first rfl ⟨rfl, rfl⟩ ⟨Nat.le_of_ble_eq_true rfl, Nat.le_of_ble_eq_true rfl⟩ (Nat.le_of_ble_eq_true rfl) rfl dL_law_571 (y_ki (PQ := fun M' => PPc g g' C' M') (fun r' M' h => ?_))
  exact y_eq Y (tgt := 1262) dL_law_574 (by decide) h.1 (hk C' M' h.2)
set_option maxHeartbeats 4000000 in
set_option maxRecDepth 100000 in
theorem yc_11 {x : xCx} {b L : Nat} {xs : Nat → Int32} (Y : yOk x b L xs) {g g' : xG} (G : yG x g g') {RR : xMem → xMem → Prop} (hm : ∀ (a0 a1 : Int32) (C M : xMem), RR C M → wX11_storyIs a0 a1 C (fun r C' => wX12_storyIs a0 a1 M (fun r' M' => r = r' ∧ RR C' M'))) (i : Nat) (hi : i + 6 ≤ L) {C M : xMem} (hRR : RR C M) (hk : ∀ C' M', RR C' M' → yW x 1262 (yL g g' b i) [] (PPc g g' C' M')) : yW x 579 (yL g g' b i) [] (PPc g g' C M) := by
  refine y_aload_n Y 1 rfl rfl dL_law_579 ?_
  refine y_aload_n Y 0 rfl rfl dL_law_580 ?_
  refine y_iload_n Y 3 rfl rfl dL_law_581 ?_
  refine y_iconst Y (v1 := 1) dL_law_582 (by decide) ?_
  refine y_iadd Y dL_law_583 ?_
  refine y_sld Y (y_inL (k := 1) hi Y.x8) dL_law_584 ?_
  refine y_aload_n Y 0 rfl rfl dL_law_585 ?_
  refine y_iload_n Y 3 rfl rfl dL_law_586 ?_
  refine y_iconst Y (v1 := 2) dL_law_587 (by decide) ?_
  refine y_iadd Y dL_law_588 ?_
  refine y_sld Y (y_inL (k := 2) hi Y.x8) dL_law_589 ?_
  refine y_call Y (w := WC g) (PQ := fun C' => PPc g g' C' M) (M0 := C) (st := []) (As := [.int (xs (nI i + 1).toNatClampNeg), .int (xs (nI i + 2).toNatClampNeg)]) (c := 0) G.1 G.2.2.2.2.1 G.2.2.2.2.2.2.2 (x_stC g) (fun H h => h.1) (PP_putC G) (enC_11 (c := 0) rfl) (Nat.le_of_ble_eq_true rfl) rfl (tX11_storyIs G.2.2.1 _ _ _ C _ (hm _ _ C M hRR)) wm_L_63 wi_X11_storyIs wv_X11_storyIs wz_X11 wc_X11_storyIs rfl yd_X11_storyIs rfl ⟨rfl, rfl⟩ ⟨Nat.le_of_ble_eq_true rfl, Nat.le_of_ble_eq_true rfl⟩ (Nat.le_of_ble_eq_true rfl) rfl dL_law_590 (y_ki (PQ := fun C' => PPc g g' C' M) (fun r C' h => ?_))
  refine y_aload_n Y 2 rfl rfl dL_law_593 ?_
  refine y_aload_n Y 0 rfl rfl dL_law_594 ?_
  refine y_iload_n Y 3 rfl rfl dL_law_595 ?_
  refine y_iconst Y (v1 := 1) dL_law_596 (by decide) ?_
  refine y_iadd Y dL_law_597 ?_
  refine y_sld Y (y_inL (k := 1) hi Y.x8) dL_law_598 ?_
  refine y_aload_n Y 0 rfl rfl dL_law_599 ?_
  refine y_iload_n Y 3 rfl rfl dL_law_600 ?_
  refine y_iconst Y (v1 := 2) dL_law_601 (by decide) ?_
  refine y_iadd Y dL_law_602 ?_
  refine y_sld Y (y_inL (k := 2) hi Y.x8) dL_law_603 ?_
  refine y_call Y (w := WM g') (PQ := fun M' => PPc g g' C' M') (M0 := M) (st := [.int r]) (As := [.int (xs (nI i + 1).toNatClampNeg), .int (xs (nI i + 2).toNatClampNeg)]) (c := 0) G.2.1 G.2.2.2.2.2.1 trivial (x_stM g') (fun H h => h.2) (PP_putM G) (enM_12 (c := 0) rfl) (Nat.le_of_ble_eq_true rfl) rfl (tX12_storyIs G.2.2.2.1 _ _ _ M _ h) wm_L_66 wi_X12_storyIs wv_X12_storyIs wz_X12 wc_X12_storyIs rfl yd_X12_storyIs rfl ⟨rfl, rfl⟩ ⟨Nat.le_of_ble_eq_true rfl, Nat.le_of_ble_eq_true rfl⟩ (Nat.le_of_ble_eq_true rfl) rfl dL_law_604 (y_ki (PQ := fun M' => PPc g g' C' M') (fun r' M' h => ?_))
  exact y_eq Y (tgt := 1262) dL_law_607 (by decide) h.1 (hk C' M' h.2)
set_option maxHeartbeats 4000000 in
set_option maxRecDepth 100000 in
theorem yc_12 {x : xCx} {b L : Nat} {xs : Nat → Int32} (Y : yOk x b L xs) {g g' : xG} (G : yG x g g') {RR : xMem → xMem → Prop} (hm : ∀ (a0 a1 a2 : Int32) (C M : xMem), RR C M → wX11_open a0 a1 a2 C (fun r C' => wX12_open a0 a1 a2 M (fun r' M' => r = r' ∧ RR C' M'))) (i : Nat) (hi : i + 6 ≤ L) {C M : xMem} (hRR : RR C M) (hk : ∀ C' M', RR C' M' → yW x 1262 (yL g g' b i) [] (PPc g g' C' M')) : yW x 612 (yL g g' b i) [] (PPc g g' C M) := by
  refine y_aload_n Y 1 rfl rfl dL_law_612 ?_
  refine y_aload_n Y 0 rfl rfl dL_law_613 ?_
  refine y_iload_n Y 3 rfl rfl dL_law_614 ?_
  refine y_iconst Y (v1 := 1) dL_law_615 (by decide) ?_
  refine y_iadd Y dL_law_616 ?_
  refine y_sld Y (y_inL (k := 1) hi Y.x8) dL_law_617 ?_
  refine y_aload_n Y 0 rfl rfl dL_law_618 ?_
  refine y_iload_n Y 3 rfl rfl dL_law_619 ?_
  refine y_iconst Y (v1 := 2) dL_law_620 (by decide) ?_
  refine y_iadd Y dL_law_621 ?_
  refine y_sld Y (y_inL (k := 2) hi Y.x8) dL_law_622 ?_
  refine y_aload_n Y 0 rfl rfl dL_law_623 ?_
  refine y_iload_n Y 3 rfl rfl dL_law_624 ?_
  refine y_iconst Y (v1 := 3) dL_law_625 (by decide) ?_
  refine y_iadd Y dL_law_626 ?_
  refine y_sld Y (y_inL (k := 3) hi Y.x8) dL_law_627 ?_
  refine y_call Y (w := WC g) (PQ := fun C' => PPc g g' C' M) (M0 := C) (st := []) (As := [.int (xs (nI i + 1).toNatClampNeg), .int (xs (nI i + 2).toNatClampNeg), .int (xs (nI i + 3).toNatClampNeg)]) (c := 0) G.1 G.2.2.2.2.1 G.2.2.2.2.2.2.2 (x_stC g) (fun H h => h.1) (PP_putC G) (enC_11 (c := 0) rfl) (Nat.le_of_ble_eq_true rfl) rfl (tX11_open G.2.2.1 _ _ _ _ C _ (hm _ _ _ C M hRR)) wm_L_67 wi_X11_open wv_X11_open wz_X11 wc_X11_open rfl yd_X11_open rfl ⟨rfl, rfl⟩ ⟨Nat.le_of_ble_eq_true rfl, Nat.le_of_ble_eq_true rfl⟩ (Nat.le_of_ble_eq_true rfl) rfl dL_law_628 (y_ki (PQ := fun C' => PPc g g' C' M) (fun r C' h => ?_))
  refine y_aload_n Y 2 rfl rfl dL_law_631 ?_
  refine y_aload_n Y 0 rfl rfl dL_law_632 ?_
  refine y_iload_n Y 3 rfl rfl dL_law_633 ?_
  refine y_iconst Y (v1 := 1) dL_law_634 (by decide) ?_
  refine y_iadd Y dL_law_635 ?_
  refine y_sld Y (y_inL (k := 1) hi Y.x8) dL_law_636 ?_
  refine y_aload_n Y 0 rfl rfl dL_law_637 ?_
  refine y_iload_n Y 3 rfl rfl dL_law_638 ?_
  refine y_iconst Y (v1 := 2) dL_law_639 (by decide) ?_
  refine y_iadd Y dL_law_640 ?_
  refine y_sld Y (y_inL (k := 2) hi Y.x8) dL_law_641 ?_
  refine y_aload_n Y 0 rfl rfl dL_law_642 ?_
  refine y_iload_n Y 3 rfl rfl dL_law_643 ?_
  refine y_iconst Y (v1 := 3) dL_law_644 (by decide) ?_
  refine y_iadd Y dL_law_645 ?_
  refine y_sld Y (y_inL (k := 3) hi Y.x8) dL_law_646 ?_
  refine y_call Y (w := WM g') (PQ := fun M' => PPc g g' C' M') (M0 := M) (st := [.int r]) (As := [.int (xs (nI i + 1).toNatClampNeg), .int (xs (nI i + 2).toNatClampNeg), .int (xs (nI i + 3).toNatClampNeg)]) (c := 0) G.2.1 G.2.2.2.2.2.1 trivial (x_stM g') (fun H h => h.2) (PP_putM G) (enM_12 (c := 0) rfl) (Nat.le_of_ble_eq_true rfl) rfl (tX12_open G.2.2.2.1 _ _ _ _ M _ h) wm_L_71 wi_X12_open wv_X12_open wz_X12 wc_X12_open rfl yd_X12_open rfl ⟨rfl, rfl⟩ ⟨Nat.le_of_ble_eq_true rfl, Nat.le_of_ble_eq_true rfl⟩ (Nat.le_of_ble_eq_true rfl) rfl dL_law_647 (y_ki (PQ := fun M' => PPc g g' C' M') (fun r' M' h => ?_))
  exact y_eq Y (tgt := 1262) dL_law_650 (by decide) h.1 (hk C' M' h.2)
set_option maxHeartbeats 4000000 in
set_option maxRecDepth 100000 in
theorem yc_13 {x : xCx} {b L : Nat} {xs : Nat → Int32} (Y : yOk x b L xs) {g g' : xG} (G : yG x g g') {RR : xMem → xMem → Prop} (hm : ∀ (a0 a1 : Int32) (C M : xMem), RR C M → wX11_endIs a0 a1 C (fun r C' => wX12_endIs a0 a1 M (fun r' M' => r = r' ∧ RR C' M'))) (i : Nat) (hi : i + 6 ≤ L) {C M : xMem} (hRR : RR C M) (hk : ∀ C' M', RR C' M' → yW x 1262 (yL g g' b i) [] (PPc g g' C' M')) : yW x 655 (yL g g' b i) [] (PPc g g' C M) := by
  refine y_aload_n Y 1 rfl rfl dL_law_655 ?_
  refine y_aload_n Y 0 rfl rfl dL_law_656 ?_
  refine y_iload_n Y 3 rfl rfl dL_law_657 ?_
  refine y_iconst Y (v1 := 1) dL_law_658 (by decide) ?_
  refine y_iadd Y dL_law_659 ?_
  refine y_sld Y (y_inL (k := 1) hi Y.x8) dL_law_660 ?_
  refine y_aload_n Y 0 rfl rfl dL_law_661 ?_
  refine y_iload_n Y 3 rfl rfl dL_law_662 ?_
  refine y_iconst Y (v1 := 2) dL_law_663 (by decide) ?_
  refine y_iadd Y dL_law_664 ?_
  refine y_sld Y (y_inL (k := 2) hi Y.x8) dL_law_665 ?_
  refine y_call Y (w := WC g) (PQ := fun C' => PPc g g' C' M) (M0 := C) (st := []) (As := [.int (xs (nI i + 1).toNatClampNeg), .int (xs (nI i + 2).toNatClampNeg)]) (c := 0) G.1 G.2.2.2.2.1 G.2.2.2.2.2.2.2 (x_stC g) (fun H h => h.1) (PP_putC G) (enC_11 (c := 0) rfl) (Nat.le_of_ble_eq_true rfl) rfl (tX11_endIs G.2.2.1 _ _ _ C _ (hm _ _ C M hRR)) wm_L_72 wi_X11_endIs wv_X11_endIs wz_X11 wc_X11_endIs rfl yd_X11_endIs rfl ⟨rfl, rfl⟩ ⟨Nat.le_of_ble_eq_true rfl, Nat.le_of_ble_eq_true rfl⟩ (Nat.le_of_ble_eq_true rfl) rfl dL_law_666 (y_ki (PQ := fun C' => PPc g g' C' M) (fun r C' h => ?_))
  refine y_aload_n Y 2 rfl rfl dL_law_669 ?_
  refine y_aload_n Y 0 rfl rfl dL_law_670 ?_
  refine y_iload_n Y 3 rfl rfl dL_law_671 ?_
  refine y_iconst Y (v1 := 1) dL_law_672 (by decide) ?_
  refine y_iadd Y dL_law_673 ?_
  refine y_sld Y (y_inL (k := 1) hi Y.x8) dL_law_674 ?_
  refine y_aload_n Y 0 rfl rfl dL_law_675 ?_
  refine y_iload_n Y 3 rfl rfl dL_law_676 ?_
  refine y_iconst Y (v1 := 2) dL_law_677 (by decide) ?_
  refine y_iadd Y dL_law_678 ?_
  refine y_sld Y (y_inL (k := 2) hi Y.x8) dL_law_679 ?_
  refine y_call Y (w := WM g') (PQ := fun M' => PPc g g' C' M') (M0 := M) (st := [.int r]) (As := [.int (xs (nI i + 1).toNatClampNeg), .int (xs (nI i + 2).toNatClampNeg)]) (c := 0) G.2.1 G.2.2.2.2.2.1 trivial (x_stM g') (fun H h => h.2) (PP_putM G) (enM_12 (c := 0) rfl) (Nat.le_of_ble_eq_true rfl) rfl (tX12_endIs G.2.2.2.1 _ _ _ M _ h) wm_L_75 wi_X12_endIs wv_X12_endIs wz_X12 wc_X12_endIs rfl yd_X12_endIs rfl ⟨rfl, rfl⟩ ⟨Nat.le_of_ble_eq_true rfl, Nat.le_of_ble_eq_true rfl⟩ (Nat.le_of_ble_eq_true rfl) rfl dL_law_680 (y_ki (PQ := fun M' => PPc g g' C' M') (fun r' M' h => ?_))
  exact y_eq Y (tgt := 1262) dL_law_683 (by decide) h.1 (hk C' M' h.2)
set_option maxHeartbeats 4000000 in
set_option maxRecDepth 100000 in
theorem yc_14 {x : xCx} {b L : Nat} {xs : Nat → Int32} (Y : yOk x b L xs) {g g' : xG} (G : yG x g g') {RR : xMem → xMem → Prop} (hm : ∀ (a0 a1 : Int32) (C M : xMem), RR C M → wX11_tellerIs a0 a1 C (fun r C' => wX12_tellerIs a0 a1 M (fun r' M' => r = r' ∧ RR C' M'))) (i : Nat) (hi : i + 6 ≤ L) {C M : xMem} (hRR : RR C M) (hk : ∀ C' M', RR C' M' → yW x 1262 (yL g g' b i) [] (PPc g g' C' M')) : yW x 688 (yL g g' b i) [] (PPc g g' C M) := by
  refine y_aload_n Y 1 rfl rfl dL_law_688 ?_
  refine y_aload_n Y 0 rfl rfl dL_law_689 ?_
  refine y_iload_n Y 3 rfl rfl dL_law_690 ?_
  refine y_iconst Y (v1 := 1) dL_law_691 (by decide) ?_
  refine y_iadd Y dL_law_692 ?_
  refine y_sld Y (y_inL (k := 1) hi Y.x8) dL_law_693 ?_
  refine y_aload_n Y 0 rfl rfl dL_law_694 ?_
  refine y_iload_n Y 3 rfl rfl dL_law_695 ?_
  refine y_iconst Y (v1 := 2) dL_law_696 (by decide) ?_
  refine y_iadd Y dL_law_697 ?_
  refine y_sld Y (y_inL (k := 2) hi Y.x8) dL_law_698 ?_
  refine y_call Y (w := WC g) (PQ := fun C' => PPc g g' C' M) (M0 := C) (st := []) (As := [.int (xs (nI i + 1).toNatClampNeg), .int (xs (nI i + 2).toNatClampNeg)]) (c := 0) G.1 G.2.2.2.2.1 G.2.2.2.2.2.2.2 (x_stC g) (fun H h => h.1) (PP_putC G) (enC_11 (c := 0) rfl) (Nat.le_of_ble_eq_true rfl) rfl (tX11_tellerIs G.2.2.1 _ _ _ C _ (hm _ _ C M hRR)) wm_L_76 wi_X11_tellerIs wv_X11_tellerIs wz_X11 wc_X11_tellerIs rfl yd_X11_tellerIs rfl ⟨rfl, rfl⟩ ⟨Nat.le_of_ble_eq_true rfl, Nat.le_of_ble_eq_true rfl⟩ (Nat.le_of_ble_eq_true rfl) rfl dL_law_699 (y_ki (PQ := fun C' => PPc g g' C' M) (fun r C' h => ?_))
  refine y_aload_n Y 2 rfl rfl dL_law_702 ?_
  refine y_aload_n Y 0 rfl rfl dL_law_703 ?_
  refine y_iload_n Y 3 rfl rfl dL_law_704 ?_
  refine y_iconst Y (v1 := 1) dL_law_705 (by decide) ?_
  refine y_iadd Y dL_law_706 ?_
  refine y_sld Y (y_inL (k := 1) hi Y.x8) dL_law_707 ?_
  refine y_aload_n Y 0 rfl rfl dL_law_708 ?_
  refine y_iload_n Y 3 rfl rfl dL_law_709 ?_
  refine y_iconst Y (v1 := 2) dL_law_710 (by decide) ?_
  refine y_iadd Y dL_law_711 ?_
  refine y_sld Y (y_inL (k := 2) hi Y.x8) dL_law_712 ?_
  refine y_call Y (w := WM g') (PQ := fun M' => PPc g g' C' M') (M0 := M) (st := [.int r]) (As := [.int (xs (nI i + 1).toNatClampNeg), .int (xs (nI i + 2).toNatClampNeg)]) (c := 0) G.2.1 G.2.2.2.2.2.1 trivial (x_stM g') (fun H h => h.2) (PP_putM G) (enM_12 (c := 0) rfl) (Nat.le_of_ble_eq_true rfl) rfl (tX12_tellerIs G.2.2.2.1 _ _ _ M _ h) wm_L_79 wi_X12_tellerIs wv_X12_tellerIs wz_X12 wc_X12_tellerIs rfl yd_X12_tellerIs rfl ⟨rfl, rfl⟩ ⟨Nat.le_of_ble_eq_true rfl, Nat.le_of_ble_eq_true rfl⟩ (Nat.le_of_ble_eq_true rfl) rfl dL_law_713 (y_ki (PQ := fun M' => PPc g g' C' M') (fun r' M' h => ?_))
  exact y_eq Y (tgt := 1262) dL_law_716 (by decide) h.1 (hk C' M' h.2)
set_option maxHeartbeats 4000000 in
set_option maxRecDepth 100000 in
theorem yc_15 {x : xCx} {b L : Nat} {xs : Nat → Int32} (Y : yOk x b L xs) {g g' : xG} (G : yG x g g') {RR : xMem → xMem → Prop} (hm : ∀ (a0 a1 : Int32) (C M : xMem), RR C M → wX11_listenerIs a0 a1 C (fun r C' => wX12_listenerIs a0 a1 M (fun r' M' => r = r' ∧ RR C' M'))) (i : Nat) (hi : i + 6 ≤ L) {C M : xMem} (hRR : RR C M) (hk : ∀ C' M', RR C' M' → yW x 1262 (yL g g' b i) [] (PPc g g' C' M')) : yW x 721 (yL g g' b i) [] (PPc g g' C M) := by
  refine y_aload_n Y 1 rfl rfl dL_law_721 ?_
  refine y_aload_n Y 0 rfl rfl dL_law_722 ?_
  refine y_iload_n Y 3 rfl rfl dL_law_723 ?_
  refine y_iconst Y (v1 := 1) dL_law_724 (by decide) ?_
  refine y_iadd Y dL_law_725 ?_
  refine y_sld Y (y_inL (k := 1) hi Y.x8) dL_law_726 ?_
  refine y_aload_n Y 0 rfl rfl dL_law_727 ?_
  refine y_iload_n Y 3 rfl rfl dL_law_728 ?_
  refine y_iconst Y (v1 := 2) dL_law_729 (by decide) ?_
  refine y_iadd Y dL_law_730 ?_
  refine y_sld Y (y_inL (k := 2) hi Y.x8) dL_law_731 ?_
  refine y_call Y (w := WC g) (PQ := fun C' => PPc g g' C' M) (M0 := C) (st := []) (As := [.int (xs (nI i + 1).toNatClampNeg), .int (xs (nI i + 2).toNatClampNeg)]) (c := 0) G.1 G.2.2.2.2.1 G.2.2.2.2.2.2.2 (x_stC g) (fun H h => h.1) (PP_putC G) (enC_11 (c := 0) rfl) (Nat.le_of_ble_eq_true rfl) rfl (tX11_listenerIs G.2.2.1 _ _ _ C _ (hm _ _ C M hRR)) wm_L_80 wi_X11_listenerIs wv_X11_listenerIs wz_X11 wc_X11_listenerIs rfl yd_X11_listenerIs rfl ⟨rfl, rfl⟩ ⟨Nat.le_of_ble_eq_true rfl, Nat.le_of_ble_eq_true rfl⟩ (Nat.le_of_ble_eq_true rfl) rfl dL_law_732 (y_ki (PQ := fun C' => PPc g g' C' M) (fun r C' h => ?_))
  refine y_aload_n Y 2 rfl rfl dL_law_735 ?_
  refine y_aload_n Y 0 rfl rfl dL_law_736 ?_
  refine y_iload_n Y 3 rfl rfl dL_law_737 ?_
  refine y_iconst Y (v1 := 1) dL_law_738 (by decide) ?_
  refine y_iadd Y dL_law_739 ?_
  refine y_sld Y (y_inL (k := 1) hi Y.x8) dL_law_740 ?_
  refine y_aload_n Y 0 rfl rfl dL_law_741 ?_
  refine y_iload_n Y 3 rfl rfl dL_law_742 ?_
  refine y_iconst Y (v1 := 2) dL_law_743 (by decide) ?_
  refine y_iadd Y dL_law_744 ?_
  refine y_sld Y (y_inL (k := 2) hi Y.x8) dL_law_745 ?_
  refine y_call Y (w := WM g') (PQ := fun M' => PPc g g' C' M') (M0 := M) (st := [.int r]) (As := [.int (xs (nI i + 1).toNatClampNeg), .int (xs (nI i + 2).toNatClampNeg)]) (c := 0) G.2.1 G.2.2.2.2.2.1 trivial (x_stM g') (fun H h => h.2) (PP_putM G) (enM_12 (c := 0) rfl) (Nat.le_of_ble_eq_true rfl) rfl (tX12_listenerIs G.2.2.2.1 _ _ _ M _ h) wm_L_83 wi_X12_listenerIs wv_X12_listenerIs wz_X12 wc_X12_listenerIs rfl yd_X12_listenerIs rfl ⟨rfl, rfl⟩ ⟨Nat.le_of_ble_eq_true rfl, Nat.le_of_ble_eq_true rfl⟩ (Nat.le_of_ble_eq_true rfl) rfl dL_law_746 (y_ki (PQ := fun M' => PPc g g' C' M') (fun r' M' h => ?_))
  exact y_eq Y (tgt := 1262) dL_law_749 (by decide) h.1 (hk C' M' h.2)
set_option maxHeartbeats 4000000 in
set_option maxRecDepth 100000 in
theorem yc_16 {x : xCx} {b L : Nat} {xs : Nat → Int32} (Y : yOk x b L xs) {g g' : xG} (G : yG x g g') {RR : xMem → xMem → Prop} (hm : ∀ (a0 a1 : Int32) (C M : xMem), RR C M → wX11_cheapest a0 a1 C (fun r C' => wX12_cheapest a0 a1 M (fun r' M' => r = r' ∧ RR C' M'))) (i : Nat) (hi : i + 6 ≤ L) {C M : xMem} (hRR : RR C M) (hk : ∀ C' M', RR C' M' → yW x 1262 (yL g g' b i) [] (PPc g g' C' M')) : yW x 754 (yL g g' b i) [] (PPc g g' C M) := by
  refine y_aload_n Y 1 rfl rfl dL_law_754 ?_
  refine y_aload_n Y 0 rfl rfl dL_law_755 ?_
  refine y_iload_n Y 3 rfl rfl dL_law_756 ?_
  refine y_iconst Y (v1 := 1) dL_law_757 (by decide) ?_
  refine y_iadd Y dL_law_758 ?_
  refine y_sld Y (y_inL (k := 1) hi Y.x8) dL_law_759 ?_
  refine y_aload_n Y 0 rfl rfl dL_law_760 ?_
  refine y_iload_n Y 3 rfl rfl dL_law_761 ?_
  refine y_iconst Y (v1 := 2) dL_law_762 (by decide) ?_
  refine y_iadd Y dL_law_763 ?_
  refine y_sld Y (y_inL (k := 2) hi Y.x8) dL_law_764 ?_
  refine y_call Y (w := WC g) (PQ := fun C' => PPc g g' C' M) (M0 := C) (st := []) (As := [.int (xs (nI i + 1).toNatClampNeg), .int (xs (nI i + 2).toNatClampNeg)]) (c := 0) G.1 G.2.2.2.2.1 G.2.2.2.2.2.2.2 (x_stC g) (fun H h => h.1) (PP_putC G) (enC_11 (c := 0) rfl) (Nat.le_of_ble_eq_true rfl) rfl (tX11_cheapest G.2.2.1 _ _ _ C _ (hm _ _ C M hRR)) wm_L_84 wi_X11_cheapest wv_X11_cheapest wz_X11 wc_X11_cheapest rfl yd_X11_cheapest rfl ⟨rfl, rfl⟩ ⟨Nat.le_of_ble_eq_true rfl, Nat.le_of_ble_eq_true rfl⟩ (Nat.le_of_ble_eq_true rfl) rfl dL_law_765 (y_ki (PQ := fun C' => PPc g g' C' M) (fun r C' h => ?_))
  refine y_aload_n Y 2 rfl rfl dL_law_768 ?_
  refine y_aload_n Y 0 rfl rfl dL_law_769 ?_
  refine y_iload_n Y 3 rfl rfl dL_law_770 ?_
  refine y_iconst Y (v1 := 1) dL_law_771 (by decide) ?_
  refine y_iadd Y dL_law_772 ?_
  refine y_sld Y (y_inL (k := 1) hi Y.x8) dL_law_773 ?_
  refine y_aload_n Y 0 rfl rfl dL_law_774 ?_
  refine y_iload_n Y 3 rfl rfl dL_law_775 ?_
  refine y_iconst Y (v1 := 2) dL_law_776 (by decide) ?_
  refine y_iadd Y dL_law_777 ?_
  refine y_sld Y (y_inL (k := 2) hi Y.x8) dL_law_778 ?_
  refine y_call Y (w := WM g') (PQ := fun M' => PPc g g' C' M') (M0 := M) (st := [.int r]) (As := [.int (xs (nI i + 1).toNatClampNeg), .int (xs (nI i + 2).toNatClampNeg)]) (c := 0) G.2.1 G.2.2.2.2.2.1 trivial (x_stM g') (fun H h => h.2) (PP_putM G) (enM_12 (c := 0) rfl) (Nat.le_of_ble_eq_true rfl) rfl (tX12_cheapest G.2.2.2.1 _ _ _ M _ h) wm_L_87 wi_X12_cheapest wv_X12_cheapest wz_X12 wc_X12_cheapest rfl yd_X12_cheapest rfl ⟨rfl, rfl⟩ ⟨Nat.le_of_ble_eq_true rfl, Nat.le_of_ble_eq_true rfl⟩ (Nat.le_of_ble_eq_true rfl) rfl dL_law_779 (y_ki (PQ := fun M' => PPc g g' C' M') (fun r' M' h => ?_))
  exact y_eq Y (tgt := 1262) dL_law_782 (by decide) h.1 (hk C' M' h.2)
set_option maxHeartbeats 4000000 in
set_option maxRecDepth 100000 in
theorem yc_17 {x : xCx} {b L : Nat} {xs : Nat → Int32} (Y : yOk x b L xs) {g g' : xG} (G : yG x g g') {RR : xMem → xMem → Prop} (hm : ∀ (a0 a1 : Int32) (C M : xMem), RR C M → wX11_buys a0 a1 C (fun r C' => wX12_buys a0 a1 M (fun r' M' => r = r' ∧ RR C' M'))) (i : Nat) (hi : i + 6 ≤ L) {C M : xMem} (hRR : RR C M) (hk : ∀ C' M', RR C' M' → yW x 1262 (yL g g' b i) [] (PPc g g' C' M')) : yW x 787 (yL g g' b i) [] (PPc g g' C M) := by
  refine y_aload_n Y 1 rfl rfl dL_law_787 ?_
  refine y_aload_n Y 0 rfl rfl dL_law_788 ?_
  refine y_iload_n Y 3 rfl rfl dL_law_789 ?_
  refine y_iconst Y (v1 := 1) dL_law_790 (by decide) ?_
  refine y_iadd Y dL_law_791 ?_
  refine y_sld Y (y_inL (k := 1) hi Y.x8) dL_law_792 ?_
  refine y_aload_n Y 0 rfl rfl dL_law_793 ?_
  refine y_iload_n Y 3 rfl rfl dL_law_794 ?_
  refine y_iconst Y (v1 := 2) dL_law_795 (by decide) ?_
  refine y_iadd Y dL_law_796 ?_
  refine y_sld Y (y_inL (k := 2) hi Y.x8) dL_law_797 ?_
  refine y_call Y (w := WC g) (PQ := fun C' => PPc g g' C' M) (M0 := C) (st := []) (As := [.int (xs (nI i + 1).toNatClampNeg), .int (xs (nI i + 2).toNatClampNeg)]) (c := 0) G.1 G.2.2.2.2.1 G.2.2.2.2.2.2.2 (x_stC g) (fun H h => h.1) (PP_putC G) (enC_11 (c := 0) rfl) (Nat.le_of_ble_eq_true rfl) rfl (tX11_buys G.2.2.1 _ _ _ C _ (hm _ _ C M hRR)) wm_L_88 wi_X11_buys wv_X11_buys wz_X11 wc_X11_buys rfl yd_X11_buys rfl ⟨rfl, rfl⟩ ⟨Nat.le_of_ble_eq_true rfl, Nat.le_of_ble_eq_true rfl⟩ (Nat.le_of_ble_eq_true rfl) rfl dL_law_798 (y_ki (PQ := fun C' => PPc g g' C' M) (fun r C' h => ?_))
  refine y_aload_n Y 2 rfl rfl dL_law_801 ?_
  refine y_aload_n Y 0 rfl rfl dL_law_802 ?_
  refine y_iload_n Y 3 rfl rfl dL_law_803 ?_
  refine y_iconst Y (v1 := 1) dL_law_804 (by decide) ?_
  refine y_iadd Y dL_law_805 ?_
  refine y_sld Y (y_inL (k := 1) hi Y.x8) dL_law_806 ?_
  refine y_aload_n Y 0 rfl rfl dL_law_807 ?_
  refine y_iload_n Y 3 rfl rfl dL_law_808 ?_
  refine y_iconst Y (v1 := 2) dL_law_809 (by decide) ?_
  refine y_iadd Y dL_law_810 ?_
  refine y_sld Y (y_inL (k := 2) hi Y.x8) dL_law_811 ?_
  refine y_call Y (w := WM g') (PQ := fun M' => PPc g g' C' M') (M0 := M) (st := [.int r]) (As := [.int (xs (nI i + 1).toNatClampNeg), .int (xs (nI i + 2).toNatClampNeg)]) (c := 0) G.2.1 G.2.2.2.2.2.1 trivial (x_stM g') (fun H h => h.2) (PP_putM G) (enM_12 (c := 0) rfl) (Nat.le_of_ble_eq_true rfl) rfl (tX12_buys G.2.2.2.1 _ _ _ M _ h) wm_L_91 wi_X12_buys wv_X12_buys wz_X12 wc_X12_buys rfl yd_X12_buys rfl ⟨rfl, rfl⟩ ⟨Nat.le_of_ble_eq_true rfl, Nat.le_of_ble_eq_true rfl⟩ (Nat.le_of_ble_eq_true rfl) rfl dL_law_812 (y_ki (PQ := fun M' => PPc g g' C' M') (fun r' M' h => ?_))
  exact y_eq Y (tgt := 1262) dL_law_815 (by decide) h.1 (hk C' M' h.2)
set_option maxHeartbeats 4000000 in
set_option maxRecDepth 100000 in
theorem yc_18 {x : xCx} {b L : Nat} {xs : Nat → Int32} (Y : yOk x b L xs) {g g' : xG} (G : yG x g g') {RR : xMem → xMem → Prop} (hm : ∀ (a0 a1 a2 : Int32) (C M : xMem), RR C M → wX11_fitting a0 a1 a2 C (fun r C' => wX12_fitting a0 a1 a2 M (fun r' M' => r = r' ∧ RR C' M'))) (i : Nat) (hi : i + 6 ≤ L) {C M : xMem} (hRR : RR C M) (hk : ∀ C' M', RR C' M' → yW x 1262 (yL g g' b i) [] (PPc g g' C' M')) : yW x 820 (yL g g' b i) [] (PPc g g' C M) := by
  refine y_aload_n Y 1 rfl rfl dL_law_820 ?_
  refine y_aload_n Y 0 rfl rfl dL_law_821 ?_
  refine y_iload_n Y 3 rfl rfl dL_law_822 ?_
  refine y_iconst Y (v1 := 1) dL_law_823 (by decide) ?_
  refine y_iadd Y dL_law_824 ?_
  refine y_sld Y (y_inL (k := 1) hi Y.x8) dL_law_825 ?_
  refine y_aload_n Y 0 rfl rfl dL_law_826 ?_
  refine y_iload_n Y 3 rfl rfl dL_law_827 ?_
  refine y_iconst Y (v1 := 2) dL_law_828 (by decide) ?_
  refine y_iadd Y dL_law_829 ?_
  refine y_sld Y (y_inL (k := 2) hi Y.x8) dL_law_830 ?_
  refine y_aload_n Y 0 rfl rfl dL_law_831 ?_
  refine y_iload_n Y 3 rfl rfl dL_law_832 ?_
  refine y_iconst Y (v1 := 3) dL_law_833 (by decide) ?_
  refine y_iadd Y dL_law_834 ?_
  refine y_sld Y (y_inL (k := 3) hi Y.x8) dL_law_835 ?_
  refine y_call Y (w := WC g) (PQ := fun C' => PPc g g' C' M) (M0 := C) (st := []) (As := [.int (xs (nI i + 1).toNatClampNeg), .int (xs (nI i + 2).toNatClampNeg), .int (xs (nI i + 3).toNatClampNeg)]) (c := 0) G.1 G.2.2.2.2.1 G.2.2.2.2.2.2.2 (x_stC g) (fun H h => h.1) (PP_putC G) (enC_11 (c := 0) rfl) (Nat.le_of_ble_eq_true rfl) rfl (tX11_fitting G.2.2.1 _ _ _ _ C _ (hm _ _ _ C M hRR)) wm_L_92 wi_X11_fitting wv_X11_fitting wz_X11 wc_X11_fitting rfl yd_X11_fitting rfl ⟨rfl, rfl⟩ ⟨Nat.le_of_ble_eq_true rfl, Nat.le_of_ble_eq_true rfl⟩ (Nat.le_of_ble_eq_true rfl) rfl dL_law_836 (y_ki (PQ := fun C' => PPc g g' C' M) (fun r C' h => ?_))
  refine y_aload_n Y 2 rfl rfl dL_law_839 ?_
  refine y_aload_n Y 0 rfl rfl dL_law_840 ?_
  refine y_iload_n Y 3 rfl rfl dL_law_841 ?_
  refine y_iconst Y (v1 := 1) dL_law_842 (by decide) ?_
  refine y_iadd Y dL_law_843 ?_
  refine y_sld Y (y_inL (k := 1) hi Y.x8) dL_law_844 ?_
  refine y_aload_n Y 0 rfl rfl dL_law_845 ?_
  refine y_iload_n Y 3 rfl rfl dL_law_846 ?_
  refine y_iconst Y (v1 := 2) dL_law_847 (by decide) ?_
  refine y_iadd Y dL_law_848 ?_
  refine y_sld Y (y_inL (k := 2) hi Y.x8) dL_law_849 ?_
  refine y_aload_n Y 0 rfl rfl dL_law_850 ?_
  refine y_iload_n Y 3 rfl rfl dL_law_851 ?_
  refine y_iconst Y (v1 := 3) dL_law_852 (by decide) ?_
  refine y_iadd Y dL_law_853 ?_
  refine y_sld Y (y_inL (k := 3) hi Y.x8) dL_law_854 ?_
  refine y_call Y (w := WM g') (PQ := fun M' => PPc g g' C' M') (M0 := M) (st := [.int r]) (As := [.int (xs (nI i + 1).toNatClampNeg), .int (xs (nI i + 2).toNatClampNeg), .int (xs (nI i + 3).toNatClampNeg)]) (c := 0) G.2.1 G.2.2.2.2.2.1 trivial (x_stM g') (fun H h => h.2) (PP_putM G) (enM_12 (c := 0) rfl) (Nat.le_of_ble_eq_true rfl) rfl (tX12_fitting G.2.2.2.1 _ _ _ _ M _ h) wm_L_95 wi_X12_fitting wv_X12_fitting wz_X12 wc_X12_fitting rfl yd_X12_fitting rfl ⟨rfl, rfl⟩ ⟨Nat.le_of_ble_eq_true rfl, Nat.le_of_ble_eq_true rfl⟩ (Nat.le_of_ble_eq_true rfl) rfl dL_law_855 (y_ki (PQ := fun M' => PPc g g' C' M') (fun r' M' h => ?_))
  exact y_eq Y (tgt := 1262) dL_law_858 (by decide) h.1 (hk C' M' h.2)
set_option maxHeartbeats 4000000 in
set_option maxRecDepth 100000 in
theorem yc_19 {x : xCx} {b L : Nat} {xs : Nat → Int32} (Y : yOk x b L xs) {g g' : xG} (G : yG x g g') {RR : xMem → xMem → Prop} (hm : ∀ (a0 a1 a2 : Int32) (C M : xMem), RR C M → wX11_wouldDo a0 a1 a2 C (fun r C' => wX12_wouldDo a0 a1 a2 M (fun r' M' => r = r' ∧ RR C' M'))) (i : Nat) (hi : i + 6 ≤ L) {C M : xMem} (hRR : RR C M) (hk : ∀ C' M', RR C' M' → yW x 1262 (yL g g' b i) [] (PPc g g' C' M')) : yW x 863 (yL g g' b i) [] (PPc g g' C M) := by
  refine y_aload_n Y 1 rfl rfl dL_law_863 ?_
  refine y_aload_n Y 0 rfl rfl dL_law_864 ?_
  refine y_iload_n Y 3 rfl rfl dL_law_865 ?_
  refine y_iconst Y (v1 := 1) dL_law_866 (by decide) ?_
  refine y_iadd Y dL_law_867 ?_
  refine y_sld Y (y_inL (k := 1) hi Y.x8) dL_law_868 ?_
  refine y_aload_n Y 0 rfl rfl dL_law_869 ?_
  refine y_iload_n Y 3 rfl rfl dL_law_870 ?_
  refine y_iconst Y (v1 := 2) dL_law_871 (by decide) ?_
  refine y_iadd Y dL_law_872 ?_
  refine y_sld Y (y_inL (k := 2) hi Y.x8) dL_law_873 ?_
  refine y_aload_n Y 0 rfl rfl dL_law_874 ?_
  refine y_iload_n Y 3 rfl rfl dL_law_875 ?_
  refine y_iconst Y (v1 := 3) dL_law_876 (by decide) ?_
  refine y_iadd Y dL_law_877 ?_
  refine y_sld Y (y_inL (k := 3) hi Y.x8) dL_law_878 ?_
  refine y_call Y (w := WC g) (PQ := fun C' => PPc g g' C' M) (M0 := C) (st := []) (As := [.int (xs (nI i + 1).toNatClampNeg), .int (xs (nI i + 2).toNatClampNeg), .int (xs (nI i + 3).toNatClampNeg)]) (c := 0) G.1 G.2.2.2.2.1 G.2.2.2.2.2.2.2 (x_stC g) (fun H h => h.1) (PP_putC G) (enC_11 (c := 0) rfl) (Nat.le_of_ble_eq_true rfl) rfl (tX11_wouldDo G.2.2.1 _ _ _ _ C _ (hm _ _ _ C M hRR)) wm_L_96 wi_X11_wouldDo wv_X11_wouldDo wz_X11 wc_X11_wouldDo rfl yd_X11_wouldDo rfl ⟨rfl, rfl⟩ ⟨Nat.le_of_ble_eq_true rfl, Nat.le_of_ble_eq_true rfl⟩ (Nat.le_of_ble_eq_true rfl) rfl dL_law_879 (y_ki (PQ := fun C' => PPc g g' C' M) (fun r C' h => ?_))
  refine y_aload_n Y 2 rfl rfl dL_law_882 ?_
  refine y_aload_n Y 0 rfl rfl dL_law_883 ?_
  refine y_iload_n Y 3 rfl rfl dL_law_884 ?_
  refine y_iconst Y (v1 := 1) dL_law_885 (by decide) ?_
  refine y_iadd Y dL_law_886 ?_
  refine y_sld Y (y_inL (k := 1) hi Y.x8) dL_law_887 ?_
  refine y_aload_n Y 0 rfl rfl dL_law_888 ?_
  refine y_iload_n Y 3 rfl rfl dL_law_889 ?_
  refine y_iconst Y (v1 := 2) dL_law_890 (by decide) ?_
  refine y_iadd Y dL_law_891 ?_
  refine y_sld Y (y_inL (k := 2) hi Y.x8) dL_law_892 ?_
  refine y_aload_n Y 0 rfl rfl dL_law_893 ?_
  refine y_iload_n Y 3 rfl rfl dL_law_894 ?_
  refine y_iconst Y (v1 := 3) dL_law_895 (by decide) ?_
  refine y_iadd Y dL_law_896 ?_
  refine y_sld Y (y_inL (k := 3) hi Y.x8) dL_law_897 ?_
  refine y_call Y (w := WM g') (PQ := fun M' => PPc g g' C' M') (M0 := M) (st := [.int r]) (As := [.int (xs (nI i + 1).toNatClampNeg), .int (xs (nI i + 2).toNatClampNeg), .int (xs (nI i + 3).toNatClampNeg)]) (c := 0) G.2.1 G.2.2.2.2.2.1 trivial (x_stM g') (fun H h => h.2) (PP_putM G) (enM_12 (c := 0) rfl) (Nat.le_of_ble_eq_true rfl) rfl (tX12_wouldDo G.2.2.2.1 _ _ _ _ M _ h) wm_L_99 wi_X12_wouldDo wv_X12_wouldDo wz_X12 wc_X12_wouldDo rfl yd_X12_wouldDo rfl ⟨rfl, rfl⟩ ⟨Nat.le_of_ble_eq_true rfl, Nat.le_of_ble_eq_true rfl⟩ (Nat.le_of_ble_eq_true rfl) rfl dL_law_898 (y_ki (PQ := fun M' => PPc g g' C' M') (fun r' M' h => ?_))
  exact y_eq Y (tgt := 1262) dL_law_901 (by decide) h.1 (hk C' M' h.2)
set_option maxHeartbeats 4000000 in
set_option maxRecDepth 100000 in
theorem yc_20 {x : xCx} {b L : Nat} {xs : Nat → Int32} (Y : yOk x b L xs) {g g' : xG} (G : yG x g g') {RR : xMem → xMem → Prop} (hm : ∀ (a0 a1 : Int32) (C M : xMem), RR C M → wX11_series a0 a1 C (fun r C' => wX12_series a0 a1 M (fun r' M' => r = r' ∧ RR C' M'))) (i : Nat) (hi : i + 6 ≤ L) {C M : xMem} (hRR : RR C M) (hk : ∀ C' M', RR C' M' → yW x 1262 (yL g g' b i) [] (PPc g g' C' M')) : yW x 906 (yL g g' b i) [] (PPc g g' C M) := by
  refine y_aload_n Y 1 rfl rfl dL_law_906 ?_
  refine y_aload_n Y 0 rfl rfl dL_law_907 ?_
  refine y_iload_n Y 3 rfl rfl dL_law_908 ?_
  refine y_iconst Y (v1 := 1) dL_law_909 (by decide) ?_
  refine y_iadd Y dL_law_910 ?_
  refine y_sld Y (y_inL (k := 1) hi Y.x8) dL_law_911 ?_
  refine y_aload_n Y 0 rfl rfl dL_law_912 ?_
  refine y_iload_n Y 3 rfl rfl dL_law_913 ?_
  refine y_iconst Y (v1 := 2) dL_law_914 (by decide) ?_
  refine y_iadd Y dL_law_915 ?_
  refine y_sld Y (y_inL (k := 2) hi Y.x8) dL_law_916 ?_
  refine y_call Y (w := WC g) (PQ := fun C' => PPc g g' C' M) (M0 := C) (st := []) (As := [.int (xs (nI i + 1).toNatClampNeg), .int (xs (nI i + 2).toNatClampNeg)]) (c := 0) G.1 G.2.2.2.2.1 G.2.2.2.2.2.2.2 (x_stC g) (fun H h => h.1) (PP_putC G) (enC_11 (c := 0) rfl) (Nat.le_of_ble_eq_true rfl) rfl (tX11_series G.2.2.1 _ _ _ C _ (hm _ _ C M hRR)) wm_L_100 wi_X11_series wv_X11_series wz_X11 wc_X11_series rfl yd_X11_series rfl ⟨rfl, rfl⟩ ⟨Nat.le_of_ble_eq_true rfl, Nat.le_of_ble_eq_true rfl⟩ (Nat.le_of_ble_eq_true rfl) rfl dL_law_917 (y_ki (PQ := fun C' => PPc g g' C' M) (fun r C' h => ?_))
  refine y_aload_n Y 2 rfl rfl dL_law_920 ?_
  refine y_aload_n Y 0 rfl rfl dL_law_921 ?_
  refine y_iload_n Y 3 rfl rfl dL_law_922 ?_
  refine y_iconst Y (v1 := 1) dL_law_923 (by decide) ?_
  refine y_iadd Y dL_law_924 ?_
  refine y_sld Y (y_inL (k := 1) hi Y.x8) dL_law_925 ?_
  refine y_aload_n Y 0 rfl rfl dL_law_926 ?_
  refine y_iload_n Y 3 rfl rfl dL_law_927 ?_
  refine y_iconst Y (v1 := 2) dL_law_928 (by decide) ?_
  refine y_iadd Y dL_law_929 ?_
  refine y_sld Y (y_inL (k := 2) hi Y.x8) dL_law_930 ?_
  refine y_call Y (w := WM g') (PQ := fun M' => PPc g g' C' M') (M0 := M) (st := [.int r]) (As := [.int (xs (nI i + 1).toNatClampNeg), .int (xs (nI i + 2).toNatClampNeg)]) (c := 0) G.2.1 G.2.2.2.2.2.1 trivial (x_stM g') (fun H h => h.2) (PP_putM G) (enM_12 (c := 0) rfl) (Nat.le_of_ble_eq_true rfl) rfl (tX12_series G.2.2.2.1 _ _ _ M _ h) wm_L_103 wi_X12_series wv_X12_series wz_X12 wc_X12_series rfl yd_X12_series rfl ⟨rfl, rfl⟩ ⟨Nat.le_of_ble_eq_true rfl, Nat.le_of_ble_eq_true rfl⟩ (Nat.le_of_ble_eq_true rfl) rfl dL_law_931 (y_ki (PQ := fun M' => PPc g g' C' M') (fun r' M' h => ?_))
  exact y_eq Y (tgt := 1262) dL_law_934 (by decide) h.1 (hk C' M' h.2)
set_option maxHeartbeats 4000000 in
set_option maxRecDepth 100000 in
theorem yc_21 {x : xCx} {b L : Nat} {xs : Nat → Int32} (Y : yOk x b L xs) {g g' : xG} (G : yG x g g') {RR : xMem → xMem → Prop} (hm : ∀ (C M : xMem), RR C M → wX11_knots  C (fun r C' => wX12_knots  M (fun r' M' => r = r' ∧ RR C' M'))) (i : Nat) (hi : i + 6 ≤ L) {C M : xMem} (hRR : RR C M) (hk : ∀ C' M', RR C' M' → yW x 1262 (yL g g' b i) [] (PPc g g' C' M')) : yW x 939 (yL g g' b i) [] (PPc g g' C M) := by
  refine y_aload_n Y 1 rfl rfl dL_law_939 ?_
  refine y_call Y (w := WC g) (PQ := fun C' => PPc g g' C' M) (M0 := C) (st := []) (As := []) (c := 0) G.1 G.2.2.2.2.1 G.2.2.2.2.2.2.2 (x_stC g) (fun H h => h.1) (PP_putC G) (enC_11 (c := 0) rfl) (Nat.le_of_ble_eq_true rfl) rfl (tX11_knots G.2.2.1 _  C _ (hm  C M hRR)) wm_L_104 wi_X11_knots wv_X11_knots wz_X11 wc_X11_knots rfl yd_X11_knots rfl ⟨rfl, rfl⟩ ⟨Nat.le_of_ble_eq_true rfl, Nat.le_of_ble_eq_true rfl⟩ (Nat.le_of_ble_eq_true rfl) rfl dL_law_940 (y_ki (PQ := fun C' => PPc g g' C' M) (fun r C' h => ?_))
  refine y_aload_n Y 2 rfl rfl dL_law_943 ?_
  refine y_call Y (w := WM g') (PQ := fun M' => PPc g g' C' M') (M0 := M) (st := [.int r]) (As := []) (c := 0) G.2.1 G.2.2.2.2.2.1 trivial (x_stM g') (fun H h => h.2) (PP_putM G) (enM_12 (c := 0) rfl) (Nat.le_of_ble_eq_true rfl) rfl (tX12_knots G.2.2.2.1 _  M _ h) wm_L_107 wi_X12_knots wv_X12_knots wz_X12 wc_X12_knots rfl yd_X12_knots rfl ⟨rfl, rfl⟩ ⟨Nat.le_of_ble_eq_true rfl, Nat.le_of_ble_eq_true rfl⟩ (Nat.le_of_ble_eq_true rfl) rfl dL_law_944 (y_ki (PQ := fun M' => PPc g g' C' M') (fun r' M' h => ?_))
  exact y_eq Y (tgt := 1262) dL_law_947 (by decide) h.1 (hk C' M' h.2)
set_option maxHeartbeats 4000000 in
set_option maxRecDepth 100000 in
theorem yc_22 {x : xCx} {b L : Nat} {xs : Nat → Int32} (Y : yOk x b L xs) {g g' : xG} (G : yG x g g') {RR : xMem → xMem → Prop} (hm : ∀ (a0 a1 a2 : Int32) (C M : xMem), RR C M → wX11_winter a0 a1 a2 C (fun r C' => wX12_winter a0 a1 a2 M (fun r' M' => r = r' ∧ RR C' M'))) (i : Nat) (hi : i + 6 ≤ L) {C M : xMem} (hRR : RR C M) (hk : ∀ C' M', RR C' M' → yW x 1262 (yL g g' b i) [] (PPc g g' C' M')) : yW x 952 (yL g g' b i) [] (PPc g g' C M) := by
  refine y_aload_n Y 1 rfl rfl dL_law_952 ?_
  refine y_aload_n Y 0 rfl rfl dL_law_953 ?_
  refine y_iload_n Y 3 rfl rfl dL_law_954 ?_
  refine y_iconst Y (v1 := 1) dL_law_955 (by decide) ?_
  refine y_iadd Y dL_law_956 ?_
  refine y_sld Y (y_inL (k := 1) hi Y.x8) dL_law_957 ?_
  refine y_aload_n Y 0 rfl rfl dL_law_958 ?_
  refine y_iload_n Y 3 rfl rfl dL_law_959 ?_
  refine y_iconst Y (v1 := 2) dL_law_960 (by decide) ?_
  refine y_iadd Y dL_law_961 ?_
  refine y_sld Y (y_inL (k := 2) hi Y.x8) dL_law_962 ?_
  refine y_aload_n Y 0 rfl rfl dL_law_963 ?_
  refine y_iload_n Y 3 rfl rfl dL_law_964 ?_
  refine y_iconst Y (v1 := 3) dL_law_965 (by decide) ?_
  refine y_iadd Y dL_law_966 ?_
  refine y_sld Y (y_inL (k := 3) hi Y.x8) dL_law_967 ?_
  refine y_call Y (w := WC g) (PQ := fun C' => PPc g g' C' M) (M0 := C) (st := []) (As := [.int (xs (nI i + 1).toNatClampNeg), .int (xs (nI i + 2).toNatClampNeg), .int (xs (nI i + 3).toNatClampNeg)]) (c := 0) G.1 G.2.2.2.2.1 G.2.2.2.2.2.2.2 (x_stC g) (fun H h => h.1) (PP_putC G) (enC_11 (c := 0) rfl) (Nat.le_of_ble_eq_true rfl) rfl (tX11_winter G.2.2.1 _ _ _ _ C _ (hm _ _ _ C M hRR)) wm_L_108 wi_X11_winter wv_X11_winter wz_X11 wc_X11_winter rfl yd_X11_winter rfl ⟨rfl, rfl⟩ ⟨Nat.le_of_ble_eq_true rfl, Nat.le_of_ble_eq_true rfl⟩ (Nat.le_of_ble_eq_true rfl) rfl dL_law_968 (y_ki (PQ := fun C' => PPc g g' C' M) (fun r C' h => ?_))
  refine y_aload_n Y 2 rfl rfl dL_law_971 ?_
  refine y_aload_n Y 0 rfl rfl dL_law_972 ?_
  refine y_iload_n Y 3 rfl rfl dL_law_973 ?_
  refine y_iconst Y (v1 := 1) dL_law_974 (by decide) ?_
  refine y_iadd Y dL_law_975 ?_
  refine y_sld Y (y_inL (k := 1) hi Y.x8) dL_law_976 ?_
  refine y_aload_n Y 0 rfl rfl dL_law_977 ?_
  refine y_iload_n Y 3 rfl rfl dL_law_978 ?_
  refine y_iconst Y (v1 := 2) dL_law_979 (by decide) ?_
  refine y_iadd Y dL_law_980 ?_
  refine y_sld Y (y_inL (k := 2) hi Y.x8) dL_law_981 ?_
  refine y_aload_n Y 0 rfl rfl dL_law_982 ?_
  refine y_iload_n Y 3 rfl rfl dL_law_983 ?_
  refine y_iconst Y (v1 := 3) dL_law_984 (by decide) ?_
  refine y_iadd Y dL_law_985 ?_
  refine y_sld Y (y_inL (k := 3) hi Y.x8) dL_law_986 ?_
  refine y_call Y (w := WM g') (PQ := fun M' => PPc g g' C' M') (M0 := M) (st := [.int r]) (As := [.int (xs (nI i + 1).toNatClampNeg), .int (xs (nI i + 2).toNatClampNeg), .int (xs (nI i + 3).toNatClampNeg)]) (c := 0) G.2.1 G.2.2.2.2.2.1 trivial (x_stM g') (fun H h => h.2) (PP_putM G) (enM_12 (c := 0) rfl) (Nat.le_of_ble_eq_true rfl) rfl (tX12_winter G.2.2.2.1 _ _ _ _ M _ h) wm_L_111 wi_X12_winter wv_X12_winter wz_X12 wc_X12_winter rfl yd_X12_winter rfl ⟨rfl, rfl⟩ ⟨Nat.le_of_ble_eq_true rfl, Nat.le_of_ble_eq_true rfl⟩ (Nat.le_of_ble_eq_true rfl) rfl dL_law_987 (y_ki (PQ := fun M' => PPc g g' C' M') (fun r' M' h => ?_))
  exact y_eq Y (tgt := 1262) dL_law_990 (by decide) h.1 (hk C' M' h.2)
set_option maxHeartbeats 4000000 in
set_option maxRecDepth 100000 in
theorem yc_23 {x : xCx} {b L : Nat} {xs : Nat → Int32} (Y : yOk x b L xs) {g g' : xG} (G : yG x g g') {RR : xMem → xMem → Prop} (hm : ∀ (a0 a1 : Int32) (C M : xMem), RR C M → wX11_lent a0 a1 C (fun r C' => wX12_lent a0 a1 M (fun r' M' => r = r' ∧ RR C' M'))) (i : Nat) (hi : i + 6 ≤ L) {C M : xMem} (hRR : RR C M) (hk : ∀ C' M', RR C' M' → yW x 1262 (yL g g' b i) [] (PPc g g' C' M')) : yW x 995 (yL g g' b i) [] (PPc g g' C M) := by
  refine y_aload_n Y 1 rfl rfl dL_law_995 ?_
  refine y_aload_n Y 0 rfl rfl dL_law_996 ?_
  refine y_iload_n Y 3 rfl rfl dL_law_997 ?_
  refine y_iconst Y (v1 := 1) dL_law_998 (by decide) ?_
  refine y_iadd Y dL_law_999 ?_
  refine y_sld Y (y_inL (k := 1) hi Y.x8) dL_law_1000 ?_
  refine y_aload_n Y 0 rfl rfl dL_law_1001 ?_
  refine y_iload_n Y 3 rfl rfl dL_law_1002 ?_
  refine y_iconst Y (v1 := 2) dL_law_1003 (by decide) ?_
  refine y_iadd Y dL_law_1004 ?_
  refine y_sld Y (y_inL (k := 2) hi Y.x8) dL_law_1005 ?_
  refine y_call Y (w := WC g) (PQ := fun C' => PPc g g' C' M) (M0 := C) (st := []) (As := [.int (xs (nI i + 1).toNatClampNeg), .int (xs (nI i + 2).toNatClampNeg)]) (c := 0) G.1 G.2.2.2.2.1 G.2.2.2.2.2.2.2 (x_stC g) (fun H h => h.1) (PP_putC G) (enC_11 (c := 0) rfl) (Nat.le_of_ble_eq_true rfl) rfl (tX11_lent G.2.2.1 _ _ _ C _ (hm _ _ C M hRR)) wm_L_112 wi_X11_lent wv_X11_lent wz_X11 wc_X11_lent rfl yd_X11_lent rfl ⟨rfl, rfl⟩ ⟨Nat.le_of_ble_eq_true rfl, Nat.le_of_ble_eq_true rfl⟩ (Nat.le_of_ble_eq_true rfl) rfl dL_law_1006 (y_ki (PQ := fun C' => PPc g g' C' M) (fun r C' h => ?_))
  refine y_aload_n Y 2 rfl rfl dL_law_1009 ?_
  refine y_aload_n Y 0 rfl rfl dL_law_1010 ?_
  refine y_iload_n Y 3 rfl rfl dL_law_1011 ?_
  refine y_iconst Y (v1 := 1) dL_law_1012 (by decide) ?_
  refine y_iadd Y dL_law_1013 ?_
  refine y_sld Y (y_inL (k := 1) hi Y.x8) dL_law_1014 ?_
  refine y_aload_n Y 0 rfl rfl dL_law_1015 ?_
  refine y_iload_n Y 3 rfl rfl dL_law_1016 ?_
  refine y_iconst Y (v1 := 2) dL_law_1017 (by decide) ?_
  refine y_iadd Y dL_law_1018 ?_
  refine y_sld Y (y_inL (k := 2) hi Y.x8) dL_law_1019 ?_
  refine y_call Y (w := WM g') (PQ := fun M' => PPc g g' C' M') (M0 := M) (st := [.int r]) (As := [.int (xs (nI i + 1).toNatClampNeg), .int (xs (nI i + 2).toNatClampNeg)]) (c := 0) G.2.1 G.2.2.2.2.2.1 trivial (x_stM g') (fun H h => h.2) (PP_putM G) (enM_12 (c := 0) rfl) (Nat.le_of_ble_eq_true rfl) rfl (tX12_lent G.2.2.2.1 _ _ _ M _ h) wm_L_115 wi_X12_lent wv_X12_lent wz_X12 wc_X12_lent rfl yd_X12_lent rfl ⟨rfl, rfl⟩ ⟨Nat.le_of_ble_eq_true rfl, Nat.le_of_ble_eq_true rfl⟩ (Nat.le_of_ble_eq_true rfl) rfl dL_law_1020 (y_ki (PQ := fun M' => PPc g g' C' M') (fun r' M' h => ?_))
  exact y_eq Y (tgt := 1262) dL_law_1023 (by decide) h.1 (hk C' M' h.2)
set_option maxHeartbeats 4000000 in
set_option maxRecDepth 100000 in
theorem yc_24 {x : xCx} {b L : Nat} {xs : Nat → Int32} (Y : yOk x b L xs) {g g' : xG} (G : yG x g g') {RR : xMem → xMem → Prop} (hm : ∀ (a0 a1 a2 a3 : Int32) (C M : xMem), RR C M → wX11_forged a0 a1 a2 a3 C (fun r C' => wX12_forged a0 a1 a2 a3 M (fun r' M' => r = r' ∧ RR C' M'))) (i : Nat) (hi : i + 6 ≤ L) {C M : xMem} (hRR : RR C M) (hk : ∀ C' M', RR C' M' → yW x 1262 (yL g g' b i) [] (PPc g g' C' M')) : yW x 1028 (yL g g' b i) [] (PPc g g' C M) := by
  refine y_aload_n Y 1 rfl rfl dL_law_1028 ?_
  refine y_aload_n Y 0 rfl rfl dL_law_1029 ?_
  refine y_iload_n Y 3 rfl rfl dL_law_1030 ?_
  refine y_iconst Y (v1 := 1) dL_law_1031 (by decide) ?_
  refine y_iadd Y dL_law_1032 ?_
  refine y_sld Y (y_inL (k := 1) hi Y.x8) dL_law_1033 ?_
  refine y_aload_n Y 0 rfl rfl dL_law_1034 ?_
  refine y_iload_n Y 3 rfl rfl dL_law_1035 ?_
  refine y_iconst Y (v1 := 2) dL_law_1036 (by decide) ?_
  refine y_iadd Y dL_law_1037 ?_
  refine y_sld Y (y_inL (k := 2) hi Y.x8) dL_law_1038 ?_
  refine y_aload_n Y 0 rfl rfl dL_law_1039 ?_
  refine y_iload_n Y 3 rfl rfl dL_law_1040 ?_
  refine y_iconst Y (v1 := 3) dL_law_1041 (by decide) ?_
  refine y_iadd Y dL_law_1042 ?_
  refine y_sld Y (y_inL (k := 3) hi Y.x8) dL_law_1043 ?_
  refine y_aload_n Y 0 rfl rfl dL_law_1044 ?_
  refine y_iload_n Y 3 rfl rfl dL_law_1045 ?_
  refine y_iconst Y (v1 := 4) dL_law_1046 (by decide) ?_
  refine y_iadd Y dL_law_1047 ?_
  refine y_sld Y (y_inL (k := 4) hi Y.x8) dL_law_1048 ?_
  refine y_call Y (w := WC g) (PQ := fun C' => PPc g g' C' M) (M0 := C) (st := []) (As := [.int (xs (nI i + 1).toNatClampNeg), .int (xs (nI i + 2).toNatClampNeg), .int (xs (nI i + 3).toNatClampNeg), .int (xs (nI i + 4).toNatClampNeg)]) (c := 0) G.1 G.2.2.2.2.1 G.2.2.2.2.2.2.2 (x_stC g) (fun H h => h.1) (PP_putC G) (enC_11 (c := 0) rfl) (Nat.le_of_ble_eq_true rfl) rfl (tX11_forged G.2.2.1 _ _ _ _ _ C _ (hm _ _ _ _ C M hRR)) wm_L_116 wi_X11_forged wv_X11_forged wz_X11 wc_X11_forged rfl yd_X11_forged rfl ⟨rfl, rfl⟩ ⟨Nat.le_of_ble_eq_true rfl, Nat.le_of_ble_eq_true rfl⟩ (Nat.le_of_ble_eq_true rfl) rfl dL_law_1049 (y_ki (PQ := fun C' => PPc g g' C' M) (fun r C' h => ?_))
  refine y_aload_n Y 2 rfl rfl dL_law_1052 ?_
  refine y_aload_n Y 0 rfl rfl dL_law_1053 ?_
  refine y_iload_n Y 3 rfl rfl dL_law_1054 ?_
  refine y_iconst Y (v1 := 1) dL_law_1055 (by decide) ?_
  refine y_iadd Y dL_law_1056 ?_
  refine y_sld Y (y_inL (k := 1) hi Y.x8) dL_law_1057 ?_
  refine y_aload_n Y 0 rfl rfl dL_law_1058 ?_
  refine y_iload_n Y 3 rfl rfl dL_law_1059 ?_
  refine y_iconst Y (v1 := 2) dL_law_1060 (by decide) ?_
  refine y_iadd Y dL_law_1061 ?_
  refine y_sld Y (y_inL (k := 2) hi Y.x8) dL_law_1062 ?_
  refine y_aload_n Y 0 rfl rfl dL_law_1063 ?_
  refine y_iload_n Y 3 rfl rfl dL_law_1064 ?_
  refine y_iconst Y (v1 := 3) dL_law_1065 (by decide) ?_
  refine y_iadd Y dL_law_1066 ?_
  refine y_sld Y (y_inL (k := 3) hi Y.x8) dL_law_1067 ?_
  refine y_aload_n Y 0 rfl rfl dL_law_1068 ?_
  refine y_iload_n Y 3 rfl rfl dL_law_1069 ?_
  refine y_iconst Y (v1 := 4) dL_law_1070 (by decide) ?_
  refine y_iadd Y dL_law_1071 ?_
  refine y_sld Y (y_inL (k := 4) hi Y.x8) dL_law_1072 ?_
  refine y_call Y (w := WM g') (PQ := fun M' => PPc g g' C' M') (M0 := M) (st := [.int r]) (As := [.int (xs (nI i + 1).toNatClampNeg), .int (xs (nI i + 2).toNatClampNeg), .int (xs (nI i + 3).toNatClampNeg), .int (xs (nI i + 4).toNatClampNeg)]) (c := 0) G.2.1 G.2.2.2.2.2.1 trivial (x_stM g') (fun H h => h.2) (PP_putM G) (enM_12 (c := 0) rfl) (Nat.le_of_ble_eq_true rfl) rfl (tX12_forged G.2.2.2.1 _ _ _ _ _ M _ h) wm_L_120 wi_X12_forged wv_X12_forged wz_X12 wc_X12_forged rfl yd_X12_forged rfl ⟨rfl, rfl⟩ ⟨Nat.le_of_ble_eq_true rfl, Nat.le_of_ble_eq_true rfl⟩ (Nat.le_of_ble_eq_true rfl) rfl dL_law_1073 (y_ki (PQ := fun M' => PPc g g' C' M') (fun r' M' h => ?_))
  exact y_eq Y (tgt := 1262) dL_law_1076 (by decide) h.1 (hk C' M' h.2)
set_option maxHeartbeats 4000000 in
set_option maxRecDepth 100000 in
theorem yc_25 {x : xCx} {b L : Nat} {xs : Nat → Int32} (Y : yOk x b L xs) {g g' : xG} (G : yG x g g') {RR : xMem → xMem → Prop} (hm : ∀ (a0 a1 a2 : Int32) (C M : xMem), RR C M → wX11_yawns a0 a1 a2 C (fun r C' => wX12_yawns a0 a1 a2 M (fun r' M' => r = r' ∧ RR C' M'))) (i : Nat) (hi : i + 6 ≤ L) {C M : xMem} (hRR : RR C M) (hk : ∀ C' M', RR C' M' → yW x 1262 (yL g g' b i) [] (PPc g g' C' M')) : yW x 1081 (yL g g' b i) [] (PPc g g' C M) := by
  refine y_aload_n Y 1 rfl rfl dL_law_1081 ?_
  refine y_aload_n Y 0 rfl rfl dL_law_1082 ?_
  refine y_iload_n Y 3 rfl rfl dL_law_1083 ?_
  refine y_iconst Y (v1 := 1) dL_law_1084 (by decide) ?_
  refine y_iadd Y dL_law_1085 ?_
  refine y_sld Y (y_inL (k := 1) hi Y.x8) dL_law_1086 ?_
  refine y_aload_n Y 0 rfl rfl dL_law_1087 ?_
  refine y_iload_n Y 3 rfl rfl dL_law_1088 ?_
  refine y_iconst Y (v1 := 2) dL_law_1089 (by decide) ?_
  refine y_iadd Y dL_law_1090 ?_
  refine y_sld Y (y_inL (k := 2) hi Y.x8) dL_law_1091 ?_
  refine y_aload_n Y 0 rfl rfl dL_law_1092 ?_
  refine y_iload_n Y 3 rfl rfl dL_law_1093 ?_
  refine y_iconst Y (v1 := 3) dL_law_1094 (by decide) ?_
  refine y_iadd Y dL_law_1095 ?_
  refine y_sld Y (y_inL (k := 3) hi Y.x8) dL_law_1096 ?_
  refine y_call Y (w := WC g) (PQ := fun C' => PPc g g' C' M) (M0 := C) (st := []) (As := [.int (xs (nI i + 1).toNatClampNeg), .int (xs (nI i + 2).toNatClampNeg), .int (xs (nI i + 3).toNatClampNeg)]) (c := 0) G.1 G.2.2.2.2.1 G.2.2.2.2.2.2.2 (x_stC g) (fun H h => h.1) (PP_putC G) (enC_11 (c := 0) rfl) (Nat.le_of_ble_eq_true rfl) rfl (tX11_yawns G.2.2.1 _ _ _ _ C _ (hm _ _ _ C M hRR)) wm_L_121 wi_X11_yawns wv_X11_yawns wz_X11 wc_X11_yawns rfl yd_X11_yawns rfl ⟨rfl, rfl⟩ ⟨Nat.le_of_ble_eq_true rfl, Nat.le_of_ble_eq_true rfl⟩ (Nat.le_of_ble_eq_true rfl) rfl dL_law_1097 (y_ki (PQ := fun C' => PPc g g' C' M) (fun r C' h => ?_))
  refine y_aload_n Y 2 rfl rfl dL_law_1100 ?_
  refine y_aload_n Y 0 rfl rfl dL_law_1101 ?_
  refine y_iload_n Y 3 rfl rfl dL_law_1102 ?_
  refine y_iconst Y (v1 := 1) dL_law_1103 (by decide) ?_
  refine y_iadd Y dL_law_1104 ?_
  refine y_sld Y (y_inL (k := 1) hi Y.x8) dL_law_1105 ?_
  refine y_aload_n Y 0 rfl rfl dL_law_1106 ?_
  refine y_iload_n Y 3 rfl rfl dL_law_1107 ?_
  refine y_iconst Y (v1 := 2) dL_law_1108 (by decide) ?_
  refine y_iadd Y dL_law_1109 ?_
  refine y_sld Y (y_inL (k := 2) hi Y.x8) dL_law_1110 ?_
  refine y_aload_n Y 0 rfl rfl dL_law_1111 ?_
  refine y_iload_n Y 3 rfl rfl dL_law_1112 ?_
  refine y_iconst Y (v1 := 3) dL_law_1113 (by decide) ?_
  refine y_iadd Y dL_law_1114 ?_
  refine y_sld Y (y_inL (k := 3) hi Y.x8) dL_law_1115 ?_
  refine y_call Y (w := WM g') (PQ := fun M' => PPc g g' C' M') (M0 := M) (st := [.int r]) (As := [.int (xs (nI i + 1).toNatClampNeg), .int (xs (nI i + 2).toNatClampNeg), .int (xs (nI i + 3).toNatClampNeg)]) (c := 0) G.2.1 G.2.2.2.2.2.1 trivial (x_stM g') (fun H h => h.2) (PP_putM G) (enM_12 (c := 0) rfl) (Nat.le_of_ble_eq_true rfl) rfl (tX12_yawns G.2.2.2.1 _ _ _ _ M _ h) wm_L_124 wi_X12_yawns wv_X12_yawns wz_X12 wc_X12_yawns rfl yd_X12_yawns rfl ⟨rfl, rfl⟩ ⟨Nat.le_of_ble_eq_true rfl, Nat.le_of_ble_eq_true rfl⟩ (Nat.le_of_ble_eq_true rfl) rfl dL_law_1116 (y_ki (PQ := fun M' => PPc g g' C' M') (fun r' M' h => ?_))
  exact y_eq Y (tgt := 1262) dL_law_1119 (by decide) h.1 (hk C' M' h.2)
set_option maxHeartbeats 4000000 in
set_option maxRecDepth 100000 in
theorem yc_26 {x : xCx} {b L : Nat} {xs : Nat → Int32} (Y : yOk x b L xs) {g g' : xG} (G : yG x g g') {RR : xMem → xMem → Prop} (hm : ∀ (a0 a1 a2 : Int32) (C M : xMem), RR C M → wX11_book a0 a1 a2 C (fun r C' => wX12_book a0 a1 a2 M (fun r' M' => r = r' ∧ RR C' M'))) (i : Nat) (hi : i + 6 ≤ L) {C M : xMem} (hRR : RR C M) (hk : ∀ C' M', RR C' M' → yW x 1262 (yL g g' b i) [] (PPc g g' C' M')) : yW x 1124 (yL g g' b i) [] (PPc g g' C M) := by
  refine y_aload_n Y 1 rfl rfl dL_law_1124 ?_
  refine y_aload_n Y 0 rfl rfl dL_law_1125 ?_
  refine y_iload_n Y 3 rfl rfl dL_law_1126 ?_
  refine y_iconst Y (v1 := 1) dL_law_1127 (by decide) ?_
  refine y_iadd Y dL_law_1128 ?_
  refine y_sld Y (y_inL (k := 1) hi Y.x8) dL_law_1129 ?_
  refine y_aload_n Y 0 rfl rfl dL_law_1130 ?_
  refine y_iload_n Y 3 rfl rfl dL_law_1131 ?_
  refine y_iconst Y (v1 := 2) dL_law_1132 (by decide) ?_
  refine y_iadd Y dL_law_1133 ?_
  refine y_sld Y (y_inL (k := 2) hi Y.x8) dL_law_1134 ?_
  refine y_aload_n Y 0 rfl rfl dL_law_1135 ?_
  refine y_iload_n Y 3 rfl rfl dL_law_1136 ?_
  refine y_iconst Y (v1 := 3) dL_law_1137 (by decide) ?_
  refine y_iadd Y dL_law_1138 ?_
  refine y_sld Y (y_inL (k := 3) hi Y.x8) dL_law_1139 ?_
  refine y_call Y (w := WC g) (PQ := fun C' => PPc g g' C' M) (M0 := C) (st := []) (As := [.int (xs (nI i + 1).toNatClampNeg), .int (xs (nI i + 2).toNatClampNeg), .int (xs (nI i + 3).toNatClampNeg)]) (c := 0) G.1 G.2.2.2.2.1 G.2.2.2.2.2.2.2 (x_stC g) (fun H h => h.1) (PP_putC G) (enC_11 (c := 0) rfl) (Nat.le_of_ble_eq_true rfl) rfl (tX11_book G.2.2.1 _ _ _ _ C _ (hm _ _ _ C M hRR)) wm_L_125 wi_X11_book wv_X11_book wz_X11 wc_X11_book rfl yd_X11_book rfl ⟨rfl, rfl⟩ ⟨Nat.le_of_ble_eq_true rfl, Nat.le_of_ble_eq_true rfl⟩ (Nat.le_of_ble_eq_true rfl) rfl dL_law_1140 (y_ki (PQ := fun C' => PPc g g' C' M) (fun r C' h => ?_))
  refine y_aload_n Y 2 rfl rfl dL_law_1143 ?_
  refine y_aload_n Y 0 rfl rfl dL_law_1144 ?_
  refine y_iload_n Y 3 rfl rfl dL_law_1145 ?_
  refine y_iconst Y (v1 := 1) dL_law_1146 (by decide) ?_
  refine y_iadd Y dL_law_1147 ?_
  refine y_sld Y (y_inL (k := 1) hi Y.x8) dL_law_1148 ?_
  refine y_aload_n Y 0 rfl rfl dL_law_1149 ?_
  refine y_iload_n Y 3 rfl rfl dL_law_1150 ?_
  refine y_iconst Y (v1 := 2) dL_law_1151 (by decide) ?_
  refine y_iadd Y dL_law_1152 ?_
  refine y_sld Y (y_inL (k := 2) hi Y.x8) dL_law_1153 ?_
  refine y_aload_n Y 0 rfl rfl dL_law_1154 ?_
  refine y_iload_n Y 3 rfl rfl dL_law_1155 ?_
  refine y_iconst Y (v1 := 3) dL_law_1156 (by decide) ?_
  refine y_iadd Y dL_law_1157 ?_
  refine y_sld Y (y_inL (k := 3) hi Y.x8) dL_law_1158 ?_
  refine y_call Y (w := WM g') (PQ := fun M' => PPc g g' C' M') (M0 := M) (st := [.int r]) (As := [.int (xs (nI i + 1).toNatClampNeg), .int (xs (nI i + 2).toNatClampNeg), .int (xs (nI i + 3).toNatClampNeg)]) (c := 0) G.2.1 G.2.2.2.2.2.1 trivial (x_stM g') (fun H h => h.2) (PP_putM G) (enM_12 (c := 0) rfl) (Nat.le_of_ble_eq_true rfl) rfl (tX12_book G.2.2.2.1 _ _ _ _ M _ h) wm_L_128 wi_X12_book wv_X12_book wz_X12 wc_X12_book rfl yd_X12_book rfl ⟨rfl, rfl⟩ ⟨Nat.le_of_ble_eq_true rfl, Nat.le_of_ble_eq_true rfl⟩ (Nat.le_of_ble_eq_true rfl) rfl dL_law_1159 (y_ki (PQ := fun M' => PPc g g' C' M') (fun r' M' h => ?_))
  exact y_eq Y (tgt := 1262) dL_law_1162 (by decide) h.1 (hk C' M' h.2)
set_option maxHeartbeats 4000000 in
set_option maxRecDepth 100000 in
theorem yc_27 {x : xCx} {b L : Nat} {xs : Nat → Int32} (Y : yOk x b L xs) {g g' : xG} (G : yG x g g') {RR : xMem → xMem → Prop} (hm : ∀ (a0 : Int32) (C M : xMem), RR C M → wX11_seed a0 C (fun r C' => wX12_seed a0 M (fun r' M' => r = r' ∧ RR C' M'))) (i : Nat) (hi : i + 6 ≤ L) {C M : xMem} (hRR : RR C M) (hk : ∀ C' M', RR C' M' → yW x 1262 (yL g g' b i) [] (PPc g g' C' M')) : yW x 1167 (yL g g' b i) [] (PPc g g' C M) := by
  refine y_aload_n Y 1 rfl rfl dL_law_1167 ?_
  refine y_aload_n Y 0 rfl rfl dL_law_1168 ?_
  refine y_iload_n Y 3 rfl rfl dL_law_1169 ?_
  refine y_iconst Y (v1 := 1) dL_law_1170 (by decide) ?_
  refine y_iadd Y dL_law_1171 ?_
  refine y_sld Y (y_inL (k := 1) hi Y.x8) dL_law_1172 ?_
  refine y_call Y (w := WC g) (PQ := fun C' => PPc g g' C' M) (M0 := C) (st := []) (As := [.int (xs (nI i + 1).toNatClampNeg)]) (c := 0) G.1 G.2.2.2.2.1 G.2.2.2.2.2.2.2 (x_stC g) (fun H h => h.1) (PP_putC G) (enC_11 (c := 0) rfl) (Nat.le_of_ble_eq_true rfl) rfl (tX11_seed G.2.2.1 _ _ C _ (hm _ C M hRR)) wm_L_129 wi_X11_seed wv_X11_seed wz_X11 wc_X11_seed rfl yd_X11_seed rfl ⟨rfl, rfl⟩ ⟨Nat.le_of_ble_eq_true rfl, Nat.le_of_ble_eq_true rfl⟩ (Nat.le_of_ble_eq_true rfl) rfl dL_law_1173 (y_ki (PQ := fun C' => PPc g g' C' M) (fun r C' h => ?_))
  refine y_aload_n Y 2 rfl rfl dL_law_1176 ?_
  refine y_aload_n Y 0 rfl rfl dL_law_1177 ?_
  refine y_iload_n Y 3 rfl rfl dL_law_1178 ?_
  refine y_iconst Y (v1 := 1) dL_law_1179 (by decide) ?_
  refine y_iadd Y dL_law_1180 ?_
  refine y_sld Y (y_inL (k := 1) hi Y.x8) dL_law_1181 ?_
  refine y_call Y (w := WM g') (PQ := fun M' => PPc g g' C' M') (M0 := M) (st := [.int r]) (As := [.int (xs (nI i + 1).toNatClampNeg)]) (c := 0) G.2.1 G.2.2.2.2.2.1 trivial (x_stM g') (fun H h => h.2) (PP_putM G) (enM_12 (c := 0) rfl) (Nat.le_of_ble_eq_true rfl) rfl (tX12_seed G.2.2.2.1 _ _ M _ h) wm_L_133 wi_X12_seed wv_X12_seed wz_X12 wc_X12_seed rfl yd_X12_seed rfl ⟨rfl, rfl⟩ ⟨Nat.le_of_ble_eq_true rfl, Nat.le_of_ble_eq_true rfl⟩ (Nat.le_of_ble_eq_true rfl) rfl dL_law_1182 (y_ki (PQ := fun M' => PPc g g' C' M') (fun r' M' h => ?_))
  exact y_eq Y (tgt := 1262) dL_law_1185 (by decide) h.1 (hk C' M' h.2)
set_option maxHeartbeats 4000000 in
set_option maxRecDepth 100000 in
theorem yc_28 {x : xCx} {b L : Nat} {xs : Nat → Int32} (Y : yOk x b L xs) {g g' : xG} (G : yG x g g') {RR : xMem → xMem → Prop} (hm : ∀ (C M : xMem), RR C M → wX11_keep  C (fun r C' => wX12_keep  M (fun r' M' => r = r' ∧ RR C' M'))) (i : Nat) (hi : i + 6 ≤ L) {C M : xMem} (hRR : RR C M) (hk : ∀ C' M', RR C' M' → yW x 1262 (yL g g' b i) [] (PPc g g' C' M')) : yW x 1190 (yL g g' b i) [] (PPc g g' C M) := by
  refine y_aload_n Y 1 rfl rfl dL_law_1190 ?_
  refine y_call Y (w := WC g) (PQ := fun C' => PPc g g' C' M) (M0 := C) (st := []) (As := []) (c := 0) G.1 G.2.2.2.2.1 G.2.2.2.2.2.2.2 (x_stC g) (fun H h => h.1) (PP_putC G) (enC_11 (c := 0) rfl) (Nat.le_of_ble_eq_true rfl) rfl (tX11_keep G.2.2.1 _  C _ (hm  C M hRR)) wm_L_134 wi_X11_keep wv_X11_keep wz_X11 wc_X11_keep rfl yd_X11_keep rfl ⟨rfl, rfl⟩ ⟨Nat.le_of_ble_eq_true rfl, Nat.le_of_ble_eq_true rfl⟩ (Nat.le_of_ble_eq_true rfl) rfl dL_law_1191 (y_ki (PQ := fun C' => PPc g g' C' M) (fun r C' h => ?_))
  refine y_aload_n Y 2 rfl rfl dL_law_1194 ?_
  refine y_call Y (w := WM g') (PQ := fun M' => PPc g g' C' M') (M0 := M) (st := [.int r]) (As := []) (c := 0) G.2.1 G.2.2.2.2.2.1 trivial (x_stM g') (fun H h => h.2) (PP_putM G) (enM_12 (c := 0) rfl) (Nat.le_of_ble_eq_true rfl) rfl (tX12_keep G.2.2.2.1 _  M _ h) wm_L_137 wi_X12_keep wv_X12_keep wz_X12 wc_X12_keep rfl yd_X12_keep rfl ⟨rfl, rfl⟩ ⟨Nat.le_of_ble_eq_true rfl, Nat.le_of_ble_eq_true rfl⟩ (Nat.le_of_ble_eq_true rfl) rfl dL_law_1195 (y_ki (PQ := fun M' => PPc g g' C' M') (fun r' M' h => ?_))
  exact y_eq Y (tgt := 1262) dL_law_1198 (by decide) h.1 (hk C' M' h.2)
set_option maxHeartbeats 4000000 in
set_option maxRecDepth 100000 in
theorem yc_29 {x : xCx} {b L : Nat} {xs : Nat → Int32} (Y : yOk x b L xs) {g g' : xG} (G : yG x g g') {RR : xMem → xMem → Prop} (hm : ∀ (C M : xMem), RR C M → wX11_undo  C (fun r C' => wX12_undo  M (fun r' M' => r = r' ∧ RR C' M'))) (i : Nat) (hi : i + 6 ≤ L) {C M : xMem} (hRR : RR C M) (hk : ∀ C' M', RR C' M' → yW x 1262 (yL g g' b i) [] (PPc g g' C' M')) : yW x 1203 (yL g g' b i) [] (PPc g g' C M) := by
  refine y_aload_n Y 1 rfl rfl dL_law_1203 ?_
  refine y_call Y (w := WC g) (PQ := fun C' => PPc g g' C' M) (M0 := C) (st := []) (As := []) (c := 0) G.1 G.2.2.2.2.1 G.2.2.2.2.2.2.2 (x_stC g) (fun H h => h.1) (PP_putC G) (enC_11 (c := 0) rfl) (Nat.le_of_ble_eq_true rfl) rfl (tX11_undo G.2.2.1 _  C _ (hm  C M hRR)) wm_L_138 wi_X11_undo wv_X11_undo wz_X11 wc_X11_undo rfl yd_X11_undo rfl ⟨rfl, rfl⟩ ⟨Nat.le_of_ble_eq_true rfl, Nat.le_of_ble_eq_true rfl⟩ (Nat.le_of_ble_eq_true rfl) rfl dL_law_1204 (y_ki (PQ := fun C' => PPc g g' C' M) (fun r C' h => ?_))
  refine y_aload_n Y 2 rfl rfl dL_law_1207 ?_
  refine y_call Y (w := WM g') (PQ := fun M' => PPc g g' C' M') (M0 := M) (st := [.int r]) (As := []) (c := 0) G.2.1 G.2.2.2.2.2.1 trivial (x_stM g') (fun H h => h.2) (PP_putM G) (enM_12 (c := 0) rfl) (Nat.le_of_ble_eq_true rfl) rfl (tX12_undo G.2.2.2.1 _  M _ h) wm_L_142 wi_X12_undo wv_X12_undo wz_X12 wc_X12_undo rfl yd_X12_undo rfl ⟨rfl, rfl⟩ ⟨Nat.le_of_ble_eq_true rfl, Nat.le_of_ble_eq_true rfl⟩ (Nat.le_of_ble_eq_true rfl) rfl dL_law_1208 (y_ki (PQ := fun M' => PPc g g' C' M') (fun r' M' h => ?_))
  exact y_eq Y (tgt := 1262) dL_law_1211 (by decide) h.1 (hk C' M' h.2)
set_option maxHeartbeats 4000000 in
set_option maxRecDepth 100000 in
theorem yc_30 {x : xCx} {b L : Nat} {xs : Nat → Int32} (Y : yOk x b L xs) {g g' : xG} (G : yG x g g') {RR : xMem → xMem → Prop} (hm : ∀ (a0 : Int32) (C M : xMem), RR C M → wX11_check a0 C (fun r C' => wX12_check a0 M (fun r' M' => r = r' ∧ RR C' M'))) (i : Nat) (hi : i + 6 ≤ L) {C M : xMem} (hRR : RR C M) (hk : ∀ C' M', RR C' M' → yW x 1262 (yL g g' b i) [] (PPc g g' C' M')) : yW x 1216 (yL g g' b i) [] (PPc g g' C M) := by
  refine y_aload_n Y 1 rfl rfl dL_law_1216 ?_
  refine y_aload_n Y 0 rfl rfl dL_law_1217 ?_
  refine y_iload_n Y 3 rfl rfl dL_law_1218 ?_
  refine y_iconst Y (v1 := 1) dL_law_1219 (by decide) ?_
  refine y_iadd Y dL_law_1220 ?_
  refine y_sld Y (y_inL (k := 1) hi Y.x8) dL_law_1221 ?_
  refine y_call Y (w := WC g) (PQ := fun C' => PPc g g' C' M) (M0 := C) (st := []) (As := [.int (xs (nI i + 1).toNatClampNeg)]) (c := 0) G.1 G.2.2.2.2.1 G.2.2.2.2.2.2.2 (x_stC g) (fun H h => h.1) (PP_putC G) (enC_11 (c := 0) rfl) (Nat.le_of_ble_eq_true rfl) rfl (tX11_check G.2.2.1 _ _ C _ (hm _ C M hRR)) wm_L_143 wi_X11_check wv_X11_check wz_X11 wc_X11_check rfl yd_X11_check rfl ⟨rfl, rfl⟩ ⟨Nat.le_of_ble_eq_true rfl, Nat.le_of_ble_eq_true rfl⟩ (Nat.le_of_ble_eq_true rfl) rfl dL_law_1222 (y_ki (PQ := fun C' => PPc g g' C' M) (fun r C' h => ?_))
  refine y_aload_n Y 2 rfl rfl dL_law_1225 ?_
  refine y_aload_n Y 0 rfl rfl dL_law_1226 ?_
  refine y_iload_n Y 3 rfl rfl dL_law_1227 ?_
  refine y_iconst Y (v1 := 1) dL_law_1228 (by decide) ?_
  refine y_iadd Y dL_law_1229 ?_
  refine y_sld Y (y_inL (k := 1) hi Y.x8) dL_law_1230 ?_
  refine y_call Y (w := WM g') (PQ := fun M' => PPc g g' C' M') (M0 := M) (st := [.int r]) (As := [.int (xs (nI i + 1).toNatClampNeg)]) (c := 0) G.2.1 G.2.2.2.2.2.1 trivial (x_stM g') (fun H h => h.2) (PP_putM G) (enM_12 (c := 0) rfl) (Nat.le_of_ble_eq_true rfl) rfl (tX12_check G.2.2.2.1 _ _ M _ h) wm_L_146 wi_X12_check wv_X12_check wz_X12 wc_X12_check rfl yd_X12_check rfl ⟨rfl, rfl⟩ ⟨Nat.le_of_ble_eq_true rfl, Nat.le_of_ble_eq_true rfl⟩ (Nat.le_of_ble_eq_true rfl) rfl dL_law_1231 (y_ki (PQ := fun M' => PPc g g' C' M') (fun r' M' h => ?_))
  exact y_eq Y (tgt := 1262) dL_law_1234 (by decide) h.1 (hk C' M' h.2)
set_option maxHeartbeats 4000000 in
set_option maxRecDepth 100000 in
theorem yc_31 {x : xCx} {b L : Nat} {xs : Nat → Int32} (Y : yOk x b L xs) {g g' : xG} (G : yG x g g') {RR : xMem → xMem → Prop} (hm : ∀ (a0 : Int32) (C M : xMem), RR C M → wX11_count a0 C (fun r C' => wX12_count a0 M (fun r' M' => r = r' ∧ RR C' M'))) (i : Nat) (hi : i + 6 ≤ L) {C M : xMem} (hRR : RR C M) (hk : ∀ C' M', RR C' M' → yW x 1262 (yL g g' b i) [] (PPc g g' C' M')) : yW x 1239 (yL g g' b i) [] (PPc g g' C M) := by
  refine y_aload_n Y 1 rfl rfl dL_law_1239 ?_
  refine y_aload_n Y 0 rfl rfl dL_law_1240 ?_
  refine y_iload_n Y 3 rfl rfl dL_law_1241 ?_
  refine y_iconst Y (v1 := 1) dL_law_1242 (by decide) ?_
  refine y_iadd Y dL_law_1243 ?_
  refine y_sld Y (y_inL (k := 1) hi Y.x8) dL_law_1244 ?_
  refine y_call Y (w := WC g) (PQ := fun C' => PPc g g' C' M) (M0 := C) (st := []) (As := [.int (xs (nI i + 1).toNatClampNeg)]) (c := 0) G.1 G.2.2.2.2.1 G.2.2.2.2.2.2.2 (x_stC g) (fun H h => h.1) (PP_putC G) (enC_11 (c := 0) rfl) (Nat.le_of_ble_eq_true rfl) rfl (tX11_count G.2.2.1 _ _ C _ (hm _ C M hRR)) wm_L_147 wi_X11_count wv_X11_count wz_X11 wc_X11_count rfl yd_X11_count rfl ⟨rfl, rfl⟩ ⟨Nat.le_of_ble_eq_true rfl, Nat.le_of_ble_eq_true rfl⟩ (Nat.le_of_ble_eq_true rfl) rfl dL_law_1245 (y_ki (PQ := fun C' => PPc g g' C' M) (fun r C' h => ?_))
  refine y_aload_n Y 2 rfl rfl dL_law_1248 ?_
  refine y_aload_n Y 0 rfl rfl dL_law_1249 ?_
  refine y_iload_n Y 3 rfl rfl dL_law_1250 ?_
  refine y_iconst Y (v1 := 1) dL_law_1251 (by decide) ?_
  refine y_iadd Y dL_law_1252 ?_
  refine y_sld Y (y_inL (k := 1) hi Y.x8) dL_law_1253 ?_
  refine y_call Y (w := WM g') (PQ := fun M' => PPc g g' C' M') (M0 := M) (st := [.int r]) (As := [.int (xs (nI i + 1).toNatClampNeg)]) (c := 0) G.2.1 G.2.2.2.2.2.1 trivial (x_stM g') (fun H h => h.2) (PP_putM G) (enM_12 (c := 0) rfl) (Nat.le_of_ble_eq_true rfl) rfl (tX12_count G.2.2.2.1 _ _ M _ h) wm_L_150 wi_X12_count wv_X12_count wz_X12 wc_X12_count rfl yd_X12_count rfl ⟨rfl, rfl⟩ ⟨Nat.le_of_ble_eq_true rfl, Nat.le_of_ble_eq_true rfl⟩ (Nat.le_of_ble_eq_true rfl) rfl dL_law_1254 (y_ki (PQ := fun M' => PPc g g' C' M') (fun r' M' h => ?_))
  exact y_eq Y (tgt := 1262) dL_law_1257 (by decide) h.1 (hk C' M' h.2)
def HH (RR : xMem → xMem → Prop) : Prop :=
  (∀ (a0 a1 a2 a3 a4 : Int32) (C M : xMem), RR C M → wX11_feed a0 a1 a2 a3 a4 C (fun r C' => wX12_feed a0 a1 a2 a3 a4 M (fun r' M' => r = r' ∧ RR C' M'))) ∧
  (∀ (a0 a1 : Int32) (C M : xMem), RR C M → wX11_story a0 a1 C (fun r C' => wX12_story a0 a1 M (fun r' M' => r = r' ∧ RR C' M'))) ∧
  (∀ (a0 : Int32) (C M : xMem), RR C M → wX11_law a0 C (fun r C' => wX12_law a0 M (fun r' M' => r = r' ∧ RR C' M'))) ∧
  (∀ (a0 a1 a2 a3 a4 : Int32) (C M : xMem), RR C M → wX11_end a0 a1 a2 a3 a4 C (fun r C' => wX12_end a0 a1 a2 a3 a4 M (fun r' M' => r = r' ∧ RR C' M'))) ∧
  (∀ (a0 a1 a2 : Int32) (C M : xMem), RR C M → wX11_teller a0 a1 a2 C (fun r C' => wX12_teller a0 a1 a2 M (fun r' M' => r = r' ∧ RR C' M'))) ∧
  (∀ (a0 a1 a2 : Int32) (C M : xMem), RR C M → wX11_listener a0 a1 a2 C (fun r C' => wX12_listener a0 a1 a2 M (fun r' M' => r = r' ∧ RR C' M'))) ∧
  (∀ (a0 : Int32) (C M : xMem), RR C M → wX11_evenings a0 C (fun r C' => wX12_evenings a0 M (fun r' M' => r = r' ∧ RR C' M'))) ∧
  (∀ (a0 a1 : Int32) (C M : xMem), RR C M → wX11_tried a0 a1 C (fun r C' => wX12_tried a0 a1 M (fun r' M' => r = r' ∧ RR C' M'))) ∧
  (∀ (a0 a1 : Int32) (C M : xMem), RR C M → wX11_other a0 a1 C (fun r C' => wX12_other a0 a1 M (fun r' M' => r = r' ∧ RR C' M'))) ∧
  (∀ (C M : xMem), RR C M → wX11_copy  C (fun r C' => wX12_copy  M (fun r' M' => r = r' ∧ RR C' M'))) ∧
  (∀ (a0 a1 : Int32) (C M : xMem), RR C M → wX11_first a0 a1 C (fun r C' => wX12_first a0 a1 M (fun r' M' => r = r' ∧ RR C' M'))) ∧
  (∀ (a0 a1 : Int32) (C M : xMem), RR C M → wX11_storyIs a0 a1 C (fun r C' => wX12_storyIs a0 a1 M (fun r' M' => r = r' ∧ RR C' M'))) ∧
  (∀ (a0 a1 a2 : Int32) (C M : xMem), RR C M → wX11_open a0 a1 a2 C (fun r C' => wX12_open a0 a1 a2 M (fun r' M' => r = r' ∧ RR C' M'))) ∧
  (∀ (a0 a1 : Int32) (C M : xMem), RR C M → wX11_endIs a0 a1 C (fun r C' => wX12_endIs a0 a1 M (fun r' M' => r = r' ∧ RR C' M'))) ∧
  (∀ (a0 a1 : Int32) (C M : xMem), RR C M → wX11_tellerIs a0 a1 C (fun r C' => wX12_tellerIs a0 a1 M (fun r' M' => r = r' ∧ RR C' M'))) ∧
  (∀ (a0 a1 : Int32) (C M : xMem), RR C M → wX11_listenerIs a0 a1 C (fun r C' => wX12_listenerIs a0 a1 M (fun r' M' => r = r' ∧ RR C' M'))) ∧
  (∀ (a0 a1 : Int32) (C M : xMem), RR C M → wX11_cheapest a0 a1 C (fun r C' => wX12_cheapest a0 a1 M (fun r' M' => r = r' ∧ RR C' M'))) ∧
  (∀ (a0 a1 : Int32) (C M : xMem), RR C M → wX11_buys a0 a1 C (fun r C' => wX12_buys a0 a1 M (fun r' M' => r = r' ∧ RR C' M'))) ∧
  (∀ (a0 a1 a2 : Int32) (C M : xMem), RR C M → wX11_fitting a0 a1 a2 C (fun r C' => wX12_fitting a0 a1 a2 M (fun r' M' => r = r' ∧ RR C' M'))) ∧
  (∀ (a0 a1 a2 : Int32) (C M : xMem), RR C M → wX11_wouldDo a0 a1 a2 C (fun r C' => wX12_wouldDo a0 a1 a2 M (fun r' M' => r = r' ∧ RR C' M'))) ∧
  (∀ (a0 a1 : Int32) (C M : xMem), RR C M → wX11_series a0 a1 C (fun r C' => wX12_series a0 a1 M (fun r' M' => r = r' ∧ RR C' M'))) ∧
  (∀ (C M : xMem), RR C M → wX11_knots  C (fun r C' => wX12_knots  M (fun r' M' => r = r' ∧ RR C' M'))) ∧
  (∀ (a0 a1 a2 : Int32) (C M : xMem), RR C M → wX11_winter a0 a1 a2 C (fun r C' => wX12_winter a0 a1 a2 M (fun r' M' => r = r' ∧ RR C' M'))) ∧
  (∀ (a0 a1 : Int32) (C M : xMem), RR C M → wX11_lent a0 a1 C (fun r C' => wX12_lent a0 a1 M (fun r' M' => r = r' ∧ RR C' M'))) ∧
  (∀ (a0 a1 a2 a3 : Int32) (C M : xMem), RR C M → wX11_forged a0 a1 a2 a3 C (fun r C' => wX12_forged a0 a1 a2 a3 M (fun r' M' => r = r' ∧ RR C' M'))) ∧
  (∀ (a0 a1 a2 : Int32) (C M : xMem), RR C M → wX11_yawns a0 a1 a2 C (fun r C' => wX12_yawns a0 a1 a2 M (fun r' M' => r = r' ∧ RR C' M'))) ∧
  (∀ (a0 a1 a2 : Int32) (C M : xMem), RR C M → wX11_book a0 a1 a2 C (fun r C' => wX12_book a0 a1 a2 M (fun r' M' => r = r' ∧ RR C' M'))) ∧
  (∀ (a0 : Int32) (C M : xMem), RR C M → wX11_seed a0 C (fun r C' => wX12_seed a0 M (fun r' M' => r = r' ∧ RR C' M'))) ∧
  (∀ (C M : xMem), RR C M → wX11_keep  C (fun r C' => wX12_keep  M (fun r' M' => r = r' ∧ RR C' M'))) ∧
  (∀ (C M : xMem), RR C M → wX11_undo  C (fun r C' => wX12_undo  M (fun r' M' => r = r' ∧ RR C' M'))) ∧
  (∀ (a0 : Int32) (C M : xMem), RR C M → wX11_check a0 C (fun r C' => wX12_check a0 M (fun r' M' => r = r' ∧ RR C' M'))) ∧
  (∀ (a0 : Int32) (C M : xMem), RR C M → wX11_count a0 C (fun r C' => wX12_count a0 M (fun r' M' => r = r' ∧ RR C' M')))
set_option maxHeartbeats 4000000 in
set_option maxRecDepth 100000 in
theorem y_loop {x : xCx} {b L : Nat} {xs : Nat → Int32} (Y : yOk x b L xs) {g g' : xG} (G : yG x g g') {RR : xMem → xMem → Prop} (hH : HH RR) : ∀ (n i : Nat), i ≤ L → L + 1 ≤ i + n → ∀ C M, RR C M → yW x 18 (yL g g' b i) [] (PPc g g' C M) := by
  intro n
  induction n with
  | zero => intro i h1 h2; exact absurd h2 (by omega)
  | succ n ih =>
    intro i h1 h2 C M hRR
    have hL := Y.x8
    refine y_iload_n Y 3 rfl rfl dL_law_18 ?_
    refine y_aload_n Y 0 rfl rfl dL_law_19 ?_
    refine y_slen Y dL_law_20 ?_
    refine y_bipush Y (v1 := 6) dL_law_21 (by decide) ?_
    refine y_isub Y dL_law_23 ?_
    refine y_gt Y (tgt := 1268) dL_law_24 (by decide) (fun hq => ?_) (fun hq => ?_)
    · refine y_iconst Y (v1 := 1) dL_law_1268 (by decide) ?_
      exact y_ret Y dL_law_1269
    · have hi : i + 6 ≤ L := by
        have e1 : (nI L - 6).toInt = (L : Int) - 6 := pk_sub_toInt (a := L) (b := 6) (by omega) (by omega)
        have e2 : (nI i).toInt = (i : Int) := nI_toInt (by omega)
        have := Int32.not_lt.mp hq
        have := Int32.le_iff_toInt_le.mp this
        omega
      have hk : ∀ C' M', RR C' M' → yW x 1262 (yL g g' b i) [] (PPc g g' C' M') := fun C' M' hR => by
        refine y_iinc Y 3 (v1 := nI (i + 6)) (Lo' := [(3, .int (nI (i + 6))), (0, .ref b), (1, .ref (ga g 0)), (2, .ref (ga g' 0))]) rfl (show nI i + Int32.ofInt 6 = nI (i + 6) from nI_add i 6) rfl (by decide) dL_law_1262 ?_
        refine y_goto Y (tgt := 18) dL_law_1265 (by decide) ?_
        refine y_loc (Lo' := yL g g' b (i + 6)) [1, 2, 3, 0] rfl ?_
        exact ih (i + 6) hi (by omega) C' M' hR
      refine y_aload_n Y 0 rfl rfl dL_law_27 ?_
      refine y_iload_n Y 3 rfl rfl dL_law_28 ?_
      refine y_sld Y (vp_in_nI (by omega) (by omega)) dL_law_29 ?_
      refine y_bipush Y (v1 := 31) dL_law_30 (by decide) ?_
      refine y_iand Y dL_law_32 ?_
      obtain ⟨j, hj, ej⟩ := pk_andE (xs (nI i).toNatClampNeg) (m := 31) 5 (by decide)
      match j, hj, ej with
      | 0, _, ej => exact y_tab Y ej (tgt := 176) dL_law_33 (by decide) (by decide) rfl (by decide) (yc_0 Y G hH.1 i hi hRR hk)
      | 1, _, ej => exact y_tab Y ej (tgt := 239) dL_law_33 (by decide) (by decide) rfl (by decide) (yc_1 Y G hH.2.1 i hi hRR hk)
      | 2, _, ej => exact y_tab Y ej (tgt := 272) dL_law_33 (by decide) (by decide) rfl (by decide) (yc_2 Y G hH.2.2.1 i hi hRR hk)
      | 3, _, ej => exact y_tab Y ej (tgt := 295) dL_law_33 (by decide) (by decide) rfl (by decide) (yc_3 Y G hH.2.2.2.1 i hi hRR hk)
      | 4, _, ej => exact y_tab Y ej (tgt := 358) dL_law_33 (by decide) (by decide) rfl (by decide) (yc_4 Y G hH.2.2.2.2.1 i hi hRR hk)
      | 5, _, ej => exact y_tab Y ej (tgt := 401) dL_law_33 (by decide) (by decide) rfl (by decide) (yc_5 Y G hH.2.2.2.2.2.1 i hi hRR hk)
      | 6, _, ej => exact y_tab Y ej (tgt := 444) dL_law_33 (by decide) (by decide) rfl (by decide) (yc_6 Y G hH.2.2.2.2.2.2.1 i hi hRR hk)
      | 7, _, ej => exact y_tab Y ej (tgt := 467) dL_law_33 (by decide) (by decide) rfl (by decide) (yc_7 Y G hH.2.2.2.2.2.2.2.1 i hi hRR hk)
      | 8, _, ej => exact y_tab Y ej (tgt := 500) dL_law_33 (by decide) (by decide) rfl (by decide) (yc_8 Y G hH.2.2.2.2.2.2.2.2.1 i hi hRR hk)
      | 9, _, ej => exact y_tab Y ej (tgt := 533) dL_law_33 (by decide) (by decide) rfl (by decide) (yc_9 Y G hH.2.2.2.2.2.2.2.2.2.1 i hi hRR hk)
      | 10, _, ej => exact y_tab Y ej (tgt := 546) dL_law_33 (by decide) (by decide) rfl (by decide) (yc_10 Y G hH.2.2.2.2.2.2.2.2.2.2.1 i hi hRR hk)
      | 11, _, ej => exact y_tab Y ej (tgt := 579) dL_law_33 (by decide) (by decide) rfl (by decide) (yc_11 Y G hH.2.2.2.2.2.2.2.2.2.2.2.1 i hi hRR hk)
      | 12, _, ej => exact y_tab Y ej (tgt := 612) dL_law_33 (by decide) (by decide) rfl (by decide) (yc_12 Y G hH.2.2.2.2.2.2.2.2.2.2.2.2.1 i hi hRR hk)
      | 13, _, ej => exact y_tab Y ej (tgt := 655) dL_law_33 (by decide) (by decide) rfl (by decide) (yc_13 Y G hH.2.2.2.2.2.2.2.2.2.2.2.2.2.1 i hi hRR hk)
      | 14, _, ej => exact y_tab Y ej (tgt := 688) dL_law_33 (by decide) (by decide) rfl (by decide) (yc_14 Y G hH.2.2.2.2.2.2.2.2.2.2.2.2.2.2.1 i hi hRR hk)
      | 15, _, ej => exact y_tab Y ej (tgt := 721) dL_law_33 (by decide) (by decide) rfl (by decide) (yc_15 Y G hH.2.2.2.2.2.2.2.2.2.2.2.2.2.2.2.1 i hi hRR hk)
      | 16, _, ej => exact y_tab Y ej (tgt := 754) dL_law_33 (by decide) (by decide) rfl (by decide) (yc_16 Y G hH.2.2.2.2.2.2.2.2.2.2.2.2.2.2.2.2.1 i hi hRR hk)
      | 17, _, ej => exact y_tab Y ej (tgt := 787) dL_law_33 (by decide) (by decide) rfl (by decide) (yc_17 Y G hH.2.2.2.2.2.2.2.2.2.2.2.2.2.2.2.2.2.1 i hi hRR hk)
      | 18, _, ej => exact y_tab Y ej (tgt := 820) dL_law_33 (by decide) (by decide) rfl (by decide) (yc_18 Y G hH.2.2.2.2.2.2.2.2.2.2.2.2.2.2.2.2.2.2.1 i hi hRR hk)
      | 19, _, ej => exact y_tab Y ej (tgt := 863) dL_law_33 (by decide) (by decide) rfl (by decide) (yc_19 Y G hH.2.2.2.2.2.2.2.2.2.2.2.2.2.2.2.2.2.2.2.1 i hi hRR hk)
      | 20, _, ej => exact y_tab Y ej (tgt := 906) dL_law_33 (by decide) (by decide) rfl (by decide) (yc_20 Y G hH.2.2.2.2.2.2.2.2.2.2.2.2.2.2.2.2.2.2.2.2.1 i hi hRR hk)
      | 21, _, ej => exact y_tab Y ej (tgt := 939) dL_law_33 (by decide) (by decide) rfl (by decide) (yc_21 Y G hH.2.2.2.2.2.2.2.2.2.2.2.2.2.2.2.2.2.2.2.2.2.1 i hi hRR hk)
      | 22, _, ej => exact y_tab Y ej (tgt := 952) dL_law_33 (by decide) (by decide) rfl (by decide) (yc_22 Y G hH.2.2.2.2.2.2.2.2.2.2.2.2.2.2.2.2.2.2.2.2.2.2.1 i hi hRR hk)
      | 23, _, ej => exact y_tab Y ej (tgt := 995) dL_law_33 (by decide) (by decide) rfl (by decide) (yc_23 Y G hH.2.2.2.2.2.2.2.2.2.2.2.2.2.2.2.2.2.2.2.2.2.2.2.1 i hi hRR hk)
      | 24, _, ej => exact y_tab Y ej (tgt := 1028) dL_law_33 (by decide) (by decide) rfl (by decide) (yc_24 Y G hH.2.2.2.2.2.2.2.2.2.2.2.2.2.2.2.2.2.2.2.2.2.2.2.2.1 i hi hRR hk)
      | 25, _, ej => exact y_tab Y ej (tgt := 1081) dL_law_33 (by decide) (by decide) rfl (by decide) (yc_25 Y G hH.2.2.2.2.2.2.2.2.2.2.2.2.2.2.2.2.2.2.2.2.2.2.2.2.2.1 i hi hRR hk)
      | 26, _, ej => exact y_tab Y ej (tgt := 1124) dL_law_33 (by decide) (by decide) rfl (by decide) (yc_26 Y G hH.2.2.2.2.2.2.2.2.2.2.2.2.2.2.2.2.2.2.2.2.2.2.2.2.2.2.1 i hi hRR hk)
      | 27, _, ej => exact y_tab Y ej (tgt := 1167) dL_law_33 (by decide) (by decide) rfl (by decide) (yc_27 Y G hH.2.2.2.2.2.2.2.2.2.2.2.2.2.2.2.2.2.2.2.2.2.2.2.2.2.2.2.1 i hi hRR hk)
      | 28, _, ej => exact y_tab Y ej (tgt := 1190) dL_law_33 (by decide) (by decide) rfl (by decide) (yc_28 Y G hH.2.2.2.2.2.2.2.2.2.2.2.2.2.2.2.2.2.2.2.2.2.2.2.2.2.2.2.2.1 i hi hRR hk)
      | 29, _, ej => exact y_tab Y ej (tgt := 1203) dL_law_33 (by decide) (by decide) rfl (by decide) (yc_29 Y G hH.2.2.2.2.2.2.2.2.2.2.2.2.2.2.2.2.2.2.2.2.2.2.2.2.2.2.2.2.2.1 i hi hRR hk)
      | 30, _, ej => exact y_tab Y ej (tgt := 1216) dL_law_33 (by decide) (by decide) rfl (by decide) (yc_30 Y G hH.2.2.2.2.2.2.2.2.2.2.2.2.2.2.2.2.2.2.2.2.2.2.2.2.2.2.2.2.2.2.1 i hi hRR hk)
      | 31, _, ej => exact y_tab Y ej (tgt := 1239) dL_law_33 (by decide) (by decide) rfl (by decide) (yc_31 Y G hH.2.2.2.2.2.2.2.2.2.2.2.2.2.2.2.2.2.2.2.2.2.2.2.2.2.2.2.2.2.2.2 i hi hRR hk)
      | j + 32, hj, _ => exact absurd hj (by omega)
