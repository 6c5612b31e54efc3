/-! the law, case by case (written by wip/tools/gen_law.py) -/
section zCases
variable {E : zEN} {b L i ch : Nat} {xs : Nat → Int32} {A : zAS} {rf : Nat → Int32} {σ : zST}
theorem zc_0 (hL : L ≤ 2048) (hi : i + 4 ≤ L) (hJ : zCI A ch rf σ) (hM : zmf A rf σ) (hch : ch + 1 < 2 ^ 30) (next : ∀ (A2 : zAS) (ch2 : Nat) (rf2 : Nat → Int32) (σ2 : zST), ch2 ≤ ch + 1 → zCI A2 ch2 rf2 σ2 → zmf A2 rf2 σ2 → zLp E b L xs 958 i [] σ2) : zLp E b L xs 176 i [] σ := by
  refine zl_this1 dL_law_176 ?_
  refine zl_call (M' := zM_X7_joint) (ci := 7) (CC := RX7) (T := TX7) (N := 9) (r := (7, 0)) (S' := []) (ys := []) rfl (by decide) rfl (by decide) rfl rfl zu_2_54 zu_2_51 zu_2_52 zu_2_53 zu_1_1 rfl ⟨by decide, rfl⟩ (Nat.le_of_ble_eq_true rfl) ⟨by decide, by decide⟩ dL_law_177 rfl (sp_joint (d := 0) hJ hch) ?_
  rintro r1 σ1 ⟨ch1, hch1, hz1, hJ1, rfl⟩
  refine zl_this2 dL_law_180 ?_
  refine zl_call (M' := zM_X8_joint) (ci := 8) (CC := RX8) (T := TX8) (N := 29) (r := (8, 48)) (S' := [_]) (ys := []) rfl (by decide) rfl (by decide) rfl rfl zu_4_51 zu_4_48 zu_4_49 zu_4_50 zu_1_9 rfl ⟨by decide, rfl⟩ (Nat.le_of_ble_eq_true rfl) ⟨by decide, by decide⟩ dL_law_181 rfl (sm_joint (d := 0) (hM.hi hz1)) ?_
  rintro r2 σ2 ⟨hz2, hM2, rfl⟩
  exact zl_cmp dL_law_184 rfl rfl (next _ ch1 _ σ2 hch1 (hJ1.lo hz2) hM2)
theorem zc_1 (hL : L ≤ 2048) (hi : i + 4 ≤ L) (hJ : zCI A ch rf σ) (hM : zmf A rf σ) (hch : ch + 1 < 2 ^ 30) (next : ∀ (A2 : zAS) (ch2 : Nat) (rf2 : Nat → Int32) (σ2 : zST), ch2 ≤ ch + 1 → zCI A2 ch2 rf2 σ2 → zmf A2 rf2 σ2 → zLp E b L xs 958 i [] σ2) : zLp E b L xs 189 i [] σ := by
  refine zl_this1 dL_law_189 ?_
  refine zl_arg 1 (v := 1) rfl dL_law_190 dL_law_191 dL_law_192 dL_law_193 dL_law_194 (by omega) hL ?_
  refine zl_arg 2 (v := 2) rfl dL_law_195 dL_law_196 dL_law_197 dL_law_198 dL_law_199 (by omega) hL ?_
  refine zl_arg 3 (v := 3) rfl dL_law_200 dL_law_201 dL_law_202 dL_law_203 dL_law_204 (by omega) hL ?_
  refine zl_call (M' := zM_X7_bar) (ci := 7) (CC := RX7) (T := TX7) (N := 9) (r := (7, 0)) (S' := []) (ys := [xs (i + 1), xs (i + 2), xs (i + 3)]) rfl (by decide) rfl (by decide) rfl rfl zu_2_66 zu_2_63 zu_2_64 zu_2_65 zu_1_1 rfl ⟨by decide, rfl⟩ (Nat.le_of_ble_eq_true rfl) ⟨by decide, by decide⟩ dL_law_205 rfl (sp_bar (d := 0) hJ hch) ?_
  rintro r1 σ1 ⟨ch1, hch1, hz1, hJ1, rfl⟩
  refine zl_this2 dL_law_208 ?_
  refine zl_arg 1 (v := 1) rfl dL_law_209 dL_law_210 dL_law_211 dL_law_212 dL_law_213 (by omega) hL ?_
  refine zl_arg 2 (v := 2) rfl dL_law_214 dL_law_215 dL_law_216 dL_law_217 dL_law_218 (by omega) hL ?_
  refine zl_arg 3 (v := 3) rfl dL_law_219 dL_law_220 dL_law_221 dL_law_222 dL_law_223 (by omega) hL ?_
  refine zl_call (M' := zM_X8_bar) (ci := 8) (CC := RX8) (T := TX8) (N := 29) (r := (8, 48)) (S' := [_]) (ys := [xs (i + 1), xs (i + 2), xs (i + 3)]) rfl (by decide) rfl (by decide) rfl rfl zu_4_59 zu_4_56 zu_4_57 zu_4_58 zu_1_9 rfl ⟨by decide, rfl⟩ (Nat.le_of_ble_eq_true rfl) ⟨by decide, by decide⟩ dL_law_224 rfl (sm_bar (d := 0) (hM.hi hz1)) ?_
  rintro r2 σ2 ⟨hz2, hM2, rfl⟩
  exact zl_cmp dL_law_227 rfl rfl (next _ ch1 _ σ2 hch1 (hJ1.lo hz2) hM2)
theorem zc_2 (hL : L ≤ 2048) (hi : i + 4 ≤ L) (hJ : zCI A ch rf σ) (hM : zmf A rf σ) (hch : ch + 1 < 2 ^ 30) (next : ∀ (A2 : zAS) (ch2 : Nat) (rf2 : Nat → Int32) (σ2 : zST), ch2 ≤ ch + 1 → zCI A2 ch2 rf2 σ2 → zmf A2 rf2 σ2 → zLp E b L xs 958 i [] σ2) : zLp E b L xs 232 i [] σ := by
  refine zl_this1 dL_law_232 ?_
  refine zl_arg 1 (v := 1) rfl dL_law_233 dL_law_234 dL_law_235 dL_law_236 dL_law_237 (by omega) hL ?_
  refine zl_arg 2 (v := 2) rfl dL_law_238 dL_law_239 dL_law_240 dL_law_241 dL_law_242 (by omega) hL ?_
  refine zl_bool (q1 := 250) (q2 := 251) rfl rfl dL_law_243 dL_law_246 dL_law_247 dL_law_250 ?_
  refine zl_call (M' := zM_X7_cut) (ci := 7) (CC := RX7) (T := TX7) (N := 9) (r := (7, 0)) (S' := []) (ys := [xs (i + 1), zbo (!decide (xs (i + 2) = 0))]) rfl (by decide) rfl (by decide) rfl rfl zu_2_95 zu_2_92 zu_2_93 zu_2_94 zu_1_1 rfl ⟨by decide, rfl⟩ (Nat.le_of_ble_eq_true rfl) ⟨by decide, by decide⟩ dL_law_251 rfl (sp_cut (d := 0) hJ hch) ?_
  rintro r1 σ1 ⟨ch1, hch1, hz1, hJ1, rfl⟩
  refine zl_this2 dL_law_254 ?_
  refine zl_arg 1 (v := 1) rfl dL_law_255 dL_law_256 dL_law_257 dL_law_258 dL_law_259 (by omega) hL ?_
  refine zl_arg 2 (v := 2) rfl dL_law_260 dL_law_261 dL_law_262 dL_law_263 dL_law_264 (by omega) hL ?_
  refine zl_bool (q1 := 272) (q2 := 273) rfl rfl dL_law_265 dL_law_268 dL_law_269 dL_law_272 ?_
  refine zl_call (M' := zM_X8_cut) (ci := 8) (CC := RX8) (T := TX8) (N := 29) (r := (8, 48)) (S' := [_]) (ys := [xs (i + 1), zbo (!decide (xs (i + 2) = 0))]) rfl (by decide) rfl (by decide) rfl rfl zu_4_76 zu_4_73 zu_4_74 zu_4_75 zu_1_9 rfl ⟨by decide, rfl⟩ (Nat.le_of_ble_eq_true rfl) ⟨by decide, by decide⟩ dL_law_273 rfl (sm_cut (d := 0) (hM.hi hz1)) ?_
  rintro r2 σ2 ⟨hz2, hM2, rfl⟩
  exact zl_cmp dL_law_276 rfl rfl (next _ ch1 _ σ2 hch1 (hJ1.lo hz2) hM2)
theorem zc_3 (hL : L ≤ 2048) (hi : i + 4 ≤ L) (hJ : zCI A ch rf σ) (hM : zmf A rf σ) (hch : ch + 1 < 2 ^ 30) (next : ∀ (A2 : zAS) (ch2 : Nat) (rf2 : Nat → Int32) (σ2 : zST), ch2 ≤ ch + 1 → zCI A2 ch2 rf2 σ2 → zmf A2 rf2 σ2 → zLp E b L xs 958 i [] σ2) : zLp E b L xs 281 i [] σ := by
  refine zl_this1 dL_law_281 ?_
  refine zl_arg 1 (v := 1) rfl dL_law_282 dL_law_283 dL_law_284 dL_law_285 dL_law_286 (by omega) hL ?_
  refine zl_arg 2 (v := 2) rfl dL_law_287 dL_law_288 dL_law_289 dL_law_290 dL_law_291 (by omega) hL ?_
  refine zl_call (M' := zM_X7_cost) (ci := 7) (CC := RX7) (T := TX7) (N := 9) (r := (7, 0)) (S' := []) (ys := [xs (i + 1), xs (i + 2)]) rfl (by decide) rfl (by decide) rfl rfl zu_2_107 zu_2_104 zu_2_105 zu_2_106 zu_1_1 rfl ⟨by decide, rfl⟩ (Nat.le_of_ble_eq_true rfl) ⟨by decide, by decide⟩ dL_law_292 rfl (sp_cost (d := 0) hJ hch) ?_
  rintro r1 σ1 ⟨ch1, hch1, hz1, hJ1, rfl⟩
  refine zl_this2 dL_law_295 ?_
  refine zl_arg 1 (v := 1) rfl dL_law_296 dL_law_297 dL_law_298 dL_law_299 dL_law_300 (by omega) hL ?_
  refine zl_arg 2 (v := 2) rfl dL_law_301 dL_law_302 dL_law_303 dL_law_304 dL_law_305 (by omega) hL ?_
  refine zl_call (M' := zM_X8_cost) (ci := 8) (CC := RX8) (T := TX8) (N := 29) (r := (8, 48)) (S' := [_]) (ys := [xs (i + 1), xs (i + 2)]) rfl (by decide) rfl (by decide) rfl rfl zu_4_84 zu_4_81 zu_4_82 zu_4_83 zu_1_9 rfl ⟨by decide, rfl⟩ (Nat.le_of_ble_eq_true rfl) ⟨by decide, by decide⟩ dL_law_306 rfl (sm_cost (d := 0) (hM.hi hz1)) ?_
  rintro r2 σ2 ⟨hz2, hM2, rfl⟩
  exact zl_cmp dL_law_309 rfl rfl (next _ ch1 _ σ2 hch1 (hJ1.lo hz2) hM2)
theorem zc_4 (hL : L ≤ 2048) (hi : i + 4 ≤ L) (hJ : zCI A ch rf σ) (hM : zmf A rf σ) (hch : ch + 1 < 2 ^ 30) (next : ∀ (A2 : zAS) (ch2 : Nat) (rf2 : Nat → Int32) (σ2 : zST), ch2 ≤ ch + 1 → zCI A2 ch2 rf2 σ2 → zmf A2 rf2 σ2 → zLp E b L xs 958 i [] σ2) : zLp E b L xs 314 i [] σ := by
  refine zl_this1 dL_law_314 ?_
  refine zl_call (M' := zM_X7_rank) (ci := 7) (CC := RX7) (T := TX7) (N := 9) (r := (7, 0)) (S' := []) (ys := []) rfl (by decide) rfl (by decide) rfl rfl zu_2_115 zu_2_112 zu_2_113 zu_2_114 zu_1_1 rfl ⟨by decide, rfl⟩ (Nat.le_of_ble_eq_true rfl) ⟨by decide, by decide⟩ dL_law_315 rfl (sp_rank (d := 0) hJ) ?_
  rintro r1 σ1 ⟨hz1, hJ1, rfl⟩
  refine zl_this2 dL_law_318 ?_
  refine zl_call (M' := zM_X8_rank) (ci := 8) (CC := RX8) (T := TX8) (N := 29) (r := (8, 48)) (S' := [_]) (ys := []) rfl (by decide) rfl (by decide) rfl rfl zu_4_91 zu_4_88 zu_4_89 zu_4_90 zu_1_9 rfl ⟨by decide, rfl⟩ (Nat.le_of_ble_eq_true rfl) ⟨by decide, by decide⟩ dL_law_319 rfl (sm_rank (d := 0) (hM.hi hz1)) ?_
  rintro r2 σ2 ⟨hz2, hM2, rfl⟩
  exact zl_cmp dL_law_322 rfl rfl (next _ ch _ σ2 (Nat.le_succ ch) (hJ1.lo hz2) hM2)
theorem zc_5 (hL : L ≤ 2048) (hi : i + 4 ≤ L) (hJ : zCI A ch rf σ) (hM : zmf A rf σ) (hch : ch + 1 < 2 ^ 30) (next : ∀ (A2 : zAS) (ch2 : Nat) (rf2 : Nat → Int32) (σ2 : zST), ch2 ≤ ch + 1 → zCI A2 ch2 rf2 σ2 → zmf A2 rf2 σ2 → zLp E b L xs 958 i [] σ2) : zLp E b L xs 327 i [] σ := by
  refine zl_this1 dL_law_327 ?_
  refine zl_call (M' := zM_X7_freedom) (ci := 7) (CC := RX7) (T := TX7) (N := 9) (r := (7, 0)) (S' := []) (ys := []) rfl (by decide) rfl (by decide) rfl rfl zu_2_167 zu_2_164 zu_2_165 zu_2_166 zu_1_1 rfl ⟨by decide, rfl⟩ (Nat.le_of_ble_eq_true rfl) ⟨by decide, by decide⟩ dL_law_328 rfl (sp_freedom (d := 0) hJ) ?_
  rintro r1 σ1 ⟨hz1, hJ1, rfl⟩
  refine zl_this2 dL_law_331 ?_
  refine zl_call (M' := zM_X8_freedom) (ci := 8) (CC := RX8) (T := TX8) (N := 29) (r := (8, 48)) (S' := [_]) (ys := []) rfl (by decide) rfl (by decide) rfl rfl zu_4_123 zu_4_120 zu_4_121 zu_4_122 zu_1_9 rfl ⟨by decide, rfl⟩ (Nat.le_of_ble_eq_true rfl) ⟨by decide, by decide⟩ dL_law_332 rfl (sm_freedom (d := 0) (hM.hi hz1)) ?_
  rintro r2 σ2 ⟨hz2, hM2, rfl⟩
  exact zl_cmp dL_law_335 rfl rfl (next _ ch _ σ2 (Nat.le_succ ch) (hJ1.lo hz2) hM2)
theorem zc_6 (hL : L ≤ 2048) (hi : i + 4 ≤ L) (hJ : zCI A ch rf σ) (hM : zmf A rf σ) (hch : ch + 1 < 2 ^ 30) (next : ∀ (A2 : zAS) (ch2 : Nat) (rf2 : Nat → Int32) (σ2 : zST), ch2 ≤ ch + 1 → zCI A2 ch2 rf2 σ2 → zmf A2 rf2 σ2 → zLp E b L xs 958 i [] σ2) : zLp E b L xs 340 i [] σ := by
  refine zl_this1 dL_law_340 ?_
  refine zl_call (M' := zM_X7_stiff) (ci := 7) (CC := RX7) (T := TX7) (N := 9) (r := (7, 0)) (S' := []) (ys := []) rfl (by decide) rfl (by decide) rfl rfl zu_2_171 zu_2_168 zu_2_169 zu_2_170 zu_1_1 rfl ⟨by decide, rfl⟩ (Nat.le_of_ble_eq_true rfl) ⟨by decide, by decide⟩ dL_law_341 rfl (sp_stiff (d := 0) hJ) ?_
  rintro r1 σ1 ⟨hz1, hJ1, rfl⟩
  refine zl_this2 dL_law_344 ?_
  refine zl_call (M' := zM_X8_stiff) (ci := 8) (CC := RX8) (T := TX8) (N := 29) (r := (8, 48)) (S' := [_]) (ys := []) rfl (by decide) rfl (by decide) rfl rfl zu_4_131 zu_4_128 zu_4_129 zu_4_130 zu_1_9 rfl ⟨by decide, rfl⟩ (Nat.le_of_ble_eq_true rfl) ⟨by decide, by decide⟩ dL_law_345 rfl (sm_stiff (d := 0) (hM.hi hz1)) ?_
  rintro r2 σ2 ⟨hz2, hM2, rfl⟩
  exact zl_cmp dL_law_348 rfl rfl (next _ ch _ σ2 (Nat.le_succ ch) (hJ1.lo hz2) hM2)
theorem zc_7 (hL : L ≤ 2048) (hi : i + 4 ≤ L) (hJ : zCI A ch rf σ) (hM : zmf A rf σ) (hch : ch + 1 < 2 ^ 30) (next : ∀ (A2 : zAS) (ch2 : Nat) (rf2 : Nat → Int32) (σ2 : zST), ch2 ≤ ch + 1 → zCI A2 ch2 rf2 σ2 → zmf A2 rf2 σ2 → zLp E b L xs 958 i [] σ2) : zLp E b L xs 353 i [] σ := by
  refine zl_this1 dL_law_353 ?_
  refine zl_arg 1 (v := 1) rfl dL_law_354 dL_law_355 dL_law_356 dL_law_357 dL_law_358 (by omega) hL ?_
  refine zl_call (M' := zM_X7_kept) (ci := 7) (CC := RX7) (T := TX7) (N := 9) (r := (7, 0)) (S' := []) (ys := [xs (i + 1)]) rfl (by decide) rfl (by decide) rfl rfl zu_2_195 zu_2_192 zu_2_193 zu_2_194 zu_1_1 rfl ⟨by decide, rfl⟩ (Nat.le_of_ble_eq_true rfl) ⟨by decide, by decide⟩ dL_law_359 rfl (sp_kept (d := 0) hJ) ?_
  rintro r1 σ1 ⟨hz1, hJ1, rfl⟩
  refine zl_this2 dL_law_362 ?_
  refine zl_arg 1 (v := 1) rfl dL_law_363 dL_law_364 dL_law_365 dL_law_366 dL_law_367 (by omega) hL ?_
  refine zl_call (M' := zM_X8_kept) (ci := 8) (CC := RX8) (T := TX8) (N := 29) (r := (8, 48)) (S' := [_]) (ys := [xs (i + 1)]) rfl (by decide) rfl (by decide) rfl rfl zu_4_136 zu_4_133 zu_4_134 zu_4_135 zu_1_9 rfl ⟨by decide, rfl⟩ (Nat.le_of_ble_eq_true rfl) ⟨by decide, by decide⟩ dL_law_368 rfl (sm_kept (d := 0) (hM.hi hz1)) ?_
  rintro r2 σ2 ⟨hz2, hM2, rfl⟩
  exact zl_cmp dL_law_371 rfl rfl (next _ ch _ σ2 (Nat.le_succ ch) (hJ1.lo hz2) hM2)
theorem zc_8 (hL : L ≤ 2048) (hi : i + 4 ≤ L) (hJ : zCI A ch rf σ) (hM : zmf A rf σ) (hch : ch + 1 < 2 ^ 30) (next : ∀ (A2 : zAS) (ch2 : Nat) (rf2 : Nat → Int32) (σ2 : zST), ch2 ≤ ch + 1 → zCI A2 ch2 rf2 σ2 → zmf A2 rf2 σ2 → zLp E b L xs 958 i [] σ2) : zLp E b L xs 376 i [] σ := by
  refine zl_this1 dL_law_376 ?_
  refine zl_arg 1 (v := 1) rfl dL_law_377 dL_law_378 dL_law_379 dL_law_380 dL_law_381 (by omega) hL ?_
  refine zl_call (M' := zM_X7_spare) (ci := 7) (CC := RX7) (T := TX7) (N := 9) (r := (7, 0)) (S' := []) (ys := [xs (i + 1)]) rfl (by decide) rfl (by decide) rfl rfl zu_2_203 zu_2_200 zu_2_201 zu_2_202 zu_1_1 rfl ⟨by decide, rfl⟩ (Nat.le_of_ble_eq_true rfl) ⟨by decide, by decide⟩ dL_law_382 rfl (sp_spare (d := 0) hJ) ?_
  rintro r1 σ1 ⟨hz1, hJ1, rfl⟩
  refine zl_this2 dL_law_385 ?_
  refine zl_arg 1 (v := 1) rfl dL_law_386 dL_law_387 dL_law_388 dL_law_389 dL_law_390 (by omega) hL ?_
  refine zl_call (M' := zM_X8_spare) (ci := 8) (CC := RX8) (T := TX8) (N := 29) (r := (8, 48)) (S' := [_]) (ys := [xs (i + 1)]) rfl (by decide) rfl (by decide) rfl rfl zu_4_140 zu_4_137 zu_4_138 zu_4_139 zu_1_9 rfl ⟨by decide, rfl⟩ (Nat.le_of_ble_eq_true rfl) ⟨by decide, by decide⟩ dL_law_391 rfl (sm_spare (d := 0) (hM.hi hz1)) ?_
  rintro r2 σ2 ⟨hz2, hM2, rfl⟩
  exact zl_cmp dL_law_394 rfl rfl (next _ ch _ σ2 (Nat.le_succ ch) (hJ1.lo hz2) hM2)
theorem zc_9 (hL : L ≤ 2048) (hi : i + 4 ≤ L) (hJ : zCI A ch rf σ) (hM : zmf A rf σ) (hch : ch + 1 < 2 ^ 30) (next : ∀ (A2 : zAS) (ch2 : Nat) (rf2 : Nat → Int32) (σ2 : zST), ch2 ≤ ch + 1 → zCI A2 ch2 rf2 σ2 → zmf A2 rf2 σ2 → zLp E b L xs 958 i [] σ2) : zLp E b L xs 399 i [] σ := by
  refine zl_this1 dL_law_399 ?_
  refine zl_arg 1 (v := 1) rfl dL_law_400 dL_law_401 dL_law_402 dL_law_403 dL_law_404 (by omega) hL ?_
  refine zl_call (M' := zM_X7_circuit) (ci := 7) (CC := RX7) (T := TX7) (N := 9) (r := (7, 0)) (S' := []) (ys := [xs (i + 1)]) rfl (by decide) rfl (by decide) rfl rfl zu_2_208 zu_2_205 zu_2_206 zu_2_207 zu_1_1 rfl ⟨by decide, rfl⟩ (Nat.le_of_ble_eq_true rfl) ⟨by decide, by decide⟩ dL_law_405 rfl (sp_circuit (d := 0) hJ) ?_
  rintro r1 σ1 ⟨hz1, hJ1, rfl⟩
  refine zl_this2 dL_law_408 ?_
  refine zl_arg 1 (v := 1) rfl dL_law_409 dL_law_410 dL_law_411 dL_law_412 dL_law_413 (by omega) hL ?_
  refine zl_call (M' := zM_X8_circuit) (ci := 8) (CC := RX8) (T := TX8) (N := 29) (r := (8, 48)) (S' := [_]) (ys := [xs (i + 1)]) rfl (by decide) rfl (by decide) rfl rfl zu_4_148 zu_4_145 zu_4_146 zu_4_147 zu_1_9 rfl ⟨by decide, rfl⟩ (Nat.le_of_ble_eq_true rfl) ⟨by decide, by decide⟩ dL_law_414 rfl (sm_circuit (d := 0) (hM.hi hz1)) ?_
  rintro r2 σ2 ⟨hz2, hM2, rfl⟩
  exact zl_cmp dL_law_417 rfl rfl (next _ ch _ σ2 (Nat.le_succ ch) (hJ1.lo hz2) hM2)
theorem zc_10 (hL : L ≤ 2048) (hi : i + 4 ≤ L) (hJ : zCI A ch rf σ) (hM : zmf A rf σ) (hch : ch + 1 < 2 ^ 30) (next : ∀ (A2 : zAS) (ch2 : Nat) (rf2 : Nat → Int32) (σ2 : zST), ch2 ≤ ch + 1 → zCI A2 ch2 rf2 σ2 → zmf A2 rf2 σ2 → zLp E b L xs 958 i [] σ2) : zLp E b L xs 422 i [] σ := by
  refine zl_this1 dL_law_422 ?_
  refine zl_arg 1 (v := 1) rfl dL_law_423 dL_law_424 dL_law_425 dL_law_426 dL_law_427 (by omega) hL ?_
  refine zl_arg 2 (v := 2) rfl dL_law_428 dL_law_429 dL_law_430 dL_law_431 dL_law_432 (by omega) hL ?_
  refine zl_call (M' := zM_X7_circuitBar) (ci := 7) (CC := RX7) (T := TX7) (N := 9) (r := (7, 0)) (S' := []) (ys := [xs (i + 1), xs (i + 2)]) rfl (by decide) rfl (by decide) rfl rfl zu_2_217 zu_2_214 zu_2_215 zu_2_216 zu_1_1 rfl ⟨by decide, rfl⟩ (Nat.le_of_ble_eq_true rfl) ⟨by decide, by decide⟩ dL_law_433 rfl (sp_circuitBar (d := 0) hJ) ?_
  rintro r1 σ1 ⟨hz1, hJ1, rfl⟩
  refine zl_this2 dL_law_436 ?_
  refine zl_arg 1 (v := 1) rfl dL_law_437 dL_law_438 dL_law_439 dL_law_440 dL_law_441 (by omega) hL ?_
  refine zl_arg 2 (v := 2) rfl dL_law_442 dL_law_443 dL_law_444 dL_law_445 dL_law_446 (by omega) hL ?_
  refine zl_call (M' := zM_X8_circuitBar) (ci := 8) (CC := RX8) (T := TX8) (N := 29) (r := (8, 48)) (S' := [_]) (ys := [xs (i + 1), xs (i + 2)]) rfl (by decide) rfl (by decide) rfl rfl zu_4_160 zu_4_157 zu_4_158 zu_4_159 zu_1_9 rfl ⟨by decide, rfl⟩ (Nat.le_of_ble_eq_true rfl) ⟨by decide, by decide⟩ dL_law_447 rfl (sm_circuitBar (d := 0) (hM.hi hz1)) ?_
  rintro r2 σ2 ⟨hz2, hM2, rfl⟩
  exact zl_cmp dL_law_450 rfl rfl (next _ ch _ σ2 (Nat.le_succ ch) (hJ1.lo hz2) hM2)
theorem zc_11 (hL : L ≤ 2048) (hi : i + 4 ≤ L) (hJ : zCI A ch rf σ) (hM : zmf A rf σ) (hch : ch + 1 < 2 ^ 30) (next : ∀ (A2 : zAS) (ch2 : Nat) (rf2 : Nat → Int32) (σ2 : zST), ch2 ≤ ch + 1 → zCI A2 ch2 rf2 σ2 → zmf A2 rf2 σ2 → zLp E b L xs 958 i [] σ2) : zLp E b L xs 455 i [] σ := by
  refine zl_this1 dL_law_455 ?_
  refine zl_arg 1 (v := 1) rfl dL_law_456 dL_law_457 dL_law_458 dL_law_459 dL_law_460 (by omega) hL ?_
  refine zl_arg 2 (v := 2) rfl dL_law_461 dL_law_462 dL_law_463 dL_law_464 dL_law_465 (by omega) hL ?_
  refine zl_call (M' := zM_X7_grows) (ci := 7) (CC := RX7) (T := TX7) (N := 9) (r := (7, 0)) (S' := []) (ys := [xs (i + 1), xs (i + 2)]) rfl (by decide) rfl (by decide) rfl rfl zu_2_225 zu_2_222 zu_2_223 zu_2_224 zu_1_1 rfl ⟨by decide, rfl⟩ (Nat.le_of_ble_eq_true rfl) ⟨by decide, by decide⟩ dL_law_466 rfl (sp_grows (d := 0) hJ) ?_
  rintro r1 σ1 ⟨hz1, hJ1, rfl⟩
  refine zl_this2 dL_law_469 ?_
  refine zl_arg 1 (v := 1) rfl dL_law_470 dL_law_471 dL_law_472 dL_law_473 dL_law_474 (by omega) hL ?_
  refine zl_arg 2 (v := 2) rfl dL_law_475 dL_law_476 dL_law_477 dL_law_478 dL_law_479 (by omega) hL ?_
  refine zl_call (M' := zM_X8_grows) (ci := 8) (CC := RX8) (T := TX8) (N := 29) (r := (8, 48)) (S' := [_]) (ys := [xs (i + 1), xs (i + 2)]) rfl (by decide) rfl (by decide) rfl rfl zu_4_164 zu_4_161 zu_4_162 zu_4_163 zu_1_9 rfl ⟨by decide, rfl⟩ (Nat.le_of_ble_eq_true rfl) ⟨by decide, by decide⟩ dL_law_480 rfl (sm_grows (d := 0) (hM.hi hz1)) ?_
  rintro r2 σ2 ⟨hz2, hM2, rfl⟩
  exact zl_cmp dL_law_483 rfl rfl (next _ ch _ σ2 (Nat.le_succ ch) (hJ1.lo hz2) hM2)
theorem zc_12 (hL : L ≤ 2048) (hi : i + 4 ≤ L) (hJ : zCI A ch rf σ) (hM : zmf A rf σ) (hch : ch + 1 < 2 ^ 30) (next : ∀ (A2 : zAS) (ch2 : Nat) (rf2 : Nat → Int32) (σ2 : zST), ch2 ≤ ch + 1 → zCI A2 ch2 rf2 σ2 → zmf A2 rf2 σ2 → zLp E b L xs 958 i [] σ2) : zLp E b L xs 488 i [] σ := by
  refine zl_this1 dL_law_488 ?_
  refine zl_call (M' := zM_X7_clusters) (ci := 7) (CC := RX7) (T := TX7) (N := 9) (r := (7, 0)) (S' := []) (ys := []) rfl (by decide) rfl (by decide) rfl rfl zu_2_230 zu_2_227 zu_2_228 zu_2_229 zu_1_1 rfl ⟨by decide, rfl⟩ (Nat.le_of_ble_eq_true rfl) ⟨by decide, by decide⟩ dL_law_489 rfl (sp_clusters (d := 0) hJ) ?_
  rintro r1 σ1 ⟨hz1, hJ1, rfl⟩
  refine zl_this2 dL_law_492 ?_
  refine zl_call (M' := zM_X8_clusters) (ci := 8) (CC := RX8) (T := TX8) (N := 29) (r := (8, 48)) (S' := [_]) (ys := []) rfl (by decide) rfl (by decide) rfl rfl zu_4_168 zu_4_165 zu_4_166 zu_4_167 zu_1_9 rfl ⟨by decide, rfl⟩ (Nat.le_of_ble_eq_true rfl) ⟨by decide, by decide⟩ dL_law_493 rfl (sm_clusters (d := 0) (hM.hi hz1)) ?_
  rintro r2 σ2 ⟨hz2, hM2, rfl⟩
  exact zl_cmp dL_law_496 rfl rfl (next _ ch _ σ2 (Nat.le_succ ch) (hJ1.lo hz2) hM2)
theorem zc_13 (hL : L ≤ 2048) (hi : i + 4 ≤ L) (hJ : zCI A ch rf σ) (hM : zmf A rf σ) (hch : ch + 1 < 2 ^ 30) (next : ∀ (A2 : zAS) (ch2 : Nat) (rf2 : Nat → Int32) (σ2 : zST), ch2 ≤ ch + 1 → zCI A2 ch2 rf2 σ2 → zmf A2 rf2 σ2 → zLp E b L xs 958 i [] σ2) : zLp E b L xs 501 i [] σ := by
  refine zl_this1 dL_law_501 ?_
  refine zl_arg 1 (v := 1) rfl dL_law_502 dL_law_503 dL_law_504 dL_law_505 dL_law_506 (by omega) hL ?_
  refine zl_call (M' := zM_X7_size) (ci := 7) (CC := RX7) (T := TX7) (N := 9) (r := (7, 0)) (S' := []) (ys := [xs (i + 1)]) rfl (by decide) rfl (by decide) rfl rfl zu_3_14 zu_3_11 zu_3_12 zu_3_13 zu_1_1 rfl ⟨by decide, rfl⟩ (Nat.le_of_ble_eq_true rfl) ⟨by decide, by decide⟩ dL_law_507 rfl (sp_size (d := 0) hJ) ?_
  rintro r1 σ1 ⟨hz1, hJ1, rfl⟩
  refine zl_this2 dL_law_510 ?_
  refine zl_arg 1 (v := 1) rfl dL_law_511 dL_law_512 dL_law_513 dL_law_514 dL_law_515 (by omega) hL ?_
  refine zl_call (M' := zM_X8_size) (ci := 8) (CC := RX8) (T := TX8) (N := 29) (r := (8, 48)) (S' := [_]) (ys := [xs (i + 1)]) rfl (by decide) rfl (by decide) rfl rfl zu_4_184 zu_4_181 zu_4_182 zu_4_183 zu_1_9 rfl ⟨by decide, rfl⟩ (Nat.le_of_ble_eq_true rfl) ⟨by decide, by decide⟩ dL_law_516 rfl (sm_size (d := 0) (hM.hi hz1)) ?_
  rintro r2 σ2 ⟨hz2, hM2, rfl⟩
  exact zl_cmp dL_law_519 rfl rfl (next _ ch _ σ2 (Nat.le_succ ch) (hJ1.lo hz2) hM2)
theorem zc_14 (hL : L ≤ 2048) (hi : i + 4 ≤ L) (hJ : zCI A ch rf σ) (hM : zmf A rf σ) (hch : ch + 1 < 2 ^ 30) (next : ∀ (A2 : zAS) (ch2 : Nat) (rf2 : Nat → Int32) (σ2 : zST), ch2 ≤ ch + 1 → zCI A2 ch2 rf2 σ2 → zmf A2 rf2 σ2 → zLp E b L xs 958 i [] σ2) : zLp E b L xs 524 i [] σ := by
  refine zl_this1 dL_law_524 ?_
  refine zl_arg 1 (v := 1) rfl dL_law_525 dL_law_526 dL_law_527 dL_law_528 dL_law_529 (by omega) hL ?_
  refine zl_arg 2 (v := 2) rfl dL_law_530 dL_law_531 dL_law_532 dL_law_533 dL_law_534 (by omega) hL ?_
  refine zl_call (M' := zM_X7_member) (ci := 7) (CC := RX7) (T := TX7) (N := 9) (r := (7, 0)) (S' := []) (ys := [xs (i + 1), xs (i + 2)]) rfl (by decide) rfl (by decide) rfl rfl zu_3_28 zu_3_25 zu_3_26 zu_3_27 zu_1_1 rfl ⟨by decide, rfl⟩ (Nat.le_of_ble_eq_true rfl) ⟨by decide, by decide⟩ dL_law_535 rfl (sp_member (d := 0) hJ) ?_
  rintro r1 σ1 ⟨hz1, hJ1, rfl⟩
  refine zl_this2 dL_law_538 ?_
  refine zl_arg 1 (v := 1) rfl dL_law_539 dL_law_540 dL_law_541 dL_law_542 dL_law_543 (by omega) hL ?_
  refine zl_arg 2 (v := 2) rfl dL_law_544 dL_law_545 dL_law_546 dL_law_547 dL_law_548 (by omega) hL ?_
  refine zl_call (M' := zM_X8_member) (ci := 8) (CC := RX8) (T := TX8) (N := 29) (r := (8, 48)) (S' := [_]) (ys := [xs (i + 1), xs (i + 2)]) rfl (by decide) rfl (by decide) rfl rfl zu_4_191 zu_4_188 zu_4_189 zu_4_190 zu_1_9 rfl ⟨by decide, rfl⟩ (Nat.le_of_ble_eq_true rfl) ⟨by decide, by decide⟩ dL_law_549 rfl (sm_member (d := 0) (hM.hi hz1)) ?_
  rintro r2 σ2 ⟨hz2, hM2, rfl⟩
  exact zl_cmp dL_law_552 rfl rfl (next _ ch _ σ2 (Nat.le_succ ch) (hJ1.lo hz2) hM2)
theorem zc_15 (hL : L ≤ 2048) (hi : i + 4 ≤ L) (hJ : zCI A ch rf σ) (hM : zmf A rf σ) (hch : ch + 1 < 2 ^ 30) (next : ∀ (A2 : zAS) (ch2 : Nat) (rf2 : Nat → Int32) (σ2 : zST), ch2 ≤ ch + 1 → zCI A2 ch2 rf2 σ2 → zmf A2 rf2 σ2 → zLp E b L xs 958 i [] σ2) : zLp E b L xs 557 i [] σ := by
  refine zl_this1 dL_law_557 ?_
  refine zl_arg 1 (v := 1) rfl dL_law_558 dL_law_559 dL_law_560 dL_law_561 dL_law_562 (by omega) hL ?_
  refine zl_arg 2 (v := 2) rfl dL_law_563 dL_law_564 dL_law_565 dL_law_566 dL_law_567 (by omega) hL ?_
  refine zl_call (M' := zM_X7_together) (ci := 7) (CC := RX7) (T := TX7) (N := 9) (r := (7, 0)) (S' := []) (ys := [xs (i + 1), xs (i + 2)]) rfl (by decide) rfl (by decide) rfl rfl zu_3_36 zu_3_33 zu_3_34 zu_3_35 zu_1_1 rfl ⟨by decide, rfl⟩ (Nat.le_of_ble_eq_true rfl) ⟨by decide, by decide⟩ dL_law_568 rfl (sp_together (d := 0) hJ) ?_
  rintro r1 σ1 ⟨hz1, hJ1, rfl⟩
  refine zl_this2 dL_law_571 ?_
  refine zl_arg 1 (v := 1) rfl dL_law_572 dL_law_573 dL_law_574 dL_law_575 dL_law_576 (by omega) hL ?_
  refine zl_arg 2 (v := 2) rfl dL_law_577 dL_law_578 dL_law_579 dL_law_580 dL_law_581 (by omega) hL ?_
  refine zl_call (M' := zM_X8_together) (ci := 8) (CC := RX8) (T := TX8) (N := 29) (r := (8, 48)) (S' := [_]) (ys := [xs (i + 1), xs (i + 2)]) rfl (by decide) rfl (by decide) rfl rfl zu_4_195 zu_4_192 zu_4_193 zu_4_194 zu_1_9 rfl ⟨by decide, rfl⟩ (Nat.le_of_ble_eq_true rfl) ⟨by decide, by decide⟩ dL_law_582 rfl (sm_together (d := 0) (hM.hi hz1)) ?_
  rintro r2 σ2 ⟨hz2, hM2, rfl⟩
  exact zl_cmp dL_law_585 rfl rfl (next _ ch _ σ2 (Nat.le_succ ch) (hJ1.lo hz2) hM2)
theorem zc_16 (hL : L ≤ 2048) (hi : i + 4 ≤ L) (hJ : zCI A ch rf σ) (hM : zmf A rf σ) (hch : ch + 1 < 2 ^ 30) (next : ∀ (A2 : zAS) (ch2 : Nat) (rf2 : Nat → Int32) (σ2 : zST), ch2 ≤ ch + 1 → zCI A2 ch2 rf2 σ2 → zmf A2 rf2 σ2 → zLp E b L xs 958 i [] σ2) : zLp E b L xs 590 i [] σ := by
  refine zl_this1 dL_law_590 ?_
  refine zl_arg 1 (v := 1) rfl dL_law_591 dL_law_592 dL_law_593 dL_law_594 dL_law_595 (by omega) hL ?_
  refine zl_call (M' := zM_X7_hinge) (ci := 7) (CC := RX7) (T := TX7) (N := 9) (r := (7, 0)) (S' := []) (ys := [xs (i + 1)]) rfl (by decide) rfl (by decide) rfl rfl zu_3_44 zu_3_41 zu_3_42 zu_3_43 zu_1_1 rfl ⟨by decide, rfl⟩ (Nat.le_of_ble_eq_true rfl) ⟨by decide, by decide⟩ dL_law_596 rfl (sp_hinge (d := 0) hJ) ?_
  rintro r1 σ1 ⟨hz1, hJ1, rfl⟩
  refine zl_this2 dL_law_599 ?_
  refine zl_arg 1 (v := 1) rfl dL_law_600 dL_law_601 dL_law_602 dL_law_603 dL_law_604 (by omega) hL ?_
  refine zl_call (M' := zM_X8_hinge) (ci := 8) (CC := RX8) (T := TX8) (N := 29) (r := (8, 48)) (S' := [_]) (ys := [xs (i + 1)]) rfl (by decide) rfl (by decide) rfl rfl zu_4_199 zu_4_196 zu_4_197 zu_4_198 zu_1_9 rfl ⟨by decide, rfl⟩ (Nat.le_of_ble_eq_true rfl) ⟨by decide, by decide⟩ dL_law_605 rfl (sm_hinge (d := 0) (hM.hi hz1)) ?_
  rintro r2 σ2 ⟨hz2, hM2, rfl⟩
  exact zl_cmp dL_law_608 rfl rfl (next _ ch _ σ2 (Nat.le_succ ch) (hJ1.lo hz2) hM2)
theorem zc_17 (hL : L ≤ 2048) (hi : i + 4 ≤ L) (hJ : zCI A ch rf σ) (hM : zmf A rf σ) (hch : ch + 1 < 2 ^ 30) (next : ∀ (A2 : zAS) (ch2 : Nat) (rf2 : Nat → Int32) (σ2 : zST), ch2 ≤ ch + 1 → zCI A2 ch2 rf2 σ2 → zmf A2 rf2 σ2 → zLp E b L xs 958 i [] σ2) : zLp E b L xs 613 i [] σ := by
  refine zl_this1 dL_law_613 ?_
  refine zl_call (M' := zM_X7_pieces) (ci := 7) (CC := RX7) (T := TX7) (N := 9) (r := (7, 0)) (S' := []) (ys := []) rfl (by decide) rfl (by decide) rfl rfl zu_3_52 zu_3_49 zu_3_50 zu_3_51 zu_1_1 rfl ⟨by decide, rfl⟩ (Nat.le_of_ble_eq_true rfl) ⟨by decide, by decide⟩ dL_law_614 rfl (sp_pieces (d := 0) hJ) ?_
  rintro r1 σ1 ⟨hz1, hJ1, rfl⟩
  refine zl_this2 dL_law_617 ?_
  refine zl_call (M' := zM_X8_pieces) (ci := 8) (CC := RX8) (T := TX8) (N := 29) (r := (8, 48)) (S' := [_]) (ys := []) rfl (by decide) rfl (by decide) rfl rfl zu_4_207 zu_4_204 zu_4_205 zu_4_206 zu_1_9 rfl ⟨by decide, rfl⟩ (Nat.le_of_ble_eq_true rfl) ⟨by decide, by decide⟩ dL_law_618 rfl (sm_pieces (d := 0) (hM.hi hz1)) ?_
  rintro r2 σ2 ⟨hz2, hM2, rfl⟩
  exact zl_cmp dL_law_621 rfl rfl (next _ ch _ σ2 (Nat.le_succ ch) (hJ1.lo hz2) hM2)
theorem zc_18 (hL : L ≤ 2048) (hi : i + 4 ≤ L) (hJ : zCI A ch rf σ) (hM : zmf A rf σ) (hch : ch + 1 < 2 ^ 30) (next : ∀ (A2 : zAS) (ch2 : Nat) (rf2 : Nat → Int32) (σ2 : zST), ch2 ≤ ch + 1 → zCI A2 ch2 rf2 σ2 → zmf A2 rf2 σ2 → zLp E b L xs 958 i [] σ2) : zLp E b L xs 626 i [] σ := by
  refine zl_this1 dL_law_626 ?_
  refine zl_call (M' := zM_X7_cheapest) (ci := 7) (CC := RX7) (T := TX7) (N := 9) (r := (7, 0)) (S' := []) (ys := []) rfl (by decide) rfl (by decide) rfl rfl zu_3_56 zu_3_53 zu_3_54 zu_3_55 zu_1_1 rfl ⟨by decide, rfl⟩ (Nat.le_of_ble_eq_true rfl) ⟨by decide, by decide⟩ dL_law_627 rfl (sp_cheapest (d := 0) hJ) ?_
  rintro r1 σ1 ⟨hz1, hJ1, rfl⟩
  refine zl_this2 dL_law_630 ?_
  refine zl_call (M' := zM_X8_cheapest) (ci := 8) (CC := RX8) (T := TX8) (N := 29) (r := (8, 48)) (S' := [_]) (ys := []) rfl (by decide) rfl (by decide) rfl rfl zu_4_211 zu_4_208 zu_4_209 zu_4_210 zu_1_9 rfl ⟨by decide, rfl⟩ (Nat.le_of_ble_eq_true rfl) ⟨by decide, by decide⟩ dL_law_631 rfl (sm_cheapest (d := 0) (hM.hi hz1)) ?_
  rintro r2 σ2 ⟨hz2, hM2, rfl⟩
  exact zl_cmp dL_law_634 rfl rfl (next _ ch _ σ2 (Nat.le_succ ch) (hJ1.lo hz2) hM2)
theorem zc_19 (hL : L ≤ 2048) (hi : i + 4 ≤ L) (hJ : zCI A ch rf σ) (hM : zmf A rf σ) (hch : ch + 1 < 2 ^ 30) (next : ∀ (A2 : zAS) (ch2 : Nat) (rf2 : Nat → Int32) (σ2 : zST), ch2 ≤ ch + 1 → zCI A2 ch2 rf2 σ2 → zmf A2 rf2 σ2 → zLp E b L xs 958 i [] σ2) : zLp E b L xs 639 i [] σ := by
  refine zl_this1 dL_law_639 ?_
  refine zl_arg 1 (v := 1) rfl dL_law_640 dL_law_641 dL_law_642 dL_law_643 dL_law_644 (by omega) hL ?_
  refine zl_call (M' := zM_X7_cheap) (ci := 7) (CC := RX7) (T := TX7) (N := 9) (r := (7, 0)) (S' := []) (ys := [xs (i + 1)]) rfl (by decide) rfl (by decide) rfl rfl zu_3_64 zu_3_61 zu_3_62 zu_3_63 zu_1_1 rfl ⟨by decide, rfl⟩ (Nat.le_of_ble_eq_true rfl) ⟨by decide, by decide⟩ dL_law_645 rfl (sp_cheap (d := 0) hJ) ?_
  rintro r1 σ1 ⟨hz1, hJ1, rfl⟩
  refine zl_this2 dL_law_648 ?_
  refine zl_arg 1 (v := 1) rfl dL_law_649 dL_law_650 dL_law_651 dL_law_652 dL_law_653 (by omega) hL ?_
  refine zl_call (M' := zM_X8_cheap) (ci := 8) (CC := RX8) (T := TX8) (N := 29) (r := (8, 48)) (S' := [_]) (ys := [xs (i + 1)]) rfl (by decide) rfl (by decide) rfl rfl zu_4_219 zu_4_216 zu_4_217 zu_4_218 zu_1_9 rfl ⟨by decide, rfl⟩ (Nat.le_of_ble_eq_true rfl) ⟨by decide, by decide⟩ dL_law_654 rfl (sm_cheap (d := 0) (hM.hi hz1)) ?_
  rintro r2 σ2 ⟨hz2, hM2, rfl⟩
  exact zl_cmp dL_law_657 rfl rfl (next _ ch _ σ2 (Nat.le_succ ch) (hJ1.lo hz2) hM2)
theorem zc_20 (hL : L ≤ 2048) (hi : i + 4 ≤ L) (hJ : zCI A ch rf σ) (hM : zmf A rf σ) (hch : ch + 1 < 2 ^ 30) (next : ∀ (A2 : zAS) (ch2 : Nat) (rf2 : Nat → Int32) (σ2 : zST), ch2 ≤ ch + 1 → zCI A2 ch2 rf2 σ2 → zmf A2 rf2 σ2 → zLp E b L xs 958 i [] σ2) : zLp E b L xs 662 i [] σ := by
  refine zl_this1 dL_law_662 ?_
  refine zl_call (M' := zM_X7_fewest) (ci := 7) (CC := RX7) (T := TX7) (N := 9) (r := (7, 0)) (S' := []) (ys := []) rfl (by decide) rfl (by decide) rfl rfl zu_3_68 zu_3_65 zu_3_66 zu_3_67 zu_1_1 rfl ⟨by decide, rfl⟩ (Nat.le_of_ble_eq_true rfl) ⟨by decide, by decide⟩ dL_law_663 rfl (sp_fewest (d := 0) hJ) ?_
  rintro r1 σ1 ⟨hz1, hJ1, rfl⟩
  refine zl_this2 dL_law_666 ?_
  refine zl_call (M' := zM_X8_fewest) (ci := 8) (CC := RX8) (T := TX8) (N := 29) (r := (8, 48)) (S' := [_]) (ys := []) rfl (by decide) rfl (by decide) rfl rfl zu_4_223 zu_4_220 zu_4_221 zu_4_222 zu_1_9 rfl ⟨by decide, rfl⟩ (Nat.le_of_ble_eq_true rfl) ⟨by decide, by decide⟩ dL_law_667 rfl (sm_fewest (d := 0) (hM.hi hz1)) ?_
  rintro r2 σ2 ⟨hz2, hM2, rfl⟩
  exact zl_cmp dL_law_670 rfl rfl (next _ ch _ σ2 (Nat.le_succ ch) (hJ1.lo hz2) hM2)
theorem zc_21 (hL : L ≤ 2048) (hi : i + 4 ≤ L) (hJ : zCI A ch rf σ) (hM : zmf A rf σ) (hch : ch + 1 < 2 ^ 30) (next : ∀ (A2 : zAS) (ch2 : Nat) (rf2 : Nat → Int32) (σ2 : zST), ch2 ≤ ch + 1 → zCI A2 ch2 rf2 σ2 → zmf A2 rf2 σ2 → zLp E b L xs 958 i [] σ2) : zLp E b L xs 675 i [] σ := by
  refine zl_this1 dL_law_675 ?_
  refine zl_arg 1 (v := 1) rfl dL_law_676 dL_law_677 dL_law_678 dL_law_679 dL_law_680 (by omega) hL ?_
  refine zl_call (M' := zM_X7_fewestAt) (ci := 7) (CC := RX7) (T := TX7) (N := 9) (r := (7, 0)) (S' := []) (ys := [xs (i + 1)]) rfl (by decide) rfl (by decide) rfl rfl zu_3_84 zu_3_81 zu_3_82 zu_3_83 zu_1_1 rfl ⟨by decide, rfl⟩ (Nat.le_of_ble_eq_true rfl) ⟨by decide, by decide⟩ dL_law_681 rfl (sp_fewestAt (d := 0) hJ) ?_
  rintro r1 σ1 ⟨hz1, hJ1, rfl⟩
  refine zl_this2 dL_law_684 ?_
  refine zl_arg 1 (v := 1) rfl dL_law_685 dL_law_686 dL_law_687 dL_law_688 dL_law_689 (by omega) hL ?_
  refine zl_call (M' := zM_X8_fewestAt) (ci := 8) (CC := RX8) (T := TX8) (N := 29) (r := (8, 48)) (S' := [_]) (ys := [xs (i + 1)]) rfl (by decide) rfl (by decide) rfl rfl zu_4_231 zu_4_228 zu_4_229 zu_4_230 zu_1_9 rfl ⟨by decide, rfl⟩ (Nat.le_of_ble_eq_true rfl) ⟨by decide, by decide⟩ dL_law_690 rfl (sm_fewestAt (d := 0) (hM.hi hz1)) ?_
  rintro r2 σ2 ⟨hz2, hM2, rfl⟩
  exact zl_cmp dL_law_693 rfl rfl (next _ ch _ σ2 (Nat.le_succ ch) (hJ1.lo hz2) hM2)
theorem zc_22 (hL : L ≤ 2048) (hi : i + 4 ≤ L) (hJ : zCI A ch rf σ) (hM : zmf A rf σ) (hch : ch + 1 < 2 ^ 30) (next : ∀ (A2 : zAS) (ch2 : Nat) (rf2 : Nat → Int32) (σ2 : zST), ch2 ≤ ch + 1 → zCI A2 ch2 rf2 σ2 → zmf A2 rf2 σ2 → zLp E b L xs 958 i [] σ2) : zLp E b L xs 698 i [] σ := by
  refine zl_this1 dL_law_698 ?_
  refine zl_arg 1 (v := 1) rfl dL_law_699 dL_law_700 dL_law_701 dL_law_702 dL_law_703 (by omega) hL ?_
  refine zl_arg 2 (v := 2) rfl dL_law_704 dL_law_705 dL_law_706 dL_law_707 dL_law_708 (by omega) hL ?_
  refine zl_call (M' := zM_X7_back) (ci := 7) (CC := RX7) (T := TX7) (N := 9) (r := (7, 0)) (S' := []) (ys := [xs (i + 1), xs (i + 2)]) rfl (by decide) rfl (by decide) rfl rfl zu_3_88 zu_3_85 zu_3_86 zu_3_87 zu_1_1 rfl ⟨by decide, rfl⟩ (Nat.le_of_ble_eq_true rfl) ⟨by decide, by decide⟩ dL_law_709 rfl (sp_back (d := 0) hJ) ?_
  rintro r1 σ1 ⟨hz1, hJ1, rfl⟩
  refine zl_this2 dL_law_712 ?_
  refine zl_arg 1 (v := 1) rfl dL_law_713 dL_law_714 dL_law_715 dL_law_716 dL_law_717 (by omega) hL ?_
  refine zl_arg 2 (v := 2) rfl dL_law_718 dL_law_719 dL_law_720 dL_law_721 dL_law_722 (by omega) hL ?_
  refine zl_call (M' := zM_X8_back) (ci := 8) (CC := RX8) (T := TX8) (N := 29) (r := (8, 48)) (S' := [_]) (ys := [xs (i + 1), xs (i + 2)]) rfl (by decide) rfl (by decide) rfl rfl zu_4_235 zu_4_232 zu_4_233 zu_4_234 zu_1_9 rfl ⟨by decide, rfl⟩ (Nat.le_of_ble_eq_true rfl) ⟨by decide, by decide⟩ dL_law_723 rfl (sm_back (d := 0) (hM.hi hz1)) ?_
  rintro r2 σ2 ⟨hz2, hM2, rfl⟩
  exact zl_cmp dL_law_726 rfl rfl (next _ ch _ σ2 (Nat.le_succ ch) (hJ1.lo hz2) hM2)
theorem zc_23 (hL : L ≤ 2048) (hi : i + 4 ≤ L) (hJ : zCI A ch rf σ) (hM : zmf A rf σ) (hch : ch + 1 < 2 ^ 30) (next : ∀ (A2 : zAS) (ch2 : Nat) (rf2 : Nat → Int32) (σ2 : zST), ch2 ≤ ch + 1 → zCI A2 ch2 rf2 σ2 → zmf A2 rf2 σ2 → zLp E b L xs 958 i [] σ2) : zLp E b L xs 731 i [] σ := by
  refine zl_this1 dL_law_731 ?_
  refine zl_call (M' := zM_X7_threes) (ci := 7) (CC := RX7) (T := TX7) (N := 9) (r := (7, 0)) (S' := []) (ys := []) rfl (by decide) rfl (by decide) rfl rfl zu_3_123 zu_3_120 zu_3_121 zu_3_122 zu_1_1 rfl ⟨by decide, rfl⟩ (Nat.le_of_ble_eq_true rfl) ⟨by decide, by decide⟩ dL_law_732 rfl (sp_threes (d := 0) hJ) ?_
  rintro r1 σ1 ⟨hz1, hJ1, rfl⟩
  refine zl_this2 dL_law_735 ?_
  refine zl_call (M' := zM_X8_threes) (ci := 8) (CC := RX8) (T := TX8) (N := 29) (r := (8, 48)) (S' := [_]) (ys := []) rfl (by decide) rfl (by decide) rfl rfl zu_5_14 zu_5_11 zu_5_12 zu_5_13 zu_1_9 rfl ⟨by decide, rfl⟩ (Nat.le_of_ble_eq_true rfl) ⟨by decide, by decide⟩ dL_law_736 rfl (sm_threes (d := 0) (hM.hi hz1)) ?_
  rintro r2 σ2 ⟨hz2, hM2, rfl⟩
  exact zl_cmp dL_law_739 rfl rfl (next _ ch _ σ2 (Nat.le_succ ch) (hJ1.lo hz2) hM2)
theorem zc_24 (hL : L ≤ 2048) (hi : i + 4 ≤ L) (hJ : zCI A ch rf σ) (hM : zmf A rf σ) (hch : ch + 1 < 2 ^ 30) (next : ∀ (A2 : zAS) (ch2 : Nat) (rf2 : Nat → Int32) (σ2 : zST), ch2 ≤ ch + 1 → zCI A2 ch2 rf2 σ2 → zmf A2 rf2 σ2 → zLp E b L xs 958 i [] σ2) : zLp E b L xs 744 i [] σ := by
  refine zl_this1 dL_law_744 ?_
  refine zl_call (M' := zM_X7_bundles) (ci := 7) (CC := RX7) (T := TX7) (N := 9) (r := (7, 0)) (S' := []) (ys := []) rfl (by decide) rfl (by decide) rfl rfl zu_3_131 zu_3_128 zu_3_129 zu_3_130 zu_1_1 rfl ⟨by decide, rfl⟩ (Nat.le_of_ble_eq_true rfl) ⟨by decide, by decide⟩ dL_law_745 rfl (sp_bundles (d := 0) hJ) ?_
  rintro r1 σ1 ⟨hz1, hJ1, rfl⟩
  refine zl_this2 dL_law_748 ?_
  refine zl_call (M' := zM_X8_bundles) (ci := 8) (CC := RX8) (T := TX8) (N := 29) (r := (8, 48)) (S' := [_]) (ys := []) rfl (by decide) rfl (by decide) rfl rfl zu_5_18 zu_5_15 zu_5_16 zu_5_17 zu_1_9 rfl ⟨by decide, rfl⟩ (Nat.le_of_ble_eq_true rfl) ⟨by decide, by decide⟩ dL_law_749 rfl (sm_bundles (d := 0) (hM.hi hz1)) ?_
  rintro r2 σ2 ⟨hz2, hM2, rfl⟩
  exact zl_cmp dL_law_752 rfl rfl (next _ ch _ σ2 (Nat.le_succ ch) (hJ1.lo hz2) hM2)
theorem zc_25 (hL : L ≤ 2048) (hi : i + 4 ≤ L) (hJ : zCI A ch rf σ) (hM : zmf A rf σ) (hch : ch + 1 < 2 ^ 30) (next : ∀ (A2 : zAS) (ch2 : Nat) (rf2 : Nat → Int32) (σ2 : zST), ch2 ≤ ch + 1 → zCI A2 ch2 rf2 σ2 → zmf A2 rf2 σ2 → zLp E b L xs 958 i [] σ2) : zLp E b L xs 757 i [] σ := by
  refine zl_this1 dL_law_757 ?_
  refine zl_arg 1 (v := 1) rfl dL_law_758 dL_law_759 dL_law_760 dL_law_761 dL_law_762 (by omega) hL ?_
  refine zl_call (M' := zM_X7_bundle) (ci := 7) (CC := RX7) (T := TX7) (N := 9) (r := (7, 0)) (S' := []) (ys := [xs (i + 1)]) rfl (by decide) rfl (by decide) rfl rfl zu_3_156 zu_3_153 zu_3_154 zu_3_155 zu_1_1 rfl ⟨by decide, rfl⟩ (Nat.le_of_ble_eq_true rfl) ⟨by decide, by decide⟩ dL_law_763 rfl (sp_bundle (d := 0) hJ) ?_
  rintro r1 σ1 ⟨hz1, hJ1, rfl⟩
  refine zl_this2 dL_law_766 ?_
  refine zl_arg 1 (v := 1) rfl dL_law_767 dL_law_768 dL_law_769 dL_law_770 dL_law_771 (by omega) hL ?_
  refine zl_call (M' := zM_X8_bundle) (ci := 8) (CC := RX8) (T := TX8) (N := 29) (r := (8, 48)) (S' := [_]) (ys := [xs (i + 1)]) rfl (by decide) rfl (by decide) rfl rfl zu_5_30 zu_5_27 zu_5_28 zu_5_29 zu_1_9 rfl ⟨by decide, rfl⟩ (Nat.le_of_ble_eq_true rfl) ⟨by decide, by decide⟩ dL_law_772 rfl (sm_bundle (d := 0) (hM.hi hz1)) ?_
  rintro r2 σ2 ⟨hz2, hM2, rfl⟩
  exact zl_cmp dL_law_775 rfl rfl (next _ ch _ σ2 (Nat.le_succ ch) (hJ1.lo hz2) hM2)
theorem zc_26 (hL : L ≤ 2048) (hi : i + 4 ≤ L) (hJ : zCI A ch rf σ) (hM : zmf A rf σ) (hch : ch + 1 < 2 ^ 30) (next : ∀ (A2 : zAS) (ch2 : Nat) (rf2 : Nat → Int32) (σ2 : zST), ch2 ≤ ch + 1 → zCI A2 ch2 rf2 σ2 → zmf A2 rf2 σ2 → zLp E b L xs 958 i [] σ2) : zLp E b L xs 780 i [] σ := by
  refine zl_this1 dL_law_780 ?_
  refine zl_arg 1 (v := 1) rfl dL_law_781 dL_law_782 dL_law_783 dL_law_784 dL_law_785 (by omega) hL ?_
  refine zl_arg 2 (v := 2) rfl dL_law_786 dL_law_787 dL_law_788 dL_law_789 dL_law_790 (by omega) hL ?_
  refine zl_call (M' := zM_X7_rankBy) (ci := 7) (CC := RX7) (T := TX7) (N := 9) (r := (7, 0)) (S' := []) (ys := [xs (i + 1), xs (i + 2)]) rfl (by decide) rfl (by decide) rfl rfl zu_3_164 zu_3_161 zu_3_162 zu_3_163 zu_1_1 rfl ⟨by decide, rfl⟩ (Nat.le_of_ble_eq_true rfl) ⟨by decide, by decide⟩ dL_law_791 rfl (sp_rankBy (d := 0) hJ) ?_
  rintro r1 σ1 ⟨hz1, hJ1, rfl⟩
  refine zl_this2 dL_law_794 ?_
  refine zl_arg 1 (v := 1) rfl dL_law_795 dL_law_796 dL_law_797 dL_law_798 dL_law_799 (by omega) hL ?_
  refine zl_arg 2 (v := 2) rfl dL_law_800 dL_law_801 dL_law_802 dL_law_803 dL_law_804 (by omega) hL ?_
  refine zl_call (M' := zM_X8_rankBy) (ci := 8) (CC := RX8) (T := TX8) (N := 29) (r := (8, 48)) (S' := [_]) (ys := [xs (i + 1), xs (i + 2)]) rfl (by decide) rfl (by decide) rfl rfl zu_5_34 zu_5_31 zu_5_32 zu_5_33 zu_1_9 rfl ⟨by decide, rfl⟩ (Nat.le_of_ble_eq_true rfl) ⟨by decide, by decide⟩ dL_law_805 rfl (sm_rankBy (d := 0) (hM.hi hz1)) ?_
  rintro r2 σ2 ⟨hz2, hM2, rfl⟩
  exact zl_cmp dL_law_808 rfl rfl (next _ ch _ σ2 (Nat.le_succ ch) (hJ1.lo hz2) hM2)
theorem zc_27 (hL : L ≤ 2048) (hi : i + 4 ≤ L) (hJ : zCI A ch rf σ) (hM : zmf A rf σ) (hch : ch + 1 < 2 ^ 30) (next : ∀ (A2 : zAS) (ch2 : Nat) (rf2 : Nat → Int32) (σ2 : zST), ch2 ≤ ch + 1 → zCI A2 ch2 rf2 σ2 → zmf A2 rf2 σ2 → zLp E b L xs 958 i [] σ2) : zLp E b L xs 813 i [] σ := by
  refine zl_this1 dL_law_813 ?_
  refine zl_arg 1 (v := 1) rfl dL_law_814 dL_law_815 dL_law_816 dL_law_817 dL_law_818 (by omega) hL ?_
  refine zl_arg 2 (v := 2) rfl dL_law_819 dL_law_820 dL_law_821 dL_law_822 dL_law_823 (by omega) hL ?_
  refine zl_arg 3 (v := 3) rfl dL_law_824 dL_law_825 dL_law_826 dL_law_827 dL_law_828 (by omega) hL ?_
  refine zl_call (M' := zM_X7_keptBy) (ci := 7) (CC := RX7) (T := TX7) (N := 9) (r := (7, 0)) (S' := []) (ys := [xs (i + 1), xs (i + 2), xs (i + 3)]) rfl (by decide) rfl (by decide) rfl rfl zu_3_171 zu_3_168 zu_3_169 zu_3_170 zu_1_1 rfl ⟨by decide, rfl⟩ (Nat.le_of_ble_eq_true rfl) ⟨by decide, by decide⟩ dL_law_829 rfl (sp_keptBy (d := 0) hJ) ?_
  rintro r1 σ1 ⟨hz1, hJ1, rfl⟩
  refine zl_this2 dL_law_832 ?_
  refine zl_arg 1 (v := 1) rfl dL_law_833 dL_law_834 dL_law_835 dL_law_836 dL_law_837 (by omega) hL ?_
  refine zl_arg 2 (v := 2) rfl dL_law_838 dL_law_839 dL_law_840 dL_law_841 dL_law_842 (by omega) hL ?_
  refine zl_arg 3 (v := 3) rfl dL_law_843 dL_law_844 dL_law_845 dL_law_846 dL_law_847 (by omega) hL ?_
  refine zl_call (M' := zM_X8_keptBy) (ci := 8) (CC := RX8) (T := TX8) (N := 29) (r := (8, 48)) (S' := [_]) (ys := [xs (i + 1), xs (i + 2), xs (i + 3)]) rfl (by decide) rfl (by decide) rfl rfl zu_5_41 zu_5_38 zu_5_39 zu_5_40 zu_1_9 rfl ⟨by decide, rfl⟩ (Nat.le_of_ble_eq_true rfl) ⟨by decide, by decide⟩ dL_law_848 rfl (sm_keptBy (d := 0) (hM.hi hz1)) ?_
  rintro r2 σ2 ⟨hz2, hM2, rfl⟩
  exact zl_cmp dL_law_851 rfl rfl (next _ ch _ σ2 (Nat.le_succ ch) (hJ1.lo hz2) hM2)
theorem zc_28 (hL : L ≤ 2048) (hi : i + 4 ≤ L) (hJ : zCI A ch rf σ) (hM : zmf A rf σ) (hch : ch + 1 < 2 ^ 30) (next : ∀ (A2 : zAS) (ch2 : Nat) (rf2 : Nat → Int32) (σ2 : zST), ch2 ≤ ch + 1 → zCI A2 ch2 rf2 σ2 → zmf A2 rf2 σ2 → zLp E b L xs 958 i [] σ2) : zLp E b L xs 856 i [] σ := by
  refine zl_this1 dL_law_856 ?_
  refine zl_arg 1 (v := 1) rfl dL_law_857 dL_law_858 dL_law_859 dL_law_860 dL_law_861 (by omega) hL ?_
  refine zl_arg 2 (v := 2) rfl dL_law_862 dL_law_863 dL_law_864 dL_law_865 dL_law_866 (by omega) hL ?_
  refine zl_call (M' := zM_X7_tight) (ci := 7) (CC := RX7) (T := TX7) (N := 9) (r := (7, 0)) (S' := []) (ys := [xs (i + 1), xs (i + 2)]) rfl (by decide) rfl (by decide) rfl rfl zu_3_175 zu_3_172 zu_3_173 zu_3_174 zu_1_1 rfl ⟨by decide, rfl⟩ (Nat.le_of_ble_eq_true rfl) ⟨by decide, by decide⟩ dL_law_867 rfl (sp_tight (d := 0) hJ) ?_
  rintro r1 σ1 ⟨hz1, hJ1, rfl⟩
  refine zl_this2 dL_law_870 ?_
  refine zl_arg 1 (v := 1) rfl dL_law_871 dL_law_872 dL_law_873 dL_law_874 dL_law_875 (by omega) hL ?_
  refine zl_arg 2 (v := 2) rfl dL_law_876 dL_law_877 dL_law_878 dL_law_879 dL_law_880 (by omega) hL ?_
  refine zl_call (M' := zM_X8_tight) (ci := 8) (CC := RX8) (T := TX8) (N := 29) (r := (8, 48)) (S' := [_]) (ys := [xs (i + 1), xs (i + 2)]) rfl (by decide) rfl (by decide) rfl rfl zu_5_45 zu_5_42 zu_5_43 zu_5_44 zu_1_9 rfl ⟨by decide, rfl⟩ (Nat.le_of_ble_eq_true rfl) ⟨by decide, by decide⟩ dL_law_881 rfl (sm_tight (d := 0) (hM.hi hz1)) ?_
  rintro r2 σ2 ⟨hz2, hM2, rfl⟩
  exact zl_cmp dL_law_884 rfl rfl (next _ ch _ σ2 (Nat.le_succ ch) (hJ1.lo hz2) hM2)
theorem zc_29 (hL : L ≤ 2048) (hi : i + 4 ≤ L) (hJ : zCI A ch rf σ) (hM : zmf A rf σ) (hch : ch + 1 < 2 ^ 30) (next : ∀ (A2 : zAS) (ch2 : Nat) (rf2 : Nat → Int32) (σ2 : zST), ch2 ≤ ch + 1 → zCI A2 ch2 rf2 σ2 → zmf A2 rf2 σ2 → zLp E b L xs 958 i [] σ2) : zLp E b L xs 889 i [] σ := by
  refine zl_this1 dL_law_889 ?_
  refine zl_call (M' := zM_X7_forests) (ci := 7) (CC := RX7) (T := TX7) (N := 9) (r := (7, 0)) (S' := []) (ys := []) rfl (by decide) rfl (by decide) rfl rfl zu_3_179 zu_3_176 zu_3_177 zu_3_178 zu_1_1 rfl ⟨by decide, rfl⟩ (Nat.le_of_ble_eq_true rfl) ⟨by decide, by decide⟩ dL_law_890 rfl (sp_forests (d := 0) hJ) ?_
  rintro r1 σ1 ⟨hz1, hJ1, rfl⟩
  refine zl_this2 dL_law_893 ?_
  refine zl_call (M' := zM_X8_forests) (ci := 8) (CC := RX8) (T := TX8) (N := 29) (r := (8, 48)) (S' := [_]) (ys := []) rfl (by decide) rfl (by decide) rfl rfl zu_5_53 zu_5_50 zu_5_51 zu_5_52 zu_1_9 rfl ⟨by decide, rfl⟩ (Nat.le_of_ble_eq_true rfl) ⟨by decide, by decide⟩ dL_law_894 rfl (sm_forests (d := 0) (hM.hi hz1)) ?_
  rintro r2 σ2 ⟨hz2, hM2, rfl⟩
  exact zl_cmp dL_law_897 rfl rfl (next _ ch _ σ2 (Nat.le_succ ch) (hJ1.lo hz2) hM2)
theorem zc_30 (hL : L ≤ 2048) (hi : i + 4 ≤ L) (hJ : zCI A ch rf σ) (hM : zmf A rf σ) (hch : ch + 1 < 2 ^ 30) (next : ∀ (A2 : zAS) (ch2 : Nat) (rf2 : Nat → Int32) (σ2 : zST), ch2 ≤ ch + 1 → zCI A2 ch2 rf2 σ2 → zmf A2 rf2 σ2 → zLp E b L xs 958 i [] σ2) : zLp E b L xs 902 i [] σ := by
  refine zl_this1 dL_law_902 ?_
  refine zl_arg 1 (v := 1) rfl dL_law_903 dL_law_904 dL_law_905 dL_law_906 dL_law_907 (by omega) hL ?_
  refine zl_arg 2 (v := 2) rfl dL_law_908 dL_law_909 dL_law_910 dL_law_911 dL_law_912 (by omega) hL ?_
  refine zl_call (M' := zM_X7_barOf) (ci := 7) (CC := RX7) (T := TX7) (N := 9) (r := (7, 0)) (S' := []) (ys := [xs (i + 1), xs (i + 2)]) rfl (by decide) rfl (by decide) rfl rfl zu_3_183 zu_3_180 zu_3_181 zu_3_182 zu_1_1 rfl ⟨by decide, rfl⟩ (Nat.le_of_ble_eq_true rfl) ⟨by decide, by decide⟩ dL_law_913 rfl (sp_barOf (d := 0) hJ) ?_
  rintro r1 σ1 ⟨hz1, hJ1, rfl⟩
  refine zl_this2 dL_law_916 ?_
  refine zl_arg 1 (v := 1) rfl dL_law_917 dL_law_918 dL_law_919 dL_law_920 dL_law_921 (by omega) hL ?_
  refine zl_arg 2 (v := 2) rfl dL_law_922 dL_law_923 dL_law_924 dL_law_925 dL_law_926 (by omega) hL ?_
  refine zl_call (M' := zM_X8_barOf) (ci := 8) (CC := RX8) (T := TX8) (N := 29) (r := (8, 48)) (S' := [_]) (ys := [xs (i + 1), xs (i + 2)]) rfl (by decide) rfl (by decide) rfl rfl zu_5_57 zu_5_54 zu_5_55 zu_5_56 zu_1_9 rfl ⟨by decide, rfl⟩ (Nat.le_of_ble_eq_true rfl) ⟨by decide, by decide⟩ dL_law_927 rfl (sm_barOf (d := 0) (hM.hi hz1)) ?_
  rintro r2 σ2 ⟨hz2, hM2, rfl⟩
  exact zl_cmp dL_law_930 rfl rfl (next _ ch _ σ2 (Nat.le_succ ch) (hJ1.lo hz2) hM2)
theorem zc_31 (hL : L ≤ 2048) (hi : i + 4 ≤ L) (hJ : zCI A ch rf σ) (hM : zmf A rf σ) (hch : ch + 1 < 2 ^ 30) (next : ∀ (A2 : zAS) (ch2 : Nat) (rf2 : Nat → Int32) (σ2 : zST), ch2 ≤ ch + 1 → zCI A2 ch2 rf2 σ2 → zmf A2 rf2 σ2 → zLp E b L xs 958 i [] σ2) : zLp E b L xs 935 i [] σ := by
  refine zl_this1 dL_law_935 ?_
  refine zl_arg 1 (v := 1) rfl dL_law_936 dL_law_937 dL_law_938 dL_law_939 dL_law_940 (by omega) hL ?_
  refine zl_call (M' := zM_X7_count) (ci := 7) (CC := RX7) (T := TX7) (N := 9) (r := (7, 0)) (S' := []) (ys := [xs (i + 1)]) rfl (by decide) rfl (by decide) rfl rfl zu_3_187 zu_3_184 zu_3_185 zu_3_186 zu_1_1 rfl ⟨by decide, rfl⟩ (Nat.le_of_ble_eq_true rfl) ⟨by decide, by decide⟩ dL_law_941 rfl (sp_count (d := 0) hJ) ?_
  rintro r1 σ1 ⟨hz1, hJ1, rfl⟩
  refine zl_this2 dL_law_944 ?_
  refine zl_arg 1 (v := 1) rfl dL_law_945 dL_law_946 dL_law_947 dL_law_948 dL_law_949 (by omega) hL ?_
  refine zl_call (M' := zM_X8_count) (ci := 8) (CC := RX8) (T := TX8) (N := 29) (r := (8, 48)) (S' := [_]) (ys := [xs (i + 1)]) rfl (by decide) rfl (by decide) rfl rfl zu_5_61 zu_5_58 zu_5_59 zu_5_60 zu_1_9 rfl ⟨by decide, rfl⟩ (Nat.le_of_ble_eq_true rfl) ⟨by decide, by decide⟩ dL_law_950 rfl (sm_count (d := 0) (hM.hi hz1)) ?_
  rintro r2 σ2 ⟨hz2, hM2, rfl⟩
  exact zl_cmp dL_law_953 rfl rfl (next _ ch _ σ2 (Nat.le_succ ch) (hJ1.lo hz2) hM2)
end zCases
def zpcs : List Nat := [176, 189, 232, 281, 314, 327, 340, 353, 376, 399, 422, 455, 488, 501, 524, 557, 590, 613, 626, 639, 662, 675, 698, 731, 744, 757, 780, 813, 856, 889, 902, 935]
theorem zl_tab : ∀ j, j < 32 → ∃ off : Int, (#[144, 157, 200, 249, 282, 295, 308, 321, 344, 367, 390, 423, 456, 469, 492, 525, 558, 581, 594, 607, 630, 643, 666, 699, 712, 725, 748, 781, 824, 857, 870, 903] : Array Int)[j]? = some off ∧ (32 : Int) + off = ((zpcs.getD j 0 : Nat) : Int)
  | 0, _ => ⟨144, rfl, rfl⟩
  | 1, _ => ⟨157, rfl, rfl⟩
  | 2, _ => ⟨200, rfl, rfl⟩
  | 3, _ => ⟨249, rfl, rfl⟩
  | 4, _ => ⟨282, rfl, rfl⟩
  | 5, _ => ⟨295, rfl, rfl⟩
  | 6, _ => ⟨308, rfl, rfl⟩
  | 7, _ => ⟨321, rfl, rfl⟩
  | 8, _ => ⟨344, rfl, rfl⟩
  | 9, _ => ⟨367, rfl, rfl⟩
  | 10, _ => ⟨390, rfl, rfl⟩
  | 11, _ => ⟨423, rfl, rfl⟩
  | 12, _ => ⟨456, rfl, rfl⟩
  | 13, _ => ⟨469, rfl, rfl⟩
  | 14, _ => ⟨492, rfl, rfl⟩
  | 15, _ => ⟨525, rfl, rfl⟩
  | 16, _ => ⟨558, rfl, rfl⟩
  | 17, _ => ⟨581, rfl, rfl⟩
  | 18, _ => ⟨594, rfl, rfl⟩
  | 19, _ => ⟨607, rfl, rfl⟩
  | 20, _ => ⟨630, rfl, rfl⟩
  | 21, _ => ⟨643, rfl, rfl⟩
  | 22, _ => ⟨666, rfl, rfl⟩
  | 23, _ => ⟨699, rfl, rfl⟩
  | 24, _ => ⟨712, rfl, rfl⟩
  | 25, _ => ⟨725, rfl, rfl⟩
  | 26, _ => ⟨748, rfl, rfl⟩
  | 27, _ => ⟨781, rfl, rfl⟩
  | 28, _ => ⟨824, rfl, rfl⟩
  | 29, _ => ⟨857, rfl, rfl⟩
  | 30, _ => ⟨870, rfl, rfl⟩
  | 31, _ => ⟨903, rfl, rfl⟩
  | j + 32, h => absurd h (by omega)
section zLoop
variable {E : zEN} {b L : Nat} {xs : Nat → Int32}
theorem zl_cases {i ch : Nat} {A : zAS} {rf : Nat → Int32} {σ : zST} (hL : L ≤ 2048) (hi : i + 4 ≤ L) (hJ : zCI A ch rf σ) (hM : zmf A rf σ) (hch : ch + 1 < 2 ^ 30) (next : ∀ (A2 : zAS) (ch2 : Nat) (rf2 : Nat → Int32) (σ2 : zST), ch2 ≤ ch + 1 → zCI A2 ch2 rf2 σ2 → zmf A2 rf2 σ2 → zLp E b L xs 958 i [] σ2) : ∀ j, j < 32 → zLp E b L xs (zpcs.getD j 0) i [] σ
  | 0, _ => zc_0 hL hi hJ hM hch next
  | 1, _ => zc_1 hL hi hJ hM hch next
  | 2, _ => zc_2 hL hi hJ hM hch next
  | 3, _ => zc_3 hL hi hJ hM hch next
  | 4, _ => zc_4 hL hi hJ hM hch next
  | 5, _ => zc_5 hL hi hJ hM hch next
  | 6, _ => zc_6 hL hi hJ hM hch next
  | 7, _ => zc_7 hL hi hJ hM hch next
  | 8, _ => zc_8 hL hi hJ hM hch next
  | 9, _ => zc_9 hL hi hJ hM hch next
  | 10, _ => zc_10 hL hi hJ hM hch next
  | 11, _ => zc_11 hL hi hJ hM hch next
  | 12, _ => zc_12 hL hi hJ hM hch next
  | 13, _ => zc_13 hL hi hJ hM hch next
  | 14, _ => zc_14 hL hi hJ hM hch next
  | 15, _ => zc_15 hL hi hJ hM hch next
  | 16, _ => zc_16 hL hi hJ hM hch next
  | 17, _ => zc_17 hL hi hJ hM hch next
  | 18, _ => zc_18 hL hi hJ hM hch next
  | 19, _ => zc_19 hL hi hJ hM hch next
  | 20, _ => zc_20 hL hi hJ hM hch next
  | 21, _ => zc_21 hL hi hJ hM hch next
  | 22, _ => zc_22 hL hi hJ hM hch next
  | 23, _ => zc_23 hL hi hJ hM hch next
  | 24, _ => zc_24 hL hi hJ hM hch next
  | 25, _ => zc_25 hL hi hJ hM hch next
  | 26, _ => zc_26 hL hi hJ hM hch next
  | 27, _ => zc_27 hL hi hJ hM hch next
  | 28, _ => zc_28 hL hi hJ hM hch next
  | 29, _ => zc_29 hL hi hJ hM hch next
  | 30, _ => zc_30 hL hi hJ hM hch next
  | 31, _ => zc_31 hL hi hJ hM hch next
  | j + 32, h => absurd h (by omega)
theorem zl_loop (hL : L ≤ 2048) : ∀ (n i : Nat) (A : zAS) (ch : Nat) (rf : Nat → Int32) (σ : zST), L ≤ i + 4 * n → i ≤ L → ch ≤ i → zCI A ch rf σ → zmf A rf σ → zLp E b L xs 18 i [] σ
  | 0, i, A, ch, rf, σ, h1, h2, h3, hJ, hM => zl_head hL h2 (fun h4 => by omega)
  | n + 1, i, A, ch, rf, σ, h1, h2, h3, hJ, hM => zl_head hL h2 (fun h4 => zl_switch (pcs := zpcs) hL h4 zl_tab (zl_cases hL h4 hJ hM (by omega) (fun A2 ch2 rf2 σ2 q1 q2 q3 => zl_next (zl_loop hL n (i + 4) A2 ch2 rf2 σ2 (by omega) (by omega) (by omega) q2 q3))))
end zLoop
