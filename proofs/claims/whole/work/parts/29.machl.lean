set_option maxHeartbeats 4000000 in
set_option maxRecDepth 100000 in
theorem t_L_law_b1048 {l : Launch} {D : Nat} {n : Nat} {sc : Nat × (Nat → Int32)} {k18 : Int32 → Mem → Option (Int32 × Mem)} {x3 : Int32} {σ : Mem} (hk18 : ∀ x3 σ, G l sc (D + 15) m_L_law 18 [(0, .ref idScr), (1, .ref 0), (2, .ref 77), (3, .int x3)] [] σ (k18 x3 σ) (fun y => (some (.int y.1), y.2))) : G l sc (D + 15) m_L_law 1048 [(0, .ref idScr), (1, .ref 0), (2, .ref 77), (3, .int x3)] [] σ (f_L_law_b1048 n sc k18 x3 σ) (fun y => (some (.int y.1), y.2)) := by
  unfold f_L_law_b1048
  refine g_iinc (n := 3) (w := 7) d_L_law_1048 rfl (by decide) (by decide) rfl ?_
  refine g_goto (tgt := 18) d_L_law_1051 (by decide) ?_
  refine g_sub [1, 2, 3, 0] rfl ?_
  exact hk18 _ _
set_option maxHeartbeats 4000000 in
set_option maxRecDepth 100000 in
theorem t_L_law_b18 {l : Launch} {D : Nat} {n : Nat} {sc : Nat × (Nat → Int32)} {k18 : Int32 → Mem → Option (Int32 × Mem)} {x3 : Int32} {σ : Mem} (hk18 : ∀ x3 σ, G l sc (D + 15) m_L_law 18 [(0, .ref idScr), (1, .ref 0), (2, .ref 77), (3, .int x3)] [] σ (k18 x3 σ) (fun y => (some (.int y.1), y.2))) : G l sc (D + 15) m_L_law 18 [(0, .ref idScr), (1, .ref 0), (2, .ref 77), (3, .int x3)] [] σ (f_L_law_b18 n sc k18 x3 σ) (fun y => (some (.int y.1), y.2)) := by
  unfold f_L_law_b18
  refine g_iload_n (n := 3) d_L_law_18 rfl rfl ?_
  refine g_aload_n (n := 0) d_L_law_19 rfl rfl ?_
  refine g_slen rfl d_L_law_20 ?_
  refine g_bipush (v := 7) d_L_law_21 (by decide) ?_
  refine g_isub d_L_law_23 ?_
  refine g_icmp_gt (tgt := 1054) d_L_law_24 (by decide) (fun c1 => ?_) (fun c1 => ?_)
  · refine g_iconst (v := 1) d_L_law_1054 (by decide) ?_
    exact g_iret d_L_law_1055 (Or.inr ⟨rfl, rfl⟩) rfl
  · refine g_aload_n (n := 0) d_L_law_27 rfl rfl ?_
    refine g_iload_n (n := 3) d_L_law_28 rfl rfl ?_
    refine g_sld rfl d_L_law_29 (fun _ => ?_)
    refine g_bipush (v := 31) d_L_law_30 (by decide) ?_
    refine g_iand d_L_law_32 ?_
    refine g_nm (fun y2 => ?_)
    refine g_if (fun c3 => ?_) (fun c3 => ?_)
    · refine g_tabIn (tgt := 160) d_L_law_33 (by rw [c3]; decide) (by rw [c3]; decide) (by rw [c3]; rfl) (by decide) ?_
      refine g_aload_n (n := 1) d_L_law_160 rfl rfl ?_
      refine g_aload_n (n := 0) d_L_law_161 rfl rfl ?_
      refine g_iload_n (n := 3) d_L_law_162 rfl rfl ?_
      refine g_iconst (v := 1) d_L_law_163 (by decide) ?_
      refine g_iadd d_L_law_164 ?_
      refine g_nm (fun y4 => ?_)
      refine g_sld rfl d_L_law_165 (fun _ => ?_)
      refine g_aload_n (n := 0) d_L_law_166 rfl rfl ?_
      refine g_iload_n (n := 3) d_L_law_167 rfl rfl ?_
      refine g_iconst (v := 2) d_L_law_168 (by decide) ?_
      refine g_iadd d_L_law_169 ?_
      refine g_nm (fun y5 => ?_)
      refine g_sld rfl d_L_law_170 (fun _ => ?_)
      refine g_aload_n (n := 0) d_L_law_171 rfl rfl ?_
      refine g_iload_n (n := 3) d_L_law_172 rfl rfl ?_
      refine g_iconst (v := 3) d_L_law_173 (by decide) ?_
      refine g_iadd d_L_law_174 ?_
      refine g_nm (fun y6 => ?_)
      refine g_sld rfl d_L_law_175 (fun _ => ?_)
      refine g_callv_ii (D := D + 14) (As := [.int (sc.2 y4.toNatClampNeg), .int (sc.2 y5.toNatClampNeg), .int (sc.2 y6.toNatClampNeg)]) d_L_law_176 sv_L_13 ob_0 rfl (Nat.le_of_ble_eq_true rfl) rfl (fun _ hy => EvM_cast (by omega) (e_X7_row (D := D + 12) hy)) (fun y7 σ8 => ?_)
      refine g_aload_n (n := 2) d_L_law_179 rfl rfl ?_
      refine g_aload_n (n := 0) d_L_law_180 rfl rfl ?_
      refine g_iload_n (n := 3) d_L_law_181 rfl rfl ?_
      refine g_iconst (v := 1) d_L_law_182 (by decide) ?_
      refine g_iadd d_L_law_183 ?_
      refine g_nm (fun y9 => ?_)
      refine g_sld rfl d_L_law_184 (fun _ => ?_)
      refine g_aload_n (n := 0) d_L_law_185 rfl rfl ?_
      refine g_iload_n (n := 3) d_L_law_186 rfl rfl ?_
      refine g_iconst (v := 2) d_L_law_187 (by decide) ?_
      refine g_iadd d_L_law_188 ?_
      refine g_nm (fun y10 => ?_)
      refine g_sld rfl d_L_law_189 (fun _ => ?_)
      refine g_aload_n (n := 0) d_L_law_190 rfl rfl ?_
      refine g_iload_n (n := 3) d_L_law_191 rfl rfl ?_
      refine g_iconst (v := 3) d_L_law_192 (by decide) ?_
      refine g_iadd d_L_law_193 ?_
      refine g_nm (fun y11 => ?_)
      refine g_sld rfl d_L_law_194 (fun _ => ?_)
      refine g_callv_ii (D := D + 14) (As := [.int (sc.2 y9.toNatClampNeg), .int (sc.2 y10.toNatClampNeg), .int (sc.2 y11.toNatClampNeg)]) d_L_law_195 sv_L_17 ob_77 rfl (Nat.le_of_ble_eq_true rfl) rfl (fun _ hy => EvM_cast (by omega) (e_X8_row (D := D + 12) hy)) (fun y12 σ13 => ?_)
      refine g_icmp_eq (tgt := 1048) d_L_law_198 (by decide) (fun c14 => ?_) (fun c14 => ?_)
      · refine g_sub [0, 1, 2, 3] rfl ?_
        exact t_L_law_b1048 hk18
      · refine g_iconst (v := 0) d_L_law_201 (by decide) ?_
        exact g_iret d_L_law_202 (Or.inr ⟨rfl, rfl⟩) rfl
    refine g_if (fun c15 => ?_) (fun c15 => ?_)
    · refine g_tabIn (tgt := 203) d_L_law_33 (by rw [c15]; decide) (by rw [c15]; decide) (by rw [c15]; rfl) (by decide) ?_
      refine g_aload_n (n := 1) d_L_law_203 rfl rfl ?_
      refine g_aload_n (n := 0) d_L_law_204 rfl rfl ?_
      refine g_iload_n (n := 3) d_L_law_205 rfl rfl ?_
      refine g_iconst (v := 1) d_L_law_206 (by decide) ?_
      refine g_iadd d_L_law_207 ?_
      refine g_nm (fun y16 => ?_)
      refine g_sld rfl d_L_law_208 (fun _ => ?_)
      refine g_aload_n (n := 0) d_L_law_209 rfl rfl ?_
      refine g_iload_n (n := 3) d_L_law_210 rfl rfl ?_
      refine g_iconst (v := 2) d_L_law_211 (by decide) ?_
      refine g_iadd d_L_law_212 ?_
      refine g_nm (fun y17 => ?_)
      refine g_sld rfl d_L_law_213 (fun _ => ?_)
      refine g_aload_n (n := 0) d_L_law_214 rfl rfl ?_
      refine g_iload_n (n := 3) d_L_law_215 rfl rfl ?_
      refine g_iconst (v := 3) d_L_law_216 (by decide) ?_
      refine g_iadd d_L_law_217 ?_
      refine g_nm (fun y18 => ?_)
      refine g_sld rfl d_L_law_218 (fun _ => ?_)
      refine g_callv_ii (D := D + 14) (As := [.int (sc.2 y16.toNatClampNeg), .int (sc.2 y17.toNatClampNeg), .int (sc.2 y18.toNatClampNeg)]) d_L_law_219 sv_L_18 ob_0 rfl (Nat.le_of_ble_eq_true rfl) rfl (fun _ hy => EvM_cast (by omega) (e_X7_set (D := D + 12) hy)) (fun y19 σ20 => ?_)
      refine g_aload_n (n := 2) d_L_law_222 rfl rfl ?_
      refine g_aload_n (n := 0) d_L_law_223 rfl rfl ?_
      refine g_iload_n (n := 3) d_L_law_224 rfl rfl ?_
      refine g_iconst (v := 1) d_L_law_225 (by decide) ?_
      refine g_iadd d_L_law_226 ?_
      refine g_nm (fun y21 => ?_)
      refine g_sld rfl d_L_law_227 (fun _ => ?_)
      refine g_aload_n (n := 0) d_L_law_228 rfl rfl ?_
      refine g_iload_n (n := 3) d_L_law_229 rfl rfl ?_
      refine g_iconst (v := 2) d_L_law_230 (by decide) ?_
      refine g_iadd d_L_law_231 ?_
      refine g_nm (fun y22 => ?_)
      refine g_sld rfl d_L_law_232 (fun _ => ?_)
      refine g_aload_n (n := 0) d_L_law_233 rfl rfl ?_
      refine g_iload_n (n := 3) d_L_law_234 rfl rfl ?_
      refine g_iconst (v := 3) d_L_law_235 (by decide) ?_
      refine g_iadd d_L_law_236 ?_
      refine g_nm (fun y23 => ?_)
      refine g_sld rfl d_L_law_237 (fun _ => ?_)
      refine g_callv_ii (D := D + 14) (As := [.int (sc.2 y21.toNatClampNeg), .int (sc.2 y22.toNatClampNeg), .int (sc.2 y23.toNatClampNeg)]) d_L_law_238 sv_L_21 ob_77 rfl (Nat.le_of_ble_eq_true rfl) rfl (fun _ hy => EvM_cast (by omega) (e_X8_set (D := D + 12) hy)) (fun y24 σ25 => ?_)
      refine g_icmp_eq (tgt := 1048) d_L_law_241 (by decide) (fun c26 => ?_) (fun c26 => ?_)
      · refine g_sub [0, 1, 2, 3] rfl ?_
        exact t_L_law_b1048 hk18
      · refine g_iconst (v := 0) d_L_law_244 (by decide) ?_
        exact g_iret d_L_law_245 (Or.inr ⟨rfl, rfl⟩) rfl
    refine g_if (fun c27 => ?_) (fun c27 => ?_)
    · refine g_tabIn (tgt := 246) d_L_law_33 (by rw [c27]; decide) (by rw [c27]; decide) (by rw [c27]; rfl) (by decide) ?_
      refine g_aload_n (n := 1) d_L_law_246 rfl rfl ?_
      refine g_aload_n (n := 0) d_L_law_247 rfl rfl ?_
      refine g_iload_n (n := 3) d_L_law_248 rfl rfl ?_
      refine g_iconst (v := 1) d_L_law_249 (by decide) ?_
      refine g_iadd d_L_law_250 ?_
      refine g_nm (fun y28 => ?_)
      refine g_sld rfl d_L_law_251 (fun _ => ?_)
      refine g_aload_n (n := 0) d_L_law_252 rfl rfl ?_
      refine g_iload_n (n := 3) d_L_law_253 rfl rfl ?_
      refine g_iconst (v := 2) d_L_law_254 (by decide) ?_
      refine g_iadd d_L_law_255 ?_
      refine g_nm (fun y29 => ?_)
      refine g_sld rfl d_L_law_256 (fun _ => ?_)
      refine g_aload_n (n := 0) d_L_law_257 rfl rfl ?_
      refine g_iload_n (n := 3) d_L_law_258 rfl rfl ?_
      refine g_iconst (v := 3) d_L_law_259 (by decide) ?_
      refine g_iadd d_L_law_260 ?_
      refine g_nm (fun y30 => ?_)
      refine g_sld rfl d_L_law_261 (fun _ => ?_)
      refine g_aload_n (n := 0) d_L_law_262 rfl rfl ?_
      refine g_iload_n (n := 3) d_L_law_263 rfl rfl ?_
      refine g_iconst (v := 4) d_L_law_264 (by decide) ?_
      refine g_iadd d_L_law_265 ?_
      refine g_nm (fun y31 => ?_)
      refine g_sld rfl d_L_law_266 (fun _ => ?_)
      refine g_aload_n (n := 0) d_L_law_267 rfl rfl ?_
      refine g_iload_n (n := 3) d_L_law_268 rfl rfl ?_
      refine g_iconst (v := 5) d_L_law_269 (by decide) ?_
      refine g_iadd d_L_law_270 ?_
      refine g_nm (fun y32 => ?_)
      refine g_sld rfl d_L_law_271 (fun _ => ?_)
      refine g_callv_ii (D := D + 14) (As := [.int (sc.2 y28.toNatClampNeg), .int (sc.2 y29.toNatClampNeg), .int (sc.2 y30.toNatClampNeg), .int (sc.2 y31.toNatClampNeg), .int (sc.2 y32.toNatClampNeg)]) d_L_law_272 sv_L_22 ob_0 rfl (Nat.le_of_ble_eq_true rfl) rfl (fun _ hy => EvM_cast (by omega) (e_X7_copy (D := D + 13) hy)) (fun y33 σ34 => ?_)
      refine g_aload_n (n := 2) d_L_law_275 rfl rfl ?_
      refine g_aload_n (n := 0) d_L_law_276 rfl rfl ?_
      refine g_iload_n (n := 3) d_L_law_277 rfl rfl ?_
      refine g_iconst (v := 1) d_L_law_278 (by decide) ?_
      refine g_iadd d_L_law_279 ?_
      refine g_nm (fun y35 => ?_)
      refine g_sld rfl d_L_law_280 (fun _ => ?_)
      refine g_aload_n (n := 0) d_L_law_281 rfl rfl ?_
      refine g_iload_n (n := 3) d_L_law_282 rfl rfl ?_
      refine g_iconst (v := 2) d_L_law_283 (by decide) ?_
      refine g_iadd d_L_law_284 ?_
      refine g_nm (fun y36 => ?_)
      refine g_sld rfl d_L_law_285 (fun _ => ?_)
      refine g_aload_n (n := 0) d_L_law_286 rfl rfl ?_
      refine g_iload_n (n := 3) d_L_law_287 rfl rfl ?_
      refine g_iconst (v := 3) d_L_law_288 (by decide) ?_
      refine g_iadd d_L_law_289 ?_
      refine g_nm (fun y37 => ?_)
      refine g_sld rfl d_L_law_290 (fun _ => ?_)
      refine g_aload_n (n := 0) d_L_law_291 rfl rfl ?_
      refine g_iload_n (n := 3) d_L_law_292 rfl rfl ?_
      refine g_iconst (v := 4) d_L_law_293 (by decide) ?_
      refine g_iadd d_L_law_294 ?_
      refine g_nm (fun y38 => ?_)
      refine g_sld rfl d_L_law_295 (fun _ => ?_)
      refine g_aload_n (n := 0) d_L_law_296 rfl rfl ?_
      refine g_iload_n (n := 3) d_L_law_297 rfl rfl ?_
      refine g_iconst (v := 5) d_L_law_298 (by decide) ?_
      refine g_iadd d_L_law_299 ?_
      refine g_nm (fun y39 => ?_)
      refine g_sld rfl d_L_law_300 (fun _ => ?_)
      refine g_callv_ii (D := D + 14) (As := [.int (sc.2 y35.toNatClampNeg), .int (sc.2 y36.toNatClampNeg), .int (sc.2 y37.toNatClampNeg), .int (sc.2 y38.toNatClampNeg), .int (sc.2 y39.toNatClampNeg)]) d_L_law_301 sv_L_26 ob_77 rfl (Nat.le_of_ble_eq_true rfl) rfl (fun _ hy => EvM_cast (by omega) (e_X8_copy (D := D + 12) hy)) (fun y40 σ41 => ?_)
      refine g_icmp_eq (tgt := 1048) d_L_law_304 (by decide) (fun c42 => ?_) (fun c42 => ?_)
      · refine g_sub [0, 1, 2, 3] rfl ?_
        exact t_L_law_b1048 hk18
      · refine g_iconst (v := 0) d_L_law_307 (by decide) ?_
        exact g_iret d_L_law_308 (Or.inr ⟨rfl, rfl⟩) rfl
    refine g_if (fun c43 => ?_) (fun c43 => ?_)
    · refine g_tabIn (tgt := 309) d_L_law_33 (by rw [c43]; decide) (by rw [c43]; decide) (by rw [c43]; rfl) (by decide) ?_
      refine g_aload_n (n := 1) d_L_law_309 rfl rfl ?_
      refine g_aload_n (n := 0) d_L_law_310 rfl rfl ?_
      refine g_iload_n (n := 3) d_L_law_311 rfl rfl ?_
      refine g_iconst (v := 1) d_L_law_312 (by decide) ?_
      refine g_iadd d_L_law_313 ?_
      refine g_nm (fun y44 => ?_)
      refine g_sld rfl d_L_law_314 (fun _ => ?_)
      refine g_callv_ii (D := D + 14) (As := [.int (sc.2 y44.toNatClampNeg)]) d_L_law_315 sv_L_27 ob_0 rfl (Nat.le_of_ble_eq_true rfl) rfl (fun _ hy => EvM_cast (by omega) (e_X7_drop (D := D + 13) hy)) (fun y45 σ46 => ?_)
      refine g_aload_n (n := 2) d_L_law_318 rfl rfl ?_
      refine g_aload_n (n := 0) d_L_law_319 rfl rfl ?_
      refine g_iload_n (n := 3) d_L_law_320 rfl rfl ?_
      refine g_iconst (v := 1) d_L_law_321 (by decide) ?_
      refine g_iadd d_L_law_322 ?_
      refine g_nm (fun y47 => ?_)
      refine g_sld rfl d_L_law_323 (fun _ => ?_)
      refine g_callv_ii (D := D + 14) (As := [.int (sc.2 y47.toNatClampNeg)]) d_L_law_324 sv_L_31 ob_77 rfl (Nat.le_of_ble_eq_true rfl) rfl (fun _ hy => EvM_cast (by omega) (e_X8_drop (D := D + 12) hy)) (fun y48 σ49 => ?_)
      refine g_icmp_eq (tgt := 1048) d_L_law_327 (by decide) (fun c50 => ?_) (fun c50 => ?_)
      · refine g_sub [0, 1, 2, 3] rfl ?_
        exact t_L_law_b1048 hk18
      · refine g_iconst (v := 0) d_L_law_330 (by decide) ?_
        exact g_iret d_L_law_331 (Or.inr ⟨rfl, rfl⟩) rfl
    refine g_if (fun c51 => ?_) (fun c51 => ?_)
    · refine g_tabIn (tgt := 332) d_L_law_33 (by rw [c51]; decide) (by rw [c51]; decide) (by rw [c51]; rfl) (by decide) ?_
      refine g_aload_n (n := 1) d_L_law_332 rfl rfl ?_
      refine g_aload_n (n := 0) d_L_law_333 rfl rfl ?_
      refine g_iload_n (n := 3) d_L_law_334 rfl rfl ?_
      refine g_iconst (v := 1) d_L_law_335 (by decide) ?_
      refine g_iadd d_L_law_336 ?_
      refine g_nm (fun y52 => ?_)
      refine g_sld rfl d_L_law_337 (fun _ => ?_)
      refine g_callv_ii (D := D + 14) (As := [.int (sc.2 y52.toNatClampNeg)]) d_L_law_338 sv_L_32 ob_0 rfl (Nat.le_of_ble_eq_true rfl) rfl (fun _ hy => EvM_cast (by omega) (e_X7_feed (D := D + 13) hy)) (fun y53 σ54 => ?_)
      refine g_aload_n (n := 2) d_L_law_341 rfl rfl ?_
      refine g_aload_n (n := 0) d_L_law_342 rfl rfl ?_
      refine g_iload_n (n := 3) d_L_law_343 rfl rfl ?_
      refine g_iconst (v := 1) d_L_law_344 (by decide) ?_
      refine g_iadd d_L_law_345 ?_
      refine g_nm (fun y55 => ?_)
      refine g_sld rfl d_L_law_346 (fun _ => ?_)
      refine g_callv_ii (D := D + 14) (As := [.int (sc.2 y55.toNatClampNeg)]) d_L_law_347 sv_L_35 ob_77 rfl (Nat.le_of_ble_eq_true rfl) rfl (fun _ hy => EvM_cast (by omega) (e_X8_feed (D := D + 13) hy)) (fun y56 σ57 => ?_)
      refine g_icmp_eq (tgt := 1048) d_L_law_350 (by decide) (fun c58 => ?_) (fun c58 => ?_)
      · refine g_sub [0, 1, 2, 3] rfl ?_
        exact t_L_law_b1048 hk18
      · refine g_iconst (v := 0) d_L_law_353 (by decide) ?_
        exact g_iret d_L_law_354 (Or.inr ⟨rfl, rfl⟩) rfl
    refine g_if (fun c59 => ?_) (fun c59 => ?_)
    · refine g_tabIn (tgt := 355) d_L_law_33 (by rw [c59]; decide) (by rw [c59]; decide) (by rw [c59]; rfl) (by decide) ?_
      refine g_aload_n (n := 1) d_L_law_355 rfl rfl ?_
      refine g_callv_ii (D := D + 14) (As := []) d_L_law_356 sv_L_36 ob_0 rfl (Nat.le_of_ble_eq_true rfl) rfl (fun _ hy => EvM_cast (by omega) (e_X7_town (D := D + 10) hy)) (fun y60 σ61 => ?_)
      refine g_aload_n (n := 2) d_L_law_359 rfl rfl ?_
      refine g_callv_ii (D := D + 14) (As := []) d_L_law_360 sv_L_40 ob_77 rfl (Nat.le_of_ble_eq_true rfl) rfl (fun _ hy => EvM_cast (by omega) (e_X8_town (D := D + 8) hy)) (fun y62 σ63 => ?_)
      refine g_icmp_eq (tgt := 1048) d_L_law_363 (by decide) (fun c64 => ?_) (fun c64 => ?_)
      · refine g_sub [0, 1, 2, 3] rfl ?_
        exact t_L_law_b1048 hk18
      · refine g_iconst (v := 0) d_L_law_366 (by decide) ?_
        exact g_iret d_L_law_367 (Or.inr ⟨rfl, rfl⟩) rfl
    refine g_if (fun c65 => ?_) (fun c65 => ?_)
    · refine g_tabIn (tgt := 368) d_L_law_33 (by rw [c65]; decide) (by rw [c65]; decide) (by rw [c65]; rfl) (by decide) ?_
      refine g_aload_n (n := 1) d_L_law_368 rfl rfl ?_
      refine g_callv_pi (D := D + 14) (As := []) d_L_law_369 sv_L_41 ob_0 rfl (Nat.le_of_ble_eq_true rfl) rfl (fun _ hy => EvM_cast (by omega) (e_X7_fault (D := D + 14) hy)) (fun y66 => ?_)
      refine g_aload_n (n := 2) d_L_law_372 rfl rfl ?_
      refine g_callv_pi (D := D + 14) (As := []) d_L_law_373 sv_L_44 ob_77 rfl (Nat.le_of_ble_eq_true rfl) rfl (fun _ hy => EvM_cast (by omega) (e_X8_fault (D := D + 14) hy)) (fun y67 => ?_)
      refine g_icmp_eq (tgt := 1048) d_L_law_376 (by decide) (fun c68 => ?_) (fun c68 => ?_)
      · refine g_sub [0, 1, 2, 3] rfl ?_
        exact t_L_law_b1048 hk18
      · refine g_iconst (v := 0) d_L_law_379 (by decide) ?_
        exact g_iret d_L_law_380 (Or.inr ⟨rfl, rfl⟩) rfl
    refine g_if (fun c69 => ?_) (fun c69 => ?_)
    · refine g_tabIn (tgt := 381) d_L_law_33 (by rw [c69]; decide) (by rw [c69]; decide) (by rw [c69]; rfl) (by decide) ?_
      refine g_aload_n (n := 1) d_L_law_381 rfl rfl ?_
      refine g_aload_n (n := 0) d_L_law_382 rfl rfl ?_
      refine g_iload_n (n := 3) d_L_law_383 rfl rfl ?_
      refine g_iconst (v := 1) d_L_law_384 (by decide) ?_
      refine g_iadd d_L_law_385 ?_
      refine g_nm (fun y70 => ?_)
      refine g_sld rfl d_L_law_386 (fun _ => ?_)
      refine g_callv_ii (D := D + 14) (As := [.int (sc.2 y70.toNatClampNeg)]) d_L_law_387 sv_L_45 ob_0 rfl (Nat.le_of_ble_eq_true rfl) rfl (fun _ hy => EvM_cast (by omega) (e_X7_give (D := D + 10) hy)) (fun y71 σ72 => ?_)
      refine g_aload_n (n := 2) d_L_law_390 rfl rfl ?_
      refine g_aload_n (n := 0) d_L_law_391 rfl rfl ?_
      refine g_iload_n (n := 3) d_L_law_392 rfl rfl ?_
      refine g_iconst (v := 1) d_L_law_393 (by decide) ?_
      refine g_iadd d_L_law_394 ?_
      refine g_nm (fun y73 => ?_)
      refine g_sld rfl d_L_law_395 (fun _ => ?_)
      refine g_callv_ii (D := D + 14) (As := [.int (sc.2 y73.toNatClampNeg)]) d_L_law_396 sv_L_48 ob_77 rfl (Nat.le_of_ble_eq_true rfl) rfl (fun _ hy => EvM_cast (by omega) (e_X8_give (D := D + 11) hy)) (fun y74 σ75 => ?_)
      refine g_icmp_eq (tgt := 1048) d_L_law_399 (by decide) (fun c76 => ?_) (fun c76 => ?_)
      · refine g_sub [0, 1, 2, 3] rfl ?_
        exact t_L_law_b1048 hk18
      · refine g_iconst (v := 0) d_L_law_402 (by decide) ?_
        exact g_iret d_L_law_403 (Or.inr ⟨rfl, rfl⟩) rfl
    refine g_if (fun c77 => ?_) (fun c77 => ?_)
    · refine g_tabIn (tgt := 404) d_L_law_33 (by rw [c77]; decide) (by rw [c77]; decide) (by rw [c77]; rfl) (by decide) ?_
      refine g_aload_n (n := 1) d_L_law_404 rfl rfl ?_
      refine g_aload_n (n := 0) d_L_law_405 rfl rfl ?_
      refine g_iload_n (n := 3) d_L_law_406 rfl rfl ?_
      refine g_iconst (v := 1) d_L_law_407 (by decide) ?_
      refine g_iadd d_L_law_408 ?_
      refine g_nm (fun y78 => ?_)
      refine g_sld rfl d_L_law_409 (fun _ => ?_)
      refine g_callv_ii (D := D + 14) (As := [.int (sc.2 y78.toNatClampNeg)]) d_L_law_410 sv_L_49 ob_0 rfl (Nat.le_of_ble_eq_true rfl) rfl (fun _ hy => EvM_cast (by omega) (e_X7_pause (D := D + 12) hy)) (fun y79 σ80 => ?_)
      refine g_aload_n (n := 2) d_L_law_413 rfl rfl ?_
      refine g_aload_n (n := 0) d_L_law_414 rfl rfl ?_
      refine g_iload_n (n := 3) d_L_law_415 rfl rfl ?_
      refine g_iconst (v := 1) d_L_law_416 (by decide) ?_
      refine g_iadd d_L_law_417 ?_
      refine g_nm (fun y81 => ?_)
      refine g_sld rfl d_L_law_418 (fun _ => ?_)
      refine g_callv_ii (D := D + 14) (As := [.int (sc.2 y81.toNatClampNeg)]) d_L_law_419 sv_L_52 ob_77 rfl (Nat.le_of_ble_eq_true rfl) rfl (fun _ hy => EvM_cast (by omega) (e_X8_pause (D := D + 12) hy)) (fun y82 σ83 => ?_)
      refine g_icmp_eq (tgt := 1048) d_L_law_422 (by decide) (fun c84 => ?_) (fun c84 => ?_)
      · refine g_sub [0, 1, 2, 3] rfl ?_
        exact t_L_law_b1048 hk18
      · refine g_iconst (v := 0) d_L_law_425 (by decide) ?_
        exact g_iret d_L_law_426 (Or.inr ⟨rfl, rfl⟩) rfl
    refine g_if (fun c85 => ?_) (fun c85 => ?_)
    · refine g_tabIn (tgt := 427) d_L_law_33 (by rw [c85]; decide) (by rw [c85]; decide) (by rw [c85]; rfl) (by decide) ?_
      refine g_aload_n (n := 1) d_L_law_427 rfl rfl ?_
      refine g_aload_n (n := 0) d_L_law_428 rfl rfl ?_
      refine g_iload_n (n := 3) d_L_law_429 rfl rfl ?_
      refine g_iconst (v := 1) d_L_law_430 (by decide) ?_
      refine g_iadd d_L_law_431 ?_
      refine g_nm (fun y86 => ?_)
      refine g_sld rfl d_L_law_432 (fun _ => ?_)
      refine g_aload_n (n := 0) d_L_law_433 rfl rfl ?_
      refine g_iload_n (n := 3) d_L_law_434 rfl rfl ?_
      refine g_iconst (v := 2) d_L_law_435 (by decide) ?_
      refine g_iadd d_L_law_436 ?_
      refine g_nm (fun y87 => ?_)
      refine g_sld rfl d_L_law_437 (fun _ => ?_)
      refine g_callv_ii (D := D + 14) (As := [.int (sc.2 y86.toNatClampNeg), .int (sc.2 y87.toNatClampNeg)]) d_L_law_438 sv_L_53 ob_0 rfl (Nat.le_of_ble_eq_true rfl) rfl (fun _ hy => EvM_cast (by omega) (e_X7_value (D := D + 12) hy)) (fun y88 σ89 => ?_)
      refine g_aload_n (n := 2) d_L_law_441 rfl rfl ?_
      refine g_aload_n (n := 0) d_L_law_442 rfl rfl ?_
      refine g_iload_n (n := 3) d_L_law_443 rfl rfl ?_
      refine g_iconst (v := 1) d_L_law_444 (by decide) ?_
      refine g_iadd d_L_law_445 ?_
      refine g_nm (fun y90 => ?_)
      refine g_sld rfl d_L_law_446 (fun _ => ?_)
      refine g_aload_n (n := 0) d_L_law_447 rfl rfl ?_
      refine g_iload_n (n := 3) d_L_law_448 rfl rfl ?_
      refine g_iconst (v := 2) d_L_law_449 (by decide) ?_
      refine g_iadd d_L_law_450 ?_
      refine g_nm (fun y91 => ?_)
      refine g_sld rfl d_L_law_451 (fun _ => ?_)
      refine g_callv_ii (D := D + 14) (As := [.int (sc.2 y90.toNatClampNeg), .int (sc.2 y91.toNatClampNeg)]) d_L_law_452 sv_L_57 ob_77 rfl (Nat.le_of_ble_eq_true rfl) rfl (fun _ hy => EvM_cast (by omega) (e_X8_value (D := D + 12) hy)) (fun y92 σ93 => ?_)
      refine g_icmp_eq (tgt := 1048) d_L_law_455 (by decide) (fun c94 => ?_) (fun c94 => ?_)
      · refine g_sub [0, 1, 2, 3] rfl ?_
        exact t_L_law_b1048 hk18
      · refine g_iconst (v := 0) d_L_law_458 (by decide) ?_
        exact g_iret d_L_law_459 (Or.inr ⟨rfl, rfl⟩) rfl
    refine g_if (fun c95 => ?_) (fun c95 => ?_)
    · refine g_tabIn (tgt := 460) d_L_law_33 (by rw [c95]; decide) (by rw [c95]; decide) (by rw [c95]; rfl) (by decide) ?_
      refine g_aload_n (n := 1) d_L_law_460 rfl rfl ?_
      refine g_aload_n (n := 0) d_L_law_461 rfl rfl ?_
      refine g_iload_n (n := 3) d_L_law_462 rfl rfl ?_
      refine g_iconst (v := 1) d_L_law_463 (by decide) ?_
      refine g_iadd d_L_law_464 ?_
      refine g_nm (fun y96 => ?_)
      refine g_sld rfl d_L_law_465 (fun _ => ?_)
      refine g_aload_n (n := 0) d_L_law_466 rfl rfl ?_
      refine g_iload_n (n := 3) d_L_law_467 rfl rfl ?_
      refine g_iconst (v := 2) d_L_law_468 (by decide) ?_
      refine g_iadd d_L_law_469 ?_
      refine g_nm (fun y97 => ?_)
      refine g_sld rfl d_L_law_470 (fun _ => ?_)
      refine g_callv_ii (D := D + 14) (As := [.int (sc.2 y96.toNatClampNeg), .int (sc.2 y97.toNatClampNeg)]) d_L_law_471 sv_L_58 ob_0 rfl (Nat.le_of_ble_eq_true rfl) rfl (fun _ hy => EvM_cast (by omega) (e_X7_move (D := D + 12) hy)) (fun y98 σ99 => ?_)
      refine g_aload_n (n := 2) d_L_law_474 rfl rfl ?_
      refine g_aload_n (n := 0) d_L_law_475 rfl rfl ?_
      refine g_iload_n (n := 3) d_L_law_476 rfl rfl ?_
      refine g_iconst (v := 1) d_L_law_477 (by decide) ?_
      refine g_iadd d_L_law_478 ?_
      refine g_nm (fun y100 => ?_)
      refine g_sld rfl d_L_law_479 (fun _ => ?_)
      refine g_aload_n (n := 0) d_L_law_480 rfl rfl ?_
      refine g_iload_n (n := 3) d_L_law_481 rfl rfl ?_
      refine g_iconst (v := 2) d_L_law_482 (by decide) ?_
      refine g_iadd d_L_law_483 ?_
      refine g_nm (fun y101 => ?_)
      refine g_sld rfl d_L_law_484 (fun _ => ?_)
      refine g_callv_ii (D := D + 14) (As := [.int (sc.2 y100.toNatClampNeg), .int (sc.2 y101.toNatClampNeg)]) d_L_law_485 sv_L_61 ob_77 rfl (Nat.le_of_ble_eq_true rfl) rfl (fun _ hy => EvM_cast (by omega) (e_X8_move (D := D + 12) hy)) (fun y102 σ103 => ?_)
      refine g_icmp_eq (tgt := 1048) d_L_law_488 (by decide) (fun c104 => ?_) (fun c104 => ?_)
      · refine g_sub [0, 1, 2, 3] rfl ?_
        exact t_L_law_b1048 hk18
      · refine g_iconst (v := 0) d_L_law_491 (by decide) ?_
        exact g_iret d_L_law_492 (Or.inr ⟨rfl, rfl⟩) rfl
    refine g_if (fun c105 => ?_) (fun c105 => ?_)
    · refine g_tabIn (tgt := 493) d_L_law_33 (by rw [c105]; decide) (by rw [c105]; decide) (by rw [c105]; rfl) (by decide) ?_
      refine g_aload_n (n := 1) d_L_law_493 rfl rfl ?_
      refine g_callv_ii (D := D + 14) (As := []) d_L_law_494 sv_L_62 ob_0 rfl (Nat.le_of_ble_eq_true rfl) rfl (fun _ hy => EvM_cast (by omega) (e_X7_undo (D := D + 12) hy)) (fun y106 σ107 => ?_)
      refine g_aload_n (n := 2) d_L_law_497 rfl rfl ?_
      refine g_callv_ii (D := D + 14) (As := []) d_L_law_498 sv_L_65 ob_77 rfl (Nat.le_of_ble_eq_true rfl) rfl (fun _ hy => EvM_cast (by omega) (e_X8_undo (D := D + 13) hy)) (fun y108 σ109 => ?_)
      refine g_icmp_eq (tgt := 1048) d_L_law_501 (by decide) (fun c110 => ?_) (fun c110 => ?_)
      · refine g_sub [0, 1, 2, 3] rfl ?_
        exact t_L_law_b1048 hk18
      · refine g_iconst (v := 0) d_L_law_504 (by decide) ?_
        exact g_iret d_L_law_505 (Or.inr ⟨rfl, rfl⟩) rfl
    refine g_if (fun c111 => ?_) (fun c111 => ?_)
    · refine g_tabIn (tgt := 506) d_L_law_33 (by rw [c111]; decide) (by rw [c111]; decide) (by rw [c111]; rfl) (by decide) ?_
      refine g_aload_n (n := 1) d_L_law_506 rfl rfl ?_
      refine g_aload_n (n := 0) d_L_law_507 rfl rfl ?_
      refine g_iload_n (n := 3) d_L_law_508 rfl rfl ?_
      refine g_iconst (v := 1) d_L_law_509 (by decide) ?_
      refine g_iadd d_L_law_510 ?_
      refine g_nm (fun y112 => ?_)
      refine g_sld rfl d_L_law_511 (fun _ => ?_)
      refine g_aload_n (n := 0) d_L_law_512 rfl rfl ?_
      refine g_iload_n (n := 3) d_L_law_513 rfl rfl ?_
      refine g_iconst (v := 2) d_L_law_514 (by decide) ?_
      refine g_iadd d_L_law_515 ?_
      refine g_nm (fun y113 => ?_)
      refine g_sld rfl d_L_law_516 (fun _ => ?_)
      refine g_callv_pi (D := D + 14) (As := [.int (sc.2 y112.toNatClampNeg), .int (sc.2 y113.toNatClampNeg)]) d_L_law_517 sv_L_66 ob_0 rfl (Nat.le_of_ble_eq_true rfl) rfl (fun _ hy => EvM_cast (by omega) (e_X7_reader (D := D + 11) hy)) (fun y114 => ?_)
      refine g_aload_n (n := 2) d_L_law_520 rfl rfl ?_
      refine g_aload_n (n := 0) d_L_law_521 rfl rfl ?_
      refine g_iload_n (n := 3) d_L_law_522 rfl rfl ?_
      refine g_iconst (v := 1) d_L_law_523 (by decide) ?_
      refine g_iadd d_L_law_524 ?_
      refine g_nm (fun y115 => ?_)
      refine g_sld rfl d_L_law_525 (fun _ => ?_)
      refine g_aload_n (n := 0) d_L_law_526 rfl rfl ?_
      refine g_iload_n (n := 3) d_L_law_527 rfl rfl ?_
      refine g_iconst (v := 2) d_L_law_528 (by decide) ?_
      refine g_iadd d_L_law_529 ?_
      refine g_nm (fun y116 => ?_)
      refine g_sld rfl d_L_law_530 (fun _ => ?_)
      refine g_callv_pi (D := D + 14) (As := [.int (sc.2 y115.toNatClampNeg), .int (sc.2 y116.toNatClampNeg)]) d_L_law_531 sv_L_69 ob_77 rfl (Nat.le_of_ble_eq_true rfl) rfl (fun _ hy => EvM_cast (by omega) (e_X8_reader (D := D + 12) hy)) (fun y117 => ?_)
      refine g_icmp_eq (tgt := 1048) d_L_law_534 (by decide) (fun c118 => ?_) (fun c118 => ?_)
      · refine g_sub [0, 1, 2, 3] rfl ?_
        exact t_L_law_b1048 hk18
      · refine g_iconst (v := 0) d_L_law_537 (by decide) ?_
        exact g_iret d_L_law_538 (Or.inr ⟨rfl, rfl⟩) rfl
    refine g_if (fun c119 => ?_) (fun c119 => ?_)
    · refine g_tabIn (tgt := 539) d_L_law_33 (by rw [c119]; decide) (by rw [c119]; decide) (by rw [c119]; rfl) (by decide) ?_
      refine g_aload_n (n := 1) d_L_law_539 rfl rfl ?_
      refine g_aload_n (n := 0) d_L_law_540 rfl rfl ?_
      refine g_iload_n (n := 3) d_L_law_541 rfl rfl ?_
      refine g_iconst (v := 1) d_L_law_542 (by decide) ?_
      refine g_iadd d_L_law_543 ?_
      refine g_nm (fun y120 => ?_)
      refine g_sld rfl d_L_law_544 (fun _ => ?_)
      refine g_aload_n (n := 0) d_L_law_545 rfl rfl ?_
      refine g_iload_n (n := 3) d_L_law_546 rfl rfl ?_
      refine g_iconst (v := 2) d_L_law_547 (by decide) ?_
      refine g_iadd d_L_law_548 ?_
      refine g_nm (fun y121 => ?_)
      refine g_sld rfl d_L_law_549 (fun _ => ?_)
      refine g_callv_pi (D := D + 14) (As := [.int (sc.2 y120.toNatClampNeg), .int (sc.2 y121.toNatClampNeg)]) d_L_law_550 sv_L_70 ob_0 rfl (Nat.le_of_ble_eq_true rfl) rfl (fun _ hy => EvM_cast (by omega) (e_X7_would (D := D + 11) hy)) (fun y122 => ?_)
      refine g_aload_n (n := 2) d_L_law_553 rfl rfl ?_
      refine g_aload_n (n := 0) d_L_law_554 rfl rfl ?_
      refine g_iload_n (n := 3) d_L_law_555 rfl rfl ?_
      refine g_iconst (v := 1) d_L_law_556 (by decide) ?_
      refine g_iadd d_L_law_557 ?_
      refine g_nm (fun y123 => ?_)
      refine g_sld rfl d_L_law_558 (fun _ => ?_)
      refine g_aload_n (n := 0) d_L_law_559 rfl rfl ?_
      refine g_iload_n (n := 3) d_L_law_560 rfl rfl ?_
      refine g_iconst (v := 2) d_L_law_561 (by decide) ?_
      refine g_iadd d_L_law_562 ?_
      refine g_nm (fun y124 => ?_)
      refine g_sld rfl d_L_law_563 (fun _ => ?_)
      refine g_callv_pi (D := D + 14) (As := [.int (sc.2 y123.toNatClampNeg), .int (sc.2 y124.toNatClampNeg)]) d_L_law_564 sv_L_73 ob_77 rfl (Nat.le_of_ble_eq_true rfl) rfl (fun _ hy => EvM_cast (by omega) (e_X8_would (D := D + 12) hy)) (fun y125 => ?_)
      refine g_icmp_eq (tgt := 1048) d_L_law_567 (by decide) (fun c126 => ?_) (fun c126 => ?_)
      · refine g_sub [0, 1, 2, 3] rfl ?_
        exact t_L_law_b1048 hk18
      · refine g_iconst (v := 0) d_L_law_570 (by decide) ?_
        exact g_iret d_L_law_571 (Or.inr ⟨rfl, rfl⟩) rfl
    refine g_if (fun c127 => ?_) (fun c127 => ?_)
    · refine g_tabIn (tgt := 572) d_L_law_33 (by rw [c127]; decide) (by rw [c127]; decide) (by rw [c127]; rfl) (by decide) ?_
      refine g_aload_n (n := 1) d_L_law_572 rfl rfl ?_
      refine g_aload_n (n := 0) d_L_law_573 rfl rfl ?_
      refine g_iload_n (n := 3) d_L_law_574 rfl rfl ?_
      refine g_iconst (v := 1) d_L_law_575 (by decide) ?_
      refine g_iadd d_L_law_576 ?_
      refine g_nm (fun y128 => ?_)
      refine g_sld rfl d_L_law_577 (fun _ => ?_)
      refine g_callv_ii (D := D + 14) (As := [.int (sc.2 y128.toNatClampNeg)]) d_L_law_578 sv_L_74 ob_0 rfl (Nat.le_of_ble_eq_true rfl) rfl (fun _ hy => EvM_cast (by omega) (e_X7_best (D := D + 0) hy)) (fun y129 σ130 => ?_)
      refine g_aload_n (n := 2) d_L_law_581 rfl rfl ?_
      refine g_aload_n (n := 0) d_L_law_582 rfl rfl ?_
      refine g_iload_n (n := 3) d_L_law_583 rfl rfl ?_
      refine g_iconst (v := 1) d_L_law_584 (by decide) ?_
      refine g_iadd d_L_law_585 ?_
      refine g_nm (fun y131 => ?_)
      refine g_sld rfl d_L_law_586 (fun _ => ?_)
      refine g_callv_ii (D := D + 14) (As := [.int (sc.2 y131.toNatClampNeg)]) d_L_law_587 sv_L_77 ob_77 rfl (Nat.le_of_ble_eq_true rfl) rfl (fun _ hy => EvM_cast (by omega) (e_X8_best (D := D + 10) hy)) (fun y132 σ133 => ?_)
      refine g_icmp_eq (tgt := 1048) d_L_law_590 (by decide) (fun c134 => ?_) (fun c134 => ?_)
      · refine g_sub [0, 1, 2, 3] rfl ?_
        exact t_L_law_b1048 hk18
      · refine g_iconst (v := 0) d_L_law_593 (by decide) ?_
        exact g_iret d_L_law_594 (Or.inr ⟨rfl, rfl⟩) rfl
    refine g_if (fun c135 => ?_) (fun c135 => ?_)
    · refine g_tabIn (tgt := 595) d_L_law_33 (by rw [c135]; decide) (by rw [c135]; decide) (by rw [c135]; rfl) (by decide) ?_
      refine g_aload_n (n := 1) d_L_law_595 rfl rfl ?_
      refine g_aload_n (n := 0) d_L_law_596 rfl rfl ?_
      refine g_iload_n (n := 3) d_L_law_597 rfl rfl ?_
      refine g_iconst (v := 1) d_L_law_598 (by decide) ?_
      refine g_iadd d_L_law_599 ?_
      refine g_nm (fun y136 => ?_)
      refine g_sld rfl d_L_law_600 (fun _ => ?_)
      refine g_aload_n (n := 0) d_L_law_601 rfl rfl ?_
      refine g_iload_n (n := 3) d_L_law_602 rfl rfl ?_
      refine g_iconst (v := 2) d_L_law_603 (by decide) ?_
      refine g_iadd d_L_law_604 ?_
      refine g_nm (fun y137 => ?_)
      refine g_sld rfl d_L_law_605 (fun _ => ?_)
      refine g_callv_ii (D := D + 14) (As := [.int (sc.2 y136.toNatClampNeg), .int (sc.2 y137.toNatClampNeg)]) d_L_law_606 sv_L_78 ob_0 rfl (Nat.le_of_ble_eq_true rfl) rfl (fun _ hy => EvM_cast (by omega) (e_X7_soonest (D := D + 0) hy)) (fun y138 σ139 => ?_)
      refine g_aload_n (n := 2) d_L_law_609 rfl rfl ?_
      refine g_aload_n (n := 0) d_L_law_610 rfl rfl ?_
      refine g_iload_n (n := 3) d_L_law_611 rfl rfl ?_
      refine g_iconst (v := 1) d_L_law_612 (by decide) ?_
      refine g_iadd d_L_law_613 ?_
      refine g_nm (fun y140 => ?_)
      refine g_sld rfl d_L_law_614 (fun _ => ?_)
      refine g_aload_n (n := 0) d_L_law_615 rfl rfl ?_
      refine g_iload_n (n := 3) d_L_law_616 rfl rfl ?_
      refine g_iconst (v := 2) d_L_law_617 (by decide) ?_
      refine g_iadd d_L_law_618 ?_
      refine g_nm (fun y141 => ?_)
      refine g_sld rfl d_L_law_619 (fun _ => ?_)
      refine g_callv_ii (D := D + 14) (As := [.int (sc.2 y140.toNatClampNeg), .int (sc.2 y141.toNatClampNeg)]) d_L_law_620 sv_L_81 ob_77 rfl (Nat.le_of_ble_eq_true rfl) rfl (fun _ hy => EvM_cast (by omega) (e_X8_soonest (D := D + 10) hy)) (fun y142 σ143 => ?_)
      refine g_icmp_eq (tgt := 1048) d_L_law_623 (by decide) (fun c144 => ?_) (fun c144 => ?_)
      · refine g_sub [0, 1, 2, 3] rfl ?_
        exact t_L_law_b1048 hk18
      · refine g_iconst (v := 0) d_L_law_626 (by decide) ?_
        exact g_iret d_L_law_627 (Or.inr ⟨rfl, rfl⟩) rfl
    refine g_if (fun c145 => ?_) (fun c145 => ?_)
    · refine g_tabIn (tgt := 628) d_L_law_33 (by rw [c145]; decide) (by rw [c145]; decide) (by rw [c145]; rfl) (by decide) ?_
      refine g_aload_n (n := 1) d_L_law_628 rfl rfl ?_
      refine g_aload_n (n := 0) d_L_law_629 rfl rfl ?_
      refine g_iload_n (n := 3) d_L_law_630 rfl rfl ?_
      refine g_iconst (v := 1) d_L_law_631 (by decide) ?_
      refine g_iadd d_L_law_632 ?_
      refine g_nm (fun y146 => ?_)
      refine g_sld rfl d_L_law_633 (fun _ => ?_)
      refine g_aload_n (n := 0) d_L_law_634 rfl rfl ?_
      refine g_iload_n (n := 3) d_L_law_635 rfl rfl ?_
      refine g_iconst (v := 2) d_L_law_636 (by decide) ?_
      refine g_iadd d_L_law_637 ?_
      refine g_nm (fun y147 => ?_)
      refine g_sld rfl d_L_law_638 (fun _ => ?_)
      refine g_callv_ii (D := D + 14) (As := [.int (sc.2 y146.toNatClampNeg), .int (sc.2 y147.toNatClampNeg)]) d_L_law_639 sv_L_82 ob_0 rfl (Nat.le_of_ble_eq_true rfl) rfl (fun _ hy => EvM_cast (by omega) (e_X7_copies (D := D + 0) hy)) (fun y148 σ149 => ?_)
      refine g_aload_n (n := 2) d_L_law_642 rfl rfl ?_
      refine g_aload_n (n := 0) d_L_law_643 rfl rfl ?_
      refine g_iload_n (n := 3) d_L_law_644 rfl rfl ?_
      refine g_iconst (v := 1) d_L_law_645 (by decide) ?_
      refine g_iadd d_L_law_646 ?_
      refine g_nm (fun y150 => ?_)
      refine g_sld rfl d_L_law_647 (fun _ => ?_)
      refine g_aload_n (n := 0) d_L_law_648 rfl rfl ?_
      refine g_iload_n (n := 3) d_L_law_649 rfl rfl ?_
      refine g_iconst (v := 2) d_L_law_650 (by decide) ?_
      refine g_iadd d_L_law_651 ?_
      refine g_nm (fun y151 => ?_)
      refine g_sld rfl d_L_law_652 (fun _ => ?_)
      refine g_callv_ii (D := D + 14) (As := [.int (sc.2 y150.toNatClampNeg), .int (sc.2 y151.toNatClampNeg)]) d_L_law_653 sv_L_85 ob_77 rfl (Nat.le_of_ble_eq_true rfl) rfl (fun _ hy => EvM_cast (by omega) (e_X8_copies (D := D + 9) hy)) (fun y152 σ153 => ?_)
      refine g_icmp_eq (tgt := 1048) d_L_law_656 (by decide) (fun c154 => ?_) (fun c154 => ?_)
      · refine g_sub [0, 1, 2, 3] rfl ?_
        exact t_L_law_b1048 hk18
      · refine g_iconst (v := 0) d_L_law_659 (by decide) ?_
        exact g_iret d_L_law_660 (Or.inr ⟨rfl, rfl⟩) rfl
    refine g_if (fun c155 => ?_) (fun c155 => ?_)
    · refine g_tabIn (tgt := 661) d_L_law_33 (by rw [c155]; decide) (by rw [c155]; decide) (by rw [c155]; rfl) (by decide) ?_
      refine g_aload_n (n := 1) d_L_law_661 rfl rfl ?_
      refine g_aload_n (n := 0) d_L_law_662 rfl rfl ?_
      refine g_iload_n (n := 3) d_L_law_663 rfl rfl ?_
      refine g_iconst (v := 1) d_L_law_664 (by decide) ?_
      refine g_iadd d_L_law_665 ?_
      refine g_nm (fun y156 => ?_)
      refine g_sld rfl d_L_law_666 (fun _ => ?_)
      refine g_aload_n (n := 0) d_L_law_667 rfl rfl ?_
      refine g_iload_n (n := 3) d_L_law_668 rfl rfl ?_
      refine g_iconst (v := 2) d_L_law_669 (by decide) ?_
      refine g_iadd d_L_law_670 ?_
      refine g_nm (fun y157 => ?_)
      refine g_sld rfl d_L_law_671 (fun _ => ?_)
      refine g_aload_n (n := 0) d_L_law_672 rfl rfl ?_
      refine g_iload_n (n := 3) d_L_law_673 rfl rfl ?_
      refine g_iconst (v := 3) d_L_law_674 (by decide) ?_
      refine g_iadd d_L_law_675 ?_
      refine g_nm (fun y158 => ?_)
      refine g_sld rfl d_L_law_676 (fun _ => ?_)
      refine g_aload_n (n := 0) d_L_law_677 rfl rfl ?_
      refine g_iload_n (n := 3) d_L_law_678 rfl rfl ?_
      refine g_iconst (v := 4) d_L_law_679 (by decide) ?_
      refine g_iadd d_L_law_680 ?_
      refine g_nm (fun y159 => ?_)
      refine g_sld rfl d_L_law_681 (fun _ => ?_)
      refine g_aload_n (n := 0) d_L_law_682 rfl rfl ?_
      refine g_iload_n (n := 3) d_L_law_683 rfl rfl ?_
      refine g_iconst (v := 5) d_L_law_684 (by decide) ?_
      refine g_iadd d_L_law_685 ?_
      refine g_nm (fun y160 => ?_)
      refine g_sld rfl d_L_law_686 (fun _ => ?_)
      refine g_aload_n (n := 0) d_L_law_687 rfl rfl ?_
      refine g_iload_n (n := 3) d_L_law_688 rfl rfl ?_
      refine g_bipush (v := 6) d_L_law_689 (by decide) ?_
      refine g_iadd d_L_law_691 ?_
      refine g_nm (fun y161 => ?_)
      refine g_sld rfl d_L_law_692 (fun _ => ?_)
      refine g_callv_ii (D := D + 14) (As := [.int (sc.2 y156.toNatClampNeg), .int (sc.2 y157.toNatClampNeg), .int (sc.2 y158.toNatClampNeg), .int (sc.2 y159.toNatClampNeg), .int (sc.2 y160.toNatClampNeg), .int (sc.2 y161.toNatClampNeg)]) d_L_law_693 sv_L_86 ob_0 rfl (Nat.le_of_ble_eq_true rfl) rfl (fun _ hy => EvM_cast (by omega) (e_X7_fits (D := D + 9) hy)) (fun y162 σ163 => ?_)
      refine g_aload_n (n := 2) d_L_law_696 rfl rfl ?_
      refine g_aload_n (n := 0) d_L_law_697 rfl rfl ?_
      refine g_iload_n (n := 3) d_L_law_698 rfl rfl ?_
      refine g_iconst (v := 1) d_L_law_699 (by decide) ?_
      refine g_iadd d_L_law_700 ?_
      refine g_nm (fun y164 => ?_)
      refine g_sld rfl d_L_law_701 (fun _ => ?_)
      refine g_aload_n (n := 0) d_L_law_702 rfl rfl ?_
      refine g_iload_n (n := 3) d_L_law_703 rfl rfl ?_
      refine g_iconst (v := 2) d_L_law_704 (by decide) ?_
      refine g_iadd d_L_law_705 ?_
      refine g_nm (fun y165 => ?_)
      refine g_sld rfl d_L_law_706 (fun _ => ?_)
      refine g_aload_n (n := 0) d_L_law_707 rfl rfl ?_
      refine g_iload_n (n := 3) d_L_law_708 rfl rfl ?_
      refine g_iconst (v := 3) d_L_law_709 (by decide) ?_
      refine g_iadd d_L_law_710 ?_
      refine g_nm (fun y166 => ?_)
      refine g_sld rfl d_L_law_711 (fun _ => ?_)
      refine g_aload_n (n := 0) d_L_law_712 rfl rfl ?_
      refine g_iload_n (n := 3) d_L_law_713 rfl rfl ?_
      refine g_iconst (v := 4) d_L_law_714 (by decide) ?_
      refine g_iadd d_L_law_715 ?_
      refine g_nm (fun y167 => ?_)
      refine g_sld rfl d_L_law_716 (fun _ => ?_)
      refine g_aload_n (n := 0) d_L_law_717 rfl rfl ?_
      refine g_iload_n (n := 3) d_L_law_718 rfl rfl ?_
      refine g_iconst (v := 5) d_L_law_719 (by decide) ?_
      refine g_iadd d_L_law_720 ?_
      refine g_nm (fun y168 => ?_)
      refine g_sld rfl d_L_law_721 (fun _ => ?_)
      refine g_aload_n (n := 0) d_L_law_722 rfl rfl ?_
      refine g_iload_n (n := 3) d_L_law_723 rfl rfl ?_
      refine g_bipush (v := 6) d_L_law_724 (by decide) ?_
      refine g_iadd d_L_law_726 ?_
      refine g_nm (fun y169 => ?_)
      refine g_sld rfl d_L_law_727 (fun _ => ?_)
      refine g_callv_ii (D := D + 14) (As := [.int (sc.2 y164.toNatClampNeg), .int (sc.2 y165.toNatClampNeg), .int (sc.2 y166.toNatClampNeg), .int (sc.2 y167.toNatClampNeg), .int (sc.2 y168.toNatClampNeg), .int (sc.2 y169.toNatClampNeg)]) d_L_law_728 sv_L_90 ob_77 rfl (Nat.le_of_ble_eq_true rfl) rfl (fun _ hy => EvM_cast (by omega) (e_X8_fits (D := D + 9) hy)) (fun y170 σ171 => ?_)
      refine g_icmp_eq (tgt := 1048) d_L_law_731 (by decide) (fun c172 => ?_) (fun c172 => ?_)
      · refine g_sub [0, 1, 2, 3] rfl ?_
        exact t_L_law_b1048 hk18
      · refine g_iconst (v := 0) d_L_law_734 (by decide) ?_
        exact g_iret d_L_law_735 (Or.inr ⟨rfl, rfl⟩) rfl
    refine g_if (fun c173 => ?_) (fun c173 => ?_)
    · refine g_tabIn (tgt := 736) d_L_law_33 (by rw [c173]; decide) (by rw [c173]; decide) (by rw [c173]; rfl) (by decide) ?_
      refine g_aload_n (n := 1) d_L_law_736 rfl rfl ?_
      refine g_aload_n (n := 0) d_L_law_737 rfl rfl ?_
      refine g_iload_n (n := 3) d_L_law_738 rfl rfl ?_
      refine g_iconst (v := 1) d_L_law_739 (by decide) ?_
      refine g_iadd d_L_law_740 ?_
      refine g_nm (fun y174 => ?_)
      refine g_sld rfl d_L_law_741 (fun _ => ?_)
      refine g_aload_n (n := 0) d_L_law_742 rfl rfl ?_
      refine g_iload_n (n := 3) d_L_law_743 rfl rfl ?_
      refine g_iconst (v := 2) d_L_law_744 (by decide) ?_
      refine g_iadd d_L_law_745 ?_
      refine g_nm (fun y175 => ?_)
      refine g_sld rfl d_L_law_746 (fun _ => ?_)
      refine g_aload_n (n := 0) d_L_law_747 rfl rfl ?_
      refine g_iload_n (n := 3) d_L_law_748 rfl rfl ?_
      refine g_iconst (v := 3) d_L_law_749 (by decide) ?_
      refine g_iadd d_L_law_750 ?_
      refine g_nm (fun y176 => ?_)
      refine g_sld rfl d_L_law_751 (fun _ => ?_)
      refine g_aload_n (n := 0) d_L_law_752 rfl rfl ?_
      refine g_iload_n (n := 3) d_L_law_753 rfl rfl ?_
      refine g_iconst (v := 4) d_L_law_754 (by decide) ?_
      refine g_iadd d_L_law_755 ?_
      refine g_nm (fun y177 => ?_)
      refine g_sld rfl d_L_law_756 (fun _ => ?_)
      refine g_aload_n (n := 0) d_L_law_757 rfl rfl ?_
      refine g_iload_n (n := 3) d_L_law_758 rfl rfl ?_
      refine g_iconst (v := 5) d_L_law_759 (by decide) ?_
      refine g_iadd d_L_law_760 ?_
      refine g_nm (fun y178 => ?_)
      refine g_sld rfl d_L_law_761 (fun _ => ?_)
      refine g_aload_n (n := 0) d_L_law_762 rfl rfl ?_
      refine g_iload_n (n := 3) d_L_law_763 rfl rfl ?_
      refine g_bipush (v := 6) d_L_law_764 (by decide) ?_
      refine g_iadd d_L_law_766 ?_
      refine g_nm (fun y179 => ?_)
      refine g_sld rfl d_L_law_767 (fun _ => ?_)
      refine g_callv_ii (D := D + 14) (As := [.int (sc.2 y174.toNatClampNeg), .int (sc.2 y175.toNatClampNeg), .int (sc.2 y176.toNatClampNeg), .int (sc.2 y177.toNatClampNeg), .int (sc.2 y178.toNatClampNeg), .int (sc.2 y179.toNatClampNeg)]) d_L_law_768 sv_L_91 ob_0 rfl (Nat.le_of_ble_eq_true rfl) rfl (fun _ hy => EvM_cast (by omega) (e_X7_lost (D := D + 9) hy)) (fun y180 σ181 => ?_)
      refine g_aload_n (n := 2) d_L_law_771 rfl rfl ?_
      refine g_aload_n (n := 0) d_L_law_772 rfl rfl ?_
      refine g_iload_n (n := 3) d_L_law_773 rfl rfl ?_
      refine g_iconst (v := 1) d_L_law_774 (by decide) ?_
      refine g_iadd d_L_law_775 ?_
      refine g_nm (fun y182 => ?_)
      refine g_sld rfl d_L_law_776 (fun _ => ?_)
      refine g_aload_n (n := 0) d_L_law_777 rfl rfl ?_
      refine g_iload_n (n := 3) d_L_law_778 rfl rfl ?_
      refine g_iconst (v := 2) d_L_law_779 (by decide) ?_
      refine g_iadd d_L_law_780 ?_
      refine g_nm (fun y183 => ?_)
      refine g_sld rfl d_L_law_781 (fun _ => ?_)
      refine g_aload_n (n := 0) d_L_law_782 rfl rfl ?_
      refine g_iload_n (n := 3) d_L_law_783 rfl rfl ?_
      refine g_iconst (v := 3) d_L_law_784 (by decide) ?_
      refine g_iadd d_L_law_785 ?_
      refine g_nm (fun y184 => ?_)
      refine g_sld rfl d_L_law_786 (fun _ => ?_)
      refine g_aload_n (n := 0) d_L_law_787 rfl rfl ?_
      refine g_iload_n (n := 3) d_L_law_788 rfl rfl ?_
      refine g_iconst (v := 4) d_L_law_789 (by decide) ?_
      refine g_iadd d_L_law_790 ?_
      refine g_nm (fun y185 => ?_)
      refine g_sld rfl d_L_law_791 (fun _ => ?_)
      refine g_aload_n (n := 0) d_L_law_792 rfl rfl ?_
      refine g_iload_n (n := 3) d_L_law_793 rfl rfl ?_
      refine g_iconst (v := 5) d_L_law_794 (by decide) ?_
      refine g_iadd d_L_law_795 ?_
      refine g_nm (fun y186 => ?_)
      refine g_sld rfl d_L_law_796 (fun _ => ?_)
      refine g_aload_n (n := 0) d_L_law_797 rfl rfl ?_
      refine g_iload_n (n := 3) d_L_law_798 rfl rfl ?_
      refine g_bipush (v := 6) d_L_law_799 (by decide) ?_
      refine g_iadd d_L_law_801 ?_
      refine g_nm (fun y187 => ?_)
      refine g_sld rfl d_L_law_802 (fun _ => ?_)
      refine g_callv_ii (D := D + 14) (As := [.int (sc.2 y182.toNatClampNeg), .int (sc.2 y183.toNatClampNeg), .int (sc.2 y184.toNatClampNeg), .int (sc.2 y185.toNatClampNeg), .int (sc.2 y186.toNatClampNeg), .int (sc.2 y187.toNatClampNeg)]) d_L_law_803 sv_L_94 ob_77 rfl (Nat.le_of_ble_eq_true rfl) rfl (fun _ hy => EvM_cast (by omega) (e_X8_lost (D := D + 10) hy)) (fun y188 σ189 => ?_)
      refine g_icmp_eq (tgt := 1048) d_L_law_806 (by decide) (fun c190 => ?_) (fun c190 => ?_)
      · refine g_sub [0, 1, 2, 3] rfl ?_
        exact t_L_law_b1048 hk18
      · refine g_iconst (v := 0) d_L_law_809 (by decide) ?_
        exact g_iret d_L_law_810 (Or.inr ⟨rfl, rfl⟩) rfl
    refine g_if (fun c191 => ?_) (fun c191 => ?_)
    · refine g_tabIn (tgt := 811) d_L_law_33 (by rw [c191]; decide) (by rw [c191]; decide) (by rw [c191]; rfl) (by decide) ?_
      refine g_aload_n (n := 1) d_L_law_811 rfl rfl ?_
      refine g_aload_n (n := 0) d_L_law_812 rfl rfl ?_
      refine g_iload_n (n := 3) d_L_law_813 rfl rfl ?_
      refine g_iconst (v := 1) d_L_law_814 (by decide) ?_
      refine g_iadd d_L_law_815 ?_
      refine g_nm (fun y192 => ?_)
      refine g_sld rfl d_L_law_816 (fun _ => ?_)
      refine g_aload_n (n := 0) d_L_law_817 rfl rfl ?_
      refine g_iload_n (n := 3) d_L_law_818 rfl rfl ?_
      refine g_iconst (v := 2) d_L_law_819 (by decide) ?_
      refine g_iadd d_L_law_820 ?_
      refine g_nm (fun y193 => ?_)
      refine g_sld rfl d_L_law_821 (fun _ => ?_)
      refine g_aload_n (n := 0) d_L_law_822 rfl rfl ?_
      refine g_iload_n (n := 3) d_L_law_823 rfl rfl ?_
      refine g_iconst (v := 3) d_L_law_824 (by decide) ?_
      refine g_iadd d_L_law_825 ?_
      refine g_nm (fun y194 => ?_)
      refine g_sld rfl d_L_law_826 (fun _ => ?_)
      refine g_callv_ii (D := D + 14) (As := [.int (sc.2 y192.toNatClampNeg), .int (sc.2 y193.toNatClampNeg), .int (sc.2 y194.toNatClampNeg)]) d_L_law_827 sv_L_95 ob_0 rfl (Nat.le_of_ble_eq_true rfl) rfl (fun _ hy => EvM_cast (by omega) (e_X7_drawn (D := D + 10) hy)) (fun y195 σ196 => ?_)
      refine g_aload_n (n := 2) d_L_law_830 rfl rfl ?_
      refine g_aload_n (n := 0) d_L_law_831 rfl rfl ?_
      refine g_iload_n (n := 3) d_L_law_832 rfl rfl ?_
      refine g_iconst (v := 1) d_L_law_833 (by decide) ?_
      refine g_iadd d_L_law_834 ?_
      refine g_nm (fun y197 => ?_)
      refine g_sld rfl d_L_law_835 (fun _ => ?_)
      refine g_aload_n (n := 0) d_L_law_836 rfl rfl ?_
      refine g_iload_n (n := 3) d_L_law_837 rfl rfl ?_
      refine g_iconst (v := 2) d_L_law_838 (by decide) ?_
      refine g_iadd d_L_law_839 ?_
      refine g_nm (fun y198 => ?_)
      refine g_sld rfl d_L_law_840 (fun _ => ?_)
      refine g_aload_n (n := 0) d_L_law_841 rfl rfl ?_
      refine g_iload_n (n := 3) d_L_law_842 rfl rfl ?_
      refine g_iconst (v := 3) d_L_law_843 (by decide) ?_
      refine g_iadd d_L_law_844 ?_
      refine g_nm (fun y199 => ?_)
      refine g_sld rfl d_L_law_845 (fun _ => ?_)
      refine g_callv_ii (D := D + 14) (As := [.int (sc.2 y197.toNatClampNeg), .int (sc.2 y198.toNatClampNeg), .int (sc.2 y199.toNatClampNeg)]) d_L_law_846 sv_L_98 ob_77 rfl (Nat.le_of_ble_eq_true rfl) rfl (fun _ hy => EvM_cast (by omega) (e_X8_drawn (D := D + 11) hy)) (fun y200 σ201 => ?_)
      refine g_icmp_eq (tgt := 1048) d_L_law_849 (by decide) (fun c202 => ?_) (fun c202 => ?_)
      · refine g_sub [0, 1, 2, 3] rfl ?_
        exact t_L_law_b1048 hk18
      · refine g_iconst (v := 0) d_L_law_852 (by decide) ?_
        exact g_iret d_L_law_853 (Or.inr ⟨rfl, rfl⟩) rfl
    refine g_if (fun c203 => ?_) (fun c203 => ?_)
    · refine g_tabIn (tgt := 854) d_L_law_33 (by rw [c203]; decide) (by rw [c203]; decide) (by rw [c203]; rfl) (by decide) ?_
      refine g_aload_n (n := 1) d_L_law_854 rfl rfl ?_
      refine g_aload_n (n := 0) d_L_law_855 rfl rfl ?_
      refine g_iload_n (n := 3) d_L_law_856 rfl rfl ?_
      refine g_iconst (v := 1) d_L_law_857 (by decide) ?_
      refine g_iadd d_L_law_858 ?_
      refine g_nm (fun y204 => ?_)
      refine g_sld rfl d_L_law_859 (fun _ => ?_)
      refine g_callv_ii (D := D + 14) (As := [.int (sc.2 y204.toNatClampNeg)]) d_L_law_860 sv_L_99 ob_0 rfl (Nat.le_of_ble_eq_true rfl) rfl (fun _ hy => EvM_cast (by omega) (e_X7_image (D := D + 12) hy)) (fun y205 σ206 => ?_)
      refine g_aload_n (n := 2) d_L_law_863 rfl rfl ?_
      refine g_aload_n (n := 0) d_L_law_864 rfl rfl ?_
      refine g_iload_n (n := 3) d_L_law_865 rfl rfl ?_
      refine g_iconst (v := 1) d_L_law_866 (by decide) ?_
      refine g_iadd d_L_law_867 ?_
      refine g_nm (fun y207 => ?_)
      refine g_sld rfl d_L_law_868 (fun _ => ?_)
      refine g_callv_ii (D := D + 14) (As := [.int (sc.2 y207.toNatClampNeg)]) d_L_law_869 sv_L_102 ob_77 rfl (Nat.le_of_ble_eq_true rfl) rfl (fun _ hy => EvM_cast (by omega) (e_X8_image (D := D + 13) hy)) (fun y208 σ209 => ?_)
      refine g_icmp_eq (tgt := 1048) d_L_law_872 (by decide) (fun c210 => ?_) (fun c210 => ?_)
      · refine g_sub [0, 1, 2, 3] rfl ?_
        exact t_L_law_b1048 hk18
      · refine g_iconst (v := 0) d_L_law_875 (by decide) ?_
        exact g_iret d_L_law_876 (Or.inr ⟨rfl, rfl⟩) rfl
    refine g_if (fun c211 => ?_) (fun c211 => ?_)
    · refine g_tabIn (tgt := 877) d_L_law_33 (by rw [c211]; decide) (by rw [c211]; decide) (by rw [c211]; rfl) (by decide) ?_
      refine g_aload_n (n := 1) d_L_law_877 rfl rfl ?_
      refine g_aload_n (n := 0) d_L_law_878 rfl rfl ?_
      refine g_iload_n (n := 3) d_L_law_879 rfl rfl ?_
      refine g_iconst (v := 1) d_L_law_880 (by decide) ?_
      refine g_iadd d_L_law_881 ?_
      refine g_nm (fun y212 => ?_)
      refine g_sld rfl d_L_law_882 (fun _ => ?_)
      refine g_callv_ii (D := D + 14) (As := [.int (sc.2 y212.toNatClampNeg)]) d_L_law_883 sv_L_103 ob_0 rfl (Nat.le_of_ble_eq_true rfl) rfl (fun _ hy => EvM_cast (by omega) (e_X7_restore (D := D + 12) hy)) (fun y213 σ214 => ?_)
      refine g_aload_n (n := 2) d_L_law_886 rfl rfl ?_
      refine g_aload_n (n := 0) d_L_law_887 rfl rfl ?_
      refine g_iload_n (n := 3) d_L_law_888 rfl rfl ?_
      refine g_iconst (v := 1) d_L_law_889 (by decide) ?_
      refine g_iadd d_L_law_890 ?_
      refine g_nm (fun y215 => ?_)
      refine g_sld rfl d_L_law_891 (fun _ => ?_)
      refine g_callv_ii (D := D + 14) (As := [.int (sc.2 y215.toNatClampNeg)]) d_L_law_892 sv_L_106 ob_77 rfl (Nat.le_of_ble_eq_true rfl) rfl (fun _ hy => EvM_cast (by omega) (e_X8_restore (D := D + 13) hy)) (fun y216 σ217 => ?_)
      refine g_icmp_eq (tgt := 1048) d_L_law_895 (by decide) (fun c218 => ?_) (fun c218 => ?_)
      · refine g_sub [0, 1, 2, 3] rfl ?_
        exact t_L_law_b1048 hk18
      · refine g_iconst (v := 0) d_L_law_898 (by decide) ?_
        exact g_iret d_L_law_899 (Or.inr ⟨rfl, rfl⟩) rfl
    refine g_if (fun c219 => ?_) (fun c219 => ?_)
    · refine g_tabIn (tgt := 900) d_L_law_33 (by rw [c219]; decide) (by rw [c219]; decide) (by rw [c219]; rfl) (by decide) ?_
      refine g_aload_n (n := 1) d_L_law_900 rfl rfl ?_
      refine g_aload_n (n := 0) d_L_law_901 rfl rfl ?_
      refine g_iload_n (n := 3) d_L_law_902 rfl rfl ?_
      refine g_iconst (v := 1) d_L_law_903 (by decide) ?_
      refine g_iadd d_L_law_904 ?_
      refine g_nm (fun y220 => ?_)
      refine g_sld rfl d_L_law_905 (fun _ => ?_)
      refine g_callv_pi (D := D + 14) (As := [.int (sc.2 y220.toNatClampNeg)]) d_L_law_906 sv_L_107 ob_0 rfl (Nat.le_of_ble_eq_true rfl) rfl (fun _ hy => EvM_cast (by omega) (e_X7_kind (D := D + 13) hy)) (fun y221 => ?_)
      refine g_aload_n (n := 2) d_L_law_909 rfl rfl ?_
      refine g_aload_n (n := 0) d_L_law_910 rfl rfl ?_
      refine g_iload_n (n := 3) d_L_law_911 rfl rfl ?_
      refine g_iconst (v := 1) d_L_law_912 (by decide) ?_
      refine g_iadd d_L_law_913 ?_
      refine g_nm (fun y222 => ?_)
      refine g_sld rfl d_L_law_914 (fun _ => ?_)
      refine g_callv_pi (D := D + 14) (As := [.int (sc.2 y222.toNatClampNeg)]) d_L_law_915 sv_L_110 ob_77 rfl (Nat.le_of_ble_eq_true rfl) rfl (fun _ hy => EvM_cast (by omega) (e_X8_kind (D := D + 12) hy)) (fun y223 => ?_)
      refine g_icmp_eq (tgt := 1048) d_L_law_918 (by decide) (fun c224 => ?_) (fun c224 => ?_)
      · refine g_sub [0, 1, 2, 3] rfl ?_
        exact t_L_law_b1048 hk18
      · refine g_iconst (v := 0) d_L_law_921 (by decide) ?_
        exact g_iret d_L_law_922 (Or.inr ⟨rfl, rfl⟩) rfl
    refine g_if (fun c225 => ?_) (fun c225 => ?_)
    · refine g_tabIn (tgt := 923) d_L_law_33 (by rw [c225]; decide) (by rw [c225]; decide) (by rw [c225]; rfl) (by decide) ?_
      refine g_aload_n (n := 1) d_L_law_923 rfl rfl ?_
      refine g_aload_n (n := 0) d_L_law_924 rfl rfl ?_
      refine g_iload_n (n := 3) d_L_law_925 rfl rfl ?_
      refine g_iconst (v := 1) d_L_law_926 (by decide) ?_
      refine g_iadd d_L_law_927 ?_
      refine g_nm (fun y226 => ?_)
      refine g_sld rfl d_L_law_928 (fun _ => ?_)
      refine g_aload_n (n := 0) d_L_law_929 rfl rfl ?_
      refine g_iload_n (n := 3) d_L_law_930 rfl rfl ?_
      refine g_iconst (v := 2) d_L_law_931 (by decide) ?_
      refine g_iadd d_L_law_932 ?_
      refine g_nm (fun y227 => ?_)
      refine g_sld rfl d_L_law_933 (fun _ => ?_)
      refine g_callv_ii (D := D + 14) (As := [.int (sc.2 y226.toNatClampNeg), .int (sc.2 y227.toNatClampNeg)]) d_L_law_934 sv_L_111 ob_0 rfl (Nat.le_of_ble_eq_true rfl) rfl (fun _ hy => EvM_cast (by omega) (e_X7_as (D := D + 13) hy)) (fun y228 σ229 => ?_)
      refine g_aload_n (n := 2) d_L_law_937 rfl rfl ?_
      refine g_aload_n (n := 0) d_L_law_938 rfl rfl ?_
      refine g_iload_n (n := 3) d_L_law_939 rfl rfl ?_
      refine g_iconst (v := 1) d_L_law_940 (by decide) ?_
      refine g_iadd d_L_law_941 ?_
      refine g_nm (fun y230 => ?_)
      refine g_sld rfl d_L_law_942 (fun _ => ?_)
      refine g_aload_n (n := 0) d_L_law_943 rfl rfl ?_
      refine g_iload_n (n := 3) d_L_law_944 rfl rfl ?_
      refine g_iconst (v := 2) d_L_law_945 (by decide) ?_
      refine g_iadd d_L_law_946 ?_
      refine g_nm (fun y231 => ?_)
      refine g_sld rfl d_L_law_947 (fun _ => ?_)
      refine g_callv_ii (D := D + 14) (As := [.int (sc.2 y230.toNatClampNeg), .int (sc.2 y231.toNatClampNeg)]) d_L_law_948 sv_L_114 ob_77 rfl (Nat.le_of_ble_eq_true rfl) rfl (fun _ hy => EvM_cast (by omega) (e_X8_as (D := D + 12) hy)) (fun y232 σ233 => ?_)
      refine g_icmp_eq (tgt := 1048) d_L_law_951 (by decide) (fun c234 => ?_) (fun c234 => ?_)
      · refine g_sub [0, 1, 2, 3] rfl ?_
        exact t_L_law_b1048 hk18
      · refine g_iconst (v := 0) d_L_law_954 (by decide) ?_
        exact g_iret d_L_law_955 (Or.inr ⟨rfl, rfl⟩) rfl
    refine g_if (fun c235 => ?_) (fun c235 => ?_)
    · refine g_tabIn (tgt := 956) d_L_law_33 (by rw [c235]; decide) (by rw [c235]; decide) (by rw [c235]; rfl) (by decide) ?_
      refine g_aload_n (n := 1) d_L_law_956 rfl rfl ?_
      refine g_aload_n (n := 0) d_L_law_957 rfl rfl ?_
      refine g_iload_n (n := 3) d_L_law_958 rfl rfl ?_
      refine g_iconst (v := 1) d_L_law_959 (by decide) ?_
      refine g_iadd d_L_law_960 ?_
      refine g_nm (fun y236 => ?_)
      refine g_sld rfl d_L_law_961 (fun _ => ?_)
      refine g_aload_n (n := 0) d_L_law_962 rfl rfl ?_
      refine g_iload_n (n := 3) d_L_law_963 rfl rfl ?_
      refine g_iconst (v := 2) d_L_law_964 (by decide) ?_
      refine g_iadd d_L_law_965 ?_
      refine g_nm (fun y237 => ?_)
      refine g_sld rfl d_L_law_966 (fun _ => ?_)
      refine g_callv_ii (D := D + 14) (As := [.int (sc.2 y236.toNatClampNeg), .int (sc.2 y237.toNatClampNeg)]) d_L_law_967 sv_L_115 ob_0 rfl (Nat.le_of_ble_eq_true rfl) rfl (fun _ hy => EvM_cast (by omega) (e_X7_ask (D := D + 7) hy)) (fun y238 σ239 => ?_)
      refine g_aload_n (n := 2) d_L_law_970 rfl rfl ?_
      refine g_aload_n (n := 0) d_L_law_971 rfl rfl ?_
      refine g_iload_n (n := 3) d_L_law_972 rfl rfl ?_
      refine g_iconst (v := 1) d_L_law_973 (by decide) ?_
      refine g_iadd d_L_law_974 ?_
      refine g_nm (fun y240 => ?_)
      refine g_sld rfl d_L_law_975 (fun _ => ?_)
      refine g_aload_n (n := 0) d_L_law_976 rfl rfl ?_
      refine g_iload_n (n := 3) d_L_law_977 rfl rfl ?_
      refine g_iconst (v := 2) d_L_law_978 (by decide) ?_
      refine g_iadd d_L_law_979 ?_
      refine g_nm (fun y241 => ?_)
      refine g_sld rfl d_L_law_980 (fun _ => ?_)
      refine g_callv_ii (D := D + 14) (As := [.int (sc.2 y240.toNatClampNeg), .int (sc.2 y241.toNatClampNeg)]) d_L_law_981 sv_L_118 ob_77 rfl (Nat.le_of_ble_eq_true rfl) rfl (fun _ hy => EvM_cast (by omega) (e_X8_ask (D := D + 9) hy)) (fun y242 σ243 => ?_)
      refine g_icmp_eq (tgt := 1048) d_L_law_984 (by decide) (fun c244 => ?_) (fun c244 => ?_)
      · refine g_sub [0, 1, 2, 3] rfl ?_
        exact t_L_law_b1048 hk18
      · refine g_iconst (v := 0) d_L_law_987 (by decide) ?_
        exact g_iret d_L_law_988 (Or.inr ⟨rfl, rfl⟩) rfl
    refine g_if (fun c245 => ?_) (fun c245 => ?_)
    · refine g_tabIn (tgt := 989) d_L_law_33 (by rw [c245]; decide) (by rw [c245]; decide) (by rw [c245]; rfl) (by decide) ?_
      refine g_aload_n (n := 1) d_L_law_989 rfl rfl ?_
      refine g_aload_n (n := 0) d_L_law_990 rfl rfl ?_
      refine g_iload_n (n := 3) d_L_law_991 rfl rfl ?_
      refine g_iconst (v := 1) d_L_law_992 (by decide) ?_
      refine g_iadd d_L_law_993 ?_
      refine g_nm (fun y246 => ?_)
      refine g_sld rfl d_L_law_994 (fun _ => ?_)
      refine g_callv_pi (D := D + 14) (As := [.int (sc.2 y246.toNatClampNeg)]) d_L_law_995 sv_L_119 ob_0 rfl (Nat.le_of_ble_eq_true rfl) rfl (fun _ hy => EvM_cast (by omega) (e_X7_trace (D := D + 14) hy)) (fun y247 => ?_)
      refine g_aload_n (n := 2) d_L_law_998 rfl rfl ?_
      refine g_aload_n (n := 0) d_L_law_999 rfl rfl ?_
      refine g_iload_n (n := 3) d_L_law_1000 rfl rfl ?_
      refine g_iconst (v := 1) d_L_law_1001 (by decide) ?_
      refine g_iadd d_L_law_1002 ?_
      refine g_nm (fun y248 => ?_)
      refine g_sld rfl d_L_law_1003 (fun _ => ?_)
      refine g_callv_pi (D := D + 14) (As := [.int (sc.2 y248.toNatClampNeg)]) d_L_law_1004 sv_L_122 ob_77 rfl (Nat.le_of_ble_eq_true rfl) rfl (fun _ hy => EvM_cast (by omega) (e_X8_trace (D := D + 13) hy)) (fun y249 => ?_)
      refine g_icmp_eq (tgt := 1048) d_L_law_1007 (by decide) (fun c250 => ?_) (fun c250 => ?_)
      · refine g_sub [0, 1, 2, 3] rfl ?_
        exact t_L_law_b1048 hk18
      · refine g_iconst (v := 0) d_L_law_1010 (by decide) ?_
        exact g_iret d_L_law_1011 (Or.inr ⟨rfl, rfl⟩) rfl
    refine g_if (fun c251 => ?_) (fun c251 => ?_)
    · refine g_tabIn (tgt := 1012) d_L_law_33 (by rw [c251]; decide) (by rw [c251]; decide) (by rw [c251]; rfl) (by decide) ?_
      refine g_aload_n (n := 1) d_L_law_1012 rfl rfl ?_
      refine g_aload_n (n := 0) d_L_law_1013 rfl rfl ?_
      refine g_iload_n (n := 3) d_L_law_1014 rfl rfl ?_
      refine g_iconst (v := 1) d_L_law_1015 (by decide) ?_
      refine g_iadd d_L_law_1016 ?_
      refine g_nm (fun y252 => ?_)
      refine g_sld rfl d_L_law_1017 (fun _ => ?_)
      refine g_callv_pi (D := D + 14) (As := [.int (sc.2 y252.toNatClampNeg)]) d_L_law_1018 sv_L_123 ob_0 rfl (Nat.le_of_ble_eq_true rfl) rfl (fun _ hy => EvM_cast (by omega) (e_X7_count (D := D + 12) hy)) (fun y253 => ?_)
      refine g_aload_n (n := 2) d_L_law_1021 rfl rfl ?_
      refine g_aload_n (n := 0) d_L_law_1022 rfl rfl ?_
      refine g_iload_n (n := 3) d_L_law_1023 rfl rfl ?_
      refine g_iconst (v := 1) d_L_law_1024 (by decide) ?_
      refine g_iadd d_L_law_1025 ?_
      refine g_nm (fun y254 => ?_)
      refine g_sld rfl d_L_law_1026 (fun _ => ?_)
      refine g_callv_pi (D := D + 14) (As := [.int (sc.2 y254.toNatClampNeg)]) d_L_law_1027 sv_L_126 ob_77 rfl (Nat.le_of_ble_eq_true rfl) rfl (fun _ hy => EvM_cast (by omega) (e_X8_count (D := D + 14) hy)) (fun y255 => ?_)
      refine g_icmp_eq (tgt := 1048) d_L_law_1030 (by decide) (fun c256 => ?_) (fun c256 => ?_)
      · refine g_sub [0, 1, 2, 3] rfl ?_
        exact t_L_law_b1048 hk18
      · refine g_iconst (v := 0) d_L_law_1033 (by decide) ?_
        exact g_iret d_L_law_1034 (Or.inr ⟨rfl, rfl⟩) rfl
    refine g_if (fun c257 => ?_) (fun c257 => ?_)
    · refine g_tabIn (tgt := 1035) d_L_law_33 (by rw [c257]; decide) (by rw [c257]; decide) (by rw [c257]; rfl) (by decide) ?_
      refine g_aload_n (n := 1) d_L_law_1035 rfl rfl ?_
      refine g_callv_pi (D := D + 14) (As := []) d_L_law_1036 sv_L_127 ob_0 rfl (Nat.le_of_ble_eq_true rfl) rfl (fun _ hy => EvM_cast (by omega) (e_X7_status (D := D + 14) hy)) (fun y258 => ?_)
      refine g_aload_n (n := 2) d_L_law_1039 rfl rfl ?_
      refine g_callv_pi (D := D + 14) (As := []) d_L_law_1040 sv_L_130 ob_77 rfl (Nat.le_of_ble_eq_true rfl) rfl (fun _ hy => EvM_cast (by omega) (e_X8_status (D := D + 14) hy)) (fun y259 => ?_)
      refine g_icmp_eq (tgt := 1048) d_L_law_1043 (by decide) (fun c260 => ?_) (fun c260 => ?_)
      · refine g_sub [0, 1, 2, 3] rfl ?_
        exact t_L_law_b1048 hk18
      · refine g_iconst (v := 0) d_L_law_1046 (by decide) ?_
        exact g_iret d_L_law_1047 (Or.inr ⟨rfl, rfl⟩) rfl
    refine g_tabOut (tgt := 1048) d_L_law_33 (by have := lv_neT (a := 0) c3 rfl; have := lv_neT (a := 1) c15 rfl; have := lv_neT (a := 2) c27 rfl; have := lv_neT (a := 3) c43 rfl; have := lv_neT (a := 4) c51 rfl; have := lv_neT (a := 5) c59 rfl; have := lv_neT (a := 6) c65 rfl; have := lv_neT (a := 7) c69 rfl; have := lv_neT (a := 8) c77 rfl; have := lv_neT (a := 9) c85 rfl; have := lv_neT (a := 10) c95 rfl; have := lv_neT (a := 11) c105 rfl; have := lv_neT (a := 12) c111 rfl; have := lv_neT (a := 13) c119 rfl; have := lv_neT (a := 14) c127 rfl; have := lv_neT (a := 15) c135 rfl; have := lv_neT (a := 16) c145 rfl; have := lv_neT (a := 17) c155 rfl; have := lv_neT (a := 18) c173 rfl; have := lv_neT (a := 19) c191 rfl; have := lv_neT (a := 20) c203 rfl; have := lv_neT (a := 21) c211 rfl; have := lv_neT (a := 22) c219 rfl; have := lv_neT (a := 23) c225 rfl; have := lv_neT (a := 24) c235 rfl; have := lv_neT (a := 25) c245 rfl; have := lv_neT (a := 26) c251 rfl; have := lv_neT (a := 27) c257 rfl; omega) (by decide) ?_
    refine g_sub [0, 1, 2, 3] rfl ?_
    exact t_L_law_b1048 hk18
set_option maxHeartbeats 4000000 in
set_option maxRecDepth 100000 in
theorem t_L_law_l18 {l : Launch} {D : Nat} {n : Nat} {sc : Nat × (Nat → Int32)} : ∀ (f : Nat) (x3 : Int32) (σ : Mem), G l sc (D + 15) m_L_law 18 [(0, .ref idScr), (1, .ref 0), (2, .ref 77), (3, .int x3)] [] σ (f_L_law_l18 n sc f x3 σ) (fun y => (some (.int y.1), y.2)) := by
  intro f
  induction f with
  | zero => intro x3 σ; exact g_none
  | succ f ih => intro x3 σ; exact t_L_law_b18 ih
