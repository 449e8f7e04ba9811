set_option maxRecDepth 20000 in
/-- the law's loop: at every seventh place of the script -/
theorem law_loop {z : gx_X} {d : gx_D} {w1 w2 : gx_V} {ca : Nat → ClassId} {k1 k2 b L : Nat} {xs : Nat → Int32} {R : gx_M → gx_M → Prop} {below : List Frame} (hC : LC z d w1 w2 k1 k2 b L xs) (h1 : gx_isC ca w1) (h2 : gx_isR ca w2) (hL : L ≤ 3584) (hs : st_all R) {Z : State → Prop}
    (hend : ∀ (M N : gx_M) (lv : List (Nat × Value)), LW z w1 w2 k1 k2 Z M N 1108 lv []) : ∀ (n i : Nat) (M N : gx_M), L < 7 * (i + n) → 7 * i ≤ L → R M N → LW z w1 w2 k1 k2 Z M N 18 [(0, .ref b), (1, .ref (gx_ad w1 0)), (2, .ref (gx_ad w2 0)), (3, .int (nI (7 * i)))] [] := by
  intro n
  induction n with
  | zero => intro i M N hn hi; omega
  | succ n ih =>
    intro i M N hn hi hR
    have hc1 : ∀ M : gx_M, gx_rc w1 M 0 RX10 := fun M => ⟨h1.lt (by decide), _, _, _, _, gc_0 h1 _, cl_X10.1⟩
    have hc2 : ∀ M : gx_M, gx_rc w2 M 0 RX11 := fun M => ⟨h2.lt (by decide), _, _, _, _, gd_0 h2 _, cl_X11.1⟩
    refine lw_iload_n hC dL_law_18 rfl 3 rfl ?_
    refine lw_aload_n hC dL_law_19 rfl 0 rfl ?_
    refine lw_slen hC (v := nI L) rfl dL_law_20 ?_
    refine lw_bipush (v := 7) hC dL_law_21 (by decide) ?_
    refine lw_isub hC dL_law_23 ?_
    refine lw_icmp_gt (tgt := 1108) hC dL_law_24 (by decide) (fun hc => hend _ _ _) (fun hc => ?_)
    have hle : 7 * i + 7 ≤ L := by
      rcases Nat.lt_or_ge L (7 * i + 7) with q | q
      · exact absurd (by
          rw [Int32.lt_iff_toInt_lt, nI_toInt (by omega), show nI L - 7 = nI L - nI 7 from rfl, pk_sub_toInt (by omega) (by omega)]
          omega) hc
      · exact q
    refine lw_aload_n hC dL_law_27 rfl 0 rfl ?_
    refine lw_iload_n hC dL_law_28 rfl 3 rfl ?_
    refine lw_sld hC (vp_in_nI (by omega) (by omega)) dL_law_29 ?_
    refine lw_bipush (v := 31) hC dL_law_30 (by decide) ?_
    refine lw_iand hC dL_law_32 ?_
    refine lw_nm (fun o ho => ?_)
    have go : ∀ M N : gx_M, R M N → LW z w1 w2 k1 k2 Z M N 1102 [(0, .ref b), (1, .ref (gx_ad w1 0)), (2, .ref (gx_ad w2 0)), (3, .int (nI (7 * i)))] [] := fun M N hR => by
      refine lw_iinc (v := nI (7 * (i + 1))) (lv' := [(3, .int (nI (7 * (i + 1)))), (0, .ref b), (1, .ref (gx_ad w1 0)), (2, .ref (gx_ad w2 0))]) hC dL_law_1102 (k := 3) rfl (by rw [show (Int32.ofInt 7) = nI 7 from rfl, nI_add, Nat.mul_add]) (by decide) rfl ?_
      refine lw_goto (tgt := 18) hC dL_law_1105 (by decide) ?_
      refine lw_sub [1, 2, 3, 0] rfl ?_
      exact ih (i + 1) M N (by omega) (by omega) hR
    have ld : ∀ k : Nat, k < 7 → vp_in (nI (7 * i) + nI k) L := fun k hk => by rw [nI_add]; exact vp_in_nI (by omega) (by omega)
    by_cases h0s : o = 0
    · refine lw_tabIn (tgt := 152) (off := 119) (v := 0) hC dL_law_33 h0s (by decide) (by decide) (by decide) (by decide) ?_
      refine lw_aload_n hC dL_law_152 rfl 1 rfl ?_
      refine lw_aload_n hC dL_law_153 rfl 0 rfl ?_
      refine lw_iload_n hC dL_law_154 rfl 3 rfl ?_
      refine lw_iconst (v := 1) hC dL_law_155 (by decide) ?_
      refine lw_iadd hC dL_law_156 ?_
      refine lw_sld hC (ld 1 (by decide)) dL_law_157 ?_
      refine lw_aload_n hC dL_law_158 rfl 0 rfl ?_
      refine lw_iload_n hC dL_law_159 rfl 3 rfl ?_
      refine lw_iconst (v := 2) hC dL_law_160 (by decide) ?_
      refine lw_iadd hC dL_law_161 ?_
      refine lw_sld hC (ld 2 (by decide)) dL_law_162 ?_
      refine lw_aload_n hC dL_law_163 rfl 0 rfl ?_
      refine lw_iload_n hC dL_law_164 rfl 3 rfl ?_
      refine lw_iconst (v := 3) hC dL_law_165 (by decide) ?_
      refine lw_iadd hC dL_law_166 ?_
      refine lw_sld hC (ld 3 (by decide)) dL_law_167 ?_
      refine lw_aload_n hC dL_law_168 rfl 0 rfl ?_
      refine lw_iload_n hC dL_law_169 rfl 3 rfl ?_
      refine lw_iconst (v := 4) hC dL_law_170 (by decide) ?_
      refine lw_iadd hC dL_law_171 ?_
      refine lw_sld hC (ld 4 (by decide)) dL_law_172 ?_
      refine lw_aload_n hC dL_law_173 rfl 0 rfl ?_
      refine lw_iload_n hC dL_law_174 rfl 3 rfl ?_
      refine lw_iconst (v := 5) hC dL_law_175 (by decide) ?_
      refine lw_iadd hC dL_law_176 ?_
      refine lw_sld hC (ld 5 (by decide)) dL_law_177 ?_
      refine lw_aload_n hC dL_law_178 rfl 0 rfl ?_
      refine lw_iload_n hC dL_law_179 rfl 3 rfl ?_
      refine lw_bipush (v := 6) hC dL_law_180 (by decide) ?_
      refine lw_iadd hC dL_law_182 ?_
      refine lw_sld hC (ld 6 (by decide)) dL_law_183 ?_
      have h := hs.1 M N hR (xs (nI (7 * i) + 1).toNatClampNeg) (xs (nI (7 * i) + 2).toNatClampNeg) (xs (nI (7 * i) + 3).toNatClampNeg) (xs (nI (7 * i) + 4).toNatClampNeg) (xs (nI (7 * i) + 5).toNatClampNeg) (xs (nI (7 * i) + 6).toNatClampNeg)
      refine lw_call1 (As := [.int (xs (nI (7 * i) + 1).toNatClampNeg), .int (xs (nI (7 * i) + 2).toNatClampNeg), .int (xs (nI (7 * i) + 3).toNatClampNeg), .int (xs (nI (7 * i) + 4).toNatClampNeg), .int (xs (nI (7 * i) + 5).toNatClampNeg), .int (xs (nI (7 * i) + 6).toNatClampNeg)]) (rest := []) hC (c_X10_part h1 h) cv_L_13 rr_L_X10_part (hc1 _) rfl rfl (Nat.le_of_ble_eq_true rfl) dL_law_184 ?_
      intro r1 M1 h
      refine lw_aload_n hC dL_law_187 rfl 2 rfl ?_
      refine lw_aload_n hC dL_law_188 rfl 0 rfl ?_
      refine lw_iload_n hC dL_law_189 rfl 3 rfl ?_
      refine lw_iconst (v := 1) hC dL_law_190 (by decide) ?_
      refine lw_iadd hC dL_law_191 ?_
      refine lw_sld hC (ld 1 (by decide)) dL_law_192 ?_
      refine lw_aload_n hC dL_law_193 rfl 0 rfl ?_
      refine lw_iload_n hC dL_law_194 rfl 3 rfl ?_
      refine lw_iconst (v := 2) hC dL_law_195 (by decide) ?_
      refine lw_iadd hC dL_law_196 ?_
      refine lw_sld hC (ld 2 (by decide)) dL_law_197 ?_
      refine lw_aload_n hC dL_law_198 rfl 0 rfl ?_
      refine lw_iload_n hC dL_law_199 rfl 3 rfl ?_
      refine lw_iconst (v := 3) hC dL_law_200 (by decide) ?_
      refine lw_iadd hC dL_law_201 ?_
      refine lw_sld hC (ld 3 (by decide)) dL_law_202 ?_
      refine lw_aload_n hC dL_law_203 rfl 0 rfl ?_
      refine lw_iload_n hC dL_law_204 rfl 3 rfl ?_
      refine lw_iconst (v := 4) hC dL_law_205 (by decide) ?_
      refine lw_iadd hC dL_law_206 ?_
      refine lw_sld hC (ld 4 (by decide)) dL_law_207 ?_
      refine lw_aload_n hC dL_law_208 rfl 0 rfl ?_
      refine lw_iload_n hC dL_law_209 rfl 3 rfl ?_
      refine lw_iconst (v := 5) hC dL_law_210 (by decide) ?_
      refine lw_iadd hC dL_law_211 ?_
      refine lw_sld hC (ld 5 (by decide)) dL_law_212 ?_
      refine lw_aload_n hC dL_law_213 rfl 0 rfl ?_
      refine lw_iload_n hC dL_law_214 rfl 3 rfl ?_
      refine lw_bipush (v := 6) hC dL_law_215 (by decide) ?_
      refine lw_iadd hC dL_law_217 ?_
      refine lw_sld hC (ld 6 (by decide)) dL_law_218 ?_
      refine lw_call2 (As := [.int (xs (nI (7 * i) + 1).toNatClampNeg), .int (xs (nI (7 * i) + 2).toNatClampNeg), .int (xs (nI (7 * i) + 3).toNatClampNeg), .int (xs (nI (7 * i) + 4).toNatClampNeg), .int (xs (nI (7 * i) + 5).toNatClampNeg), .int (xs (nI (7 * i) + 6).toNatClampNeg)]) (rest := [.int r1]) hC (c_X11_part h2 h) cv_L_17 rr_L_X11_part (hc2 _) rfl rfl (Nat.le_of_ble_eq_true rfl) dL_law_219 ?_
      intro r2 N1 h
      refine lw_icmp_eq (tgt := 1102) hC dL_law_222 (by decide) (fun hc => ?_) (fun hc => absurd h.1 hc)
      exact go _ _ h.2
    by_cases h1s : o = 1
    · refine lw_tabIn (tgt := 227) (off := 194) (v := 1) hC dL_law_33 h1s (by decide) (by decide) (by decide) (by decide) ?_
      refine lw_aload_n hC dL_law_227 rfl 1 rfl ?_
      refine lw_aload_n hC dL_law_228 rfl 0 rfl ?_
      refine lw_iload_n hC dL_law_229 rfl 3 rfl ?_
      refine lw_iconst (v := 1) hC dL_law_230 (by decide) ?_
      refine lw_iadd hC dL_law_231 ?_
      refine lw_sld hC (ld 1 (by decide)) dL_law_232 ?_
      have h := hs.2.1 M N hR (xs (nI (7 * i) + 1).toNatClampNeg)
      refine lw_call1 (As := [.int (xs (nI (7 * i) + 1).toNatClampNeg)]) (rest := []) hC (c_X10_clear h1 h) cv_L_18 rr_L_X10_clear (hc1 _) rfl rfl (Nat.le_of_ble_eq_true rfl) dL_law_233 ?_
      intro r1 M1 h
      refine lw_aload_n hC dL_law_236 rfl 2 rfl ?_
      refine lw_aload_n hC dL_law_237 rfl 0 rfl ?_
      refine lw_iload_n hC dL_law_238 rfl 3 rfl ?_
      refine lw_iconst (v := 1) hC dL_law_239 (by decide) ?_
      refine lw_iadd hC dL_law_240 ?_
      refine lw_sld hC (ld 1 (by decide)) dL_law_241 ?_
      refine lw_call2 (As := [.int (xs (nI (7 * i) + 1).toNatClampNeg)]) (rest := [.int r1]) hC (c_X11_clear h2 h) cv_L_22 rr_L_X11_clear (hc2 _) rfl rfl (Nat.le_of_ble_eq_true rfl) dL_law_242 ?_
      intro r2 N1 h
      refine lw_icmp_eq (tgt := 1102) hC dL_law_245 (by decide) (fun hc => ?_) (fun hc => absurd h.1 hc)
      exact go _ _ h.2
    by_cases h2s : o = 2
    · refine lw_tabIn (tgt := 250) (off := 217) (v := 2) hC dL_law_33 h2s (by decide) (by decide) (by decide) (by decide) ?_
      refine lw_aload_n hC dL_law_250 rfl 1 rfl ?_
      refine lw_aload_n hC dL_law_251 rfl 0 rfl ?_
      refine lw_iload_n hC dL_law_252 rfl 3 rfl ?_
      refine lw_iconst (v := 1) hC dL_law_253 (by decide) ?_
      refine lw_iadd hC dL_law_254 ?_
      refine lw_sld hC (ld 1 (by decide)) dL_law_255 ?_
      refine lw_aload_n hC dL_law_256 rfl 0 rfl ?_
      refine lw_iload_n hC dL_law_257 rfl 3 rfl ?_
      refine lw_iconst (v := 2) hC dL_law_258 (by decide) ?_
      refine lw_iadd hC dL_law_259 ?_
      refine lw_sld hC (ld 2 (by decide)) dL_law_260 ?_
      have h := hs.2.2.1 M N hR (xs (nI (7 * i) + 1).toNatClampNeg) (xs (nI (7 * i) + 2).toNatClampNeg)
      refine lw_call1 (As := [.int (xs (nI (7 * i) + 1).toNatClampNeg), .int (xs (nI (7 * i) + 2).toNatClampNeg)]) (rest := []) hC (c_X10_raw h1 h) cv_L_23 rr_L_X10_raw (hc1 _) rfl rfl (Nat.le_of_ble_eq_true rfl) dL_law_261 ?_
      intro r1 m1 ⟨hm1, h⟩
      rw [hm1]
      refine lw_aload_n hC dL_law_264 rfl 2 rfl ?_
      refine lw_aload_n hC dL_law_265 rfl 0 rfl ?_
      refine lw_iload_n hC dL_law_266 rfl 3 rfl ?_
      refine lw_iconst (v := 1) hC dL_law_267 (by decide) ?_
      refine lw_iadd hC dL_law_268 ?_
      refine lw_sld hC (ld 1 (by decide)) dL_law_269 ?_
      refine lw_aload_n hC dL_law_270 rfl 0 rfl ?_
      refine lw_iload_n hC dL_law_271 rfl 3 rfl ?_
      refine lw_iconst (v := 2) hC dL_law_272 (by decide) ?_
      refine lw_iadd hC dL_law_273 ?_
      refine lw_sld hC (ld 2 (by decide)) dL_law_274 ?_
      refine lw_call2 (As := [.int (xs (nI (7 * i) + 1).toNatClampNeg), .int (xs (nI (7 * i) + 2).toNatClampNeg)]) (rest := [.int r1]) hC (c_X11_raw h2 h) cv_L_27 rr_L_X11_raw (hc2 _) rfl rfl (Nat.le_of_ble_eq_true rfl) dL_law_275 ?_
      intro r2 m2 ⟨hm2, h⟩
      rw [hm2]
      refine lw_icmp_eq (tgt := 1102) hC dL_law_278 (by decide) (fun hc => ?_) (fun hc => absurd h.1 hc)
      exact go _ _ h.2
    by_cases h3s : o = 3
    · refine lw_tabIn (tgt := 283) (off := 250) (v := 3) hC dL_law_33 h3s (by decide) (by decide) (by decide) (by decide) ?_
      refine lw_aload_n hC dL_law_283 rfl 1 rfl ?_
      refine lw_aload_n hC dL_law_284 rfl 0 rfl ?_
      refine lw_iload_n hC dL_law_285 rfl 3 rfl ?_
      refine lw_iconst (v := 1) hC dL_law_286 (by decide) ?_
      refine lw_iadd hC dL_law_287 ?_
      refine lw_sld hC (ld 1 (by decide)) dL_law_288 ?_
      refine lw_aload_n hC dL_law_289 rfl 0 rfl ?_
      refine lw_iload_n hC dL_law_290 rfl 3 rfl ?_
      refine lw_iconst (v := 2) hC dL_law_291 (by decide) ?_
      refine lw_iadd hC dL_law_292 ?_
      refine lw_sld hC (ld 2 (by decide)) dL_law_293 ?_
      refine lw_aload_n hC dL_law_294 rfl 0 rfl ?_
      refine lw_iload_n hC dL_law_295 rfl 3 rfl ?_
      refine lw_iconst (v := 3) hC dL_law_296 (by decide) ?_
      refine lw_iadd hC dL_law_297 ?_
      refine lw_sld hC (ld 3 (by decide)) dL_law_298 ?_
      refine lw_aload_n hC dL_law_299 rfl 0 rfl ?_
      refine lw_iload_n hC dL_law_300 rfl 3 rfl ?_
      refine lw_iconst (v := 4) hC dL_law_301 (by decide) ?_
      refine lw_iadd hC dL_law_302 ?_
      refine lw_sld hC (ld 4 (by decide)) dL_law_303 ?_
      have h := hs.2.2.2.1 M N hR (xs (nI (7 * i) + 1).toNatClampNeg) (xs (nI (7 * i) + 2).toNatClampNeg) (xs (nI (7 * i) + 3).toNatClampNeg) (xs (nI (7 * i) + 4).toNatClampNeg)
      refine lw_call1 (As := [.int (xs (nI (7 * i) + 1).toNatClampNeg), .int (xs (nI (7 * i) + 2).toNatClampNeg), .int (xs (nI (7 * i) + 3).toNatClampNeg), .int (xs (nI (7 * i) + 4).toNatClampNeg)]) (rest := []) hC (c_X10_probe h1 h) cv_L_28 rr_L_X10_probe (hc1 _) rfl rfl (Nat.le_of_ble_eq_true rfl) dL_law_304 ?_
      intro r1 M1 h
      refine lw_aload_n hC dL_law_307 rfl 2 rfl ?_
      refine lw_aload_n hC dL_law_308 rfl 0 rfl ?_
      refine lw_iload_n hC dL_law_309 rfl 3 rfl ?_
      refine lw_iconst (v := 1) hC dL_law_310 (by decide) ?_
      refine lw_iadd hC dL_law_311 ?_
      refine lw_sld hC (ld 1 (by decide)) dL_law_312 ?_
      refine lw_aload_n hC dL_law_313 rfl 0 rfl ?_
      refine lw_iload_n hC dL_law_314 rfl 3 rfl ?_
      refine lw_iconst (v := 2) hC dL_law_315 (by decide) ?_
      refine lw_iadd hC dL_law_316 ?_
      refine lw_sld hC (ld 2 (by decide)) dL_law_317 ?_
      refine lw_aload_n hC dL_law_318 rfl 0 rfl ?_
      refine lw_iload_n hC dL_law_319 rfl 3 rfl ?_
      refine lw_iconst (v := 3) hC dL_law_320 (by decide) ?_
      refine lw_iadd hC dL_law_321 ?_
      refine lw_sld hC (ld 3 (by decide)) dL_law_322 ?_
      refine lw_aload_n hC dL_law_323 rfl 0 rfl ?_
      refine lw_iload_n hC dL_law_324 rfl 3 rfl ?_
      refine lw_iconst (v := 4) hC dL_law_325 (by decide) ?_
      refine lw_iadd hC dL_law_326 ?_
      refine lw_sld hC (ld 4 (by decide)) dL_law_327 ?_
      refine lw_call2 (As := [.int (xs (nI (7 * i) + 1).toNatClampNeg), .int (xs (nI (7 * i) + 2).toNatClampNeg), .int (xs (nI (7 * i) + 3).toNatClampNeg), .int (xs (nI (7 * i) + 4).toNatClampNeg)]) (rest := [.int r1]) hC (c_X11_probe h2 h) cv_L_32 rr_L_X11_probe (hc2 _) rfl rfl (Nat.le_of_ble_eq_true rfl) dL_law_328 ?_
      intro r2 N1 h
      refine lw_icmp_eq (tgt := 1102) hC dL_law_331 (by decide) (fun hc => ?_) (fun hc => absurd h.1 hc)
      exact go _ _ h.2
    by_cases h4s : o = 4
    · refine lw_tabIn (tgt := 336) (off := 303) (v := 4) hC dL_law_33 h4s (by decide) (by decide) (by decide) (by decide) ?_
      refine lw_aload_n hC dL_law_336 rfl 1 rfl ?_
      refine lw_aload_n hC dL_law_337 rfl 0 rfl ?_
      refine lw_iload_n hC dL_law_338 rfl 3 rfl ?_
      refine lw_iconst (v := 1) hC dL_law_339 (by decide) ?_
      refine lw_iadd hC dL_law_340 ?_
      refine lw_sld hC (ld 1 (by decide)) dL_law_341 ?_
      refine lw_aload_n hC dL_law_342 rfl 0 rfl ?_
      refine lw_iload_n hC dL_law_343 rfl 3 rfl ?_
      refine lw_iconst (v := 2) hC dL_law_344 (by decide) ?_
      refine lw_iadd hC dL_law_345 ?_
      refine lw_sld hC (ld 2 (by decide)) dL_law_346 ?_
      refine lw_aload_n hC dL_law_347 rfl 0 rfl ?_
      refine lw_iload_n hC dL_law_348 rfl 3 rfl ?_
      refine lw_iconst (v := 3) hC dL_law_349 (by decide) ?_
      refine lw_iadd hC dL_law_350 ?_
      refine lw_sld hC (ld 3 (by decide)) dL_law_351 ?_
      refine lw_aload_n hC dL_law_352 rfl 0 rfl ?_
      refine lw_iload_n hC dL_law_353 rfl 3 rfl ?_
      refine lw_iconst (v := 4) hC dL_law_354 (by decide) ?_
      refine lw_iadd hC dL_law_355 ?_
      refine lw_sld hC (ld 4 (by decide)) dL_law_356 ?_
      have h := hs.2.2.2.2.1 M N hR (xs (nI (7 * i) + 1).toNatClampNeg) (xs (nI (7 * i) + 2).toNatClampNeg) (xs (nI (7 * i) + 3).toNatClampNeg) (xs (nI (7 * i) + 4).toNatClampNeg)
      refine lw_call1 (As := [.int (xs (nI (7 * i) + 1).toNatClampNeg), .int (xs (nI (7 * i) + 2).toNatClampNeg), .int (xs (nI (7 * i) + 3).toNatClampNeg), .int (xs (nI (7 * i) + 4).toNatClampNeg)]) (rest := []) hC (c_X10_channel h1 h) cv_L_33 rr_L_X10_channel (hc1 _) rfl rfl (Nat.le_of_ble_eq_true rfl) dL_law_357 ?_
      intro r1 M1 h
      refine lw_aload_n hC dL_law_360 rfl 2 rfl ?_
      refine lw_aload_n hC dL_law_361 rfl 0 rfl ?_
      refine lw_iload_n hC dL_law_362 rfl 3 rfl ?_
      refine lw_iconst (v := 1) hC dL_law_363 (by decide) ?_
      refine lw_iadd hC dL_law_364 ?_
      refine lw_sld hC (ld 1 (by decide)) dL_law_365 ?_
      refine lw_aload_n hC dL_law_366 rfl 0 rfl ?_
      refine lw_iload_n hC dL_law_367 rfl 3 rfl ?_
      refine lw_iconst (v := 2) hC dL_law_368 (by decide) ?_
      refine lw_iadd hC dL_law_369 ?_
      refine lw_sld hC (ld 2 (by decide)) dL_law_370 ?_
      refine lw_aload_n hC dL_law_371 rfl 0 rfl ?_
      refine lw_iload_n hC dL_law_372 rfl 3 rfl ?_
      refine lw_iconst (v := 3) hC dL_law_373 (by decide) ?_
      refine lw_iadd hC dL_law_374 ?_
      refine lw_sld hC (ld 3 (by decide)) dL_law_375 ?_
      refine lw_aload_n hC dL_law_376 rfl 0 rfl ?_
      refine lw_iload_n hC dL_law_377 rfl 3 rfl ?_
      refine lw_iconst (v := 4) hC dL_law_378 (by decide) ?_
      refine lw_iadd hC dL_law_379 ?_
      refine lw_sld hC (ld 4 (by decide)) dL_law_380 ?_
      refine lw_call2 (As := [.int (xs (nI (7 * i) + 1).toNatClampNeg), .int (xs (nI (7 * i) + 2).toNatClampNeg), .int (xs (nI (7 * i) + 3).toNatClampNeg), .int (xs (nI (7 * i) + 4).toNatClampNeg)]) (rest := [.int r1]) hC (c_X11_channel h2 h) cv_L_36 rr_L_X11_channel (hc2 _) rfl rfl (Nat.le_of_ble_eq_true rfl) dL_law_381 ?_
      intro r2 N1 h
      refine lw_icmp_eq (tgt := 1102) hC dL_law_384 (by decide) (fun hc => ?_) (fun hc => absurd h.1 hc)
      exact go _ _ h.2
    by_cases h5s : o = 5
    · refine lw_tabIn (tgt := 389) (off := 356) (v := 5) hC dL_law_33 h5s (by decide) (by decide) (by decide) (by decide) ?_
      refine lw_aload_n hC dL_law_389 rfl 1 rfl ?_
      refine lw_aload_n hC dL_law_390 rfl 0 rfl ?_
      refine lw_iload_n hC dL_law_391 rfl 3 rfl ?_
      refine lw_iconst (v := 1) hC dL_law_392 (by decide) ?_
      refine lw_iadd hC dL_law_393 ?_
      refine lw_sld hC (ld 1 (by decide)) dL_law_394 ?_
      refine lw_aload_n hC dL_law_395 rfl 0 rfl ?_
      refine lw_iload_n hC dL_law_396 rfl 3 rfl ?_
      refine lw_iconst (v := 2) hC dL_law_397 (by decide) ?_
      refine lw_iadd hC dL_law_398 ?_
      refine lw_sld hC (ld 2 (by decide)) dL_law_399 ?_
      have h := hs.2.2.2.2.2.1 M N hR (xs (nI (7 * i) + 1).toNatClampNeg) (xs (nI (7 * i) + 2).toNatClampNeg)
      refine lw_call1 (As := [.int (xs (nI (7 * i) + 1).toNatClampNeg), .int (xs (nI (7 * i) + 2).toNatClampNeg)]) (rest := []) hC (c_X10_out h1 h) cv_L_37 rr_L_X10_out (hc1 _) rfl rfl (Nat.le_of_ble_eq_true rfl) dL_law_400 ?_
      intro r1 M1 h
      refine lw_aload_n hC dL_law_403 rfl 2 rfl ?_
      refine lw_aload_n hC dL_law_404 rfl 0 rfl ?_
      refine lw_iload_n hC dL_law_405 rfl 3 rfl ?_
      refine lw_iconst (v := 1) hC dL_law_406 (by decide) ?_
      refine lw_iadd hC dL_law_407 ?_
      refine lw_sld hC (ld 1 (by decide)) dL_law_408 ?_
      refine lw_aload_n hC dL_law_409 rfl 0 rfl ?_
      refine lw_iload_n hC dL_law_410 rfl 3 rfl ?_
      refine lw_iconst (v := 2) hC dL_law_411 (by decide) ?_
      refine lw_iadd hC dL_law_412 ?_
      refine lw_sld hC (ld 2 (by decide)) dL_law_413 ?_
      refine lw_call2 (As := [.int (xs (nI (7 * i) + 1).toNatClampNeg), .int (xs (nI (7 * i) + 2).toNatClampNeg)]) (rest := [.int r1]) hC (c_X11_out h2 h) cv_L_40 rr_L_X11_out (hc2 _) rfl rfl (Nat.le_of_ble_eq_true rfl) dL_law_414 ?_
      intro r2 N1 h
      refine lw_icmp_eq (tgt := 1102) hC dL_law_417 (by decide) (fun hc => ?_) (fun hc => absurd h.1 hc)
      exact go _ _ h.2
    by_cases h6s : o = 6
    · refine lw_tabIn (tgt := 422) (off := 389) (v := 6) hC dL_law_33 h6s (by decide) (by decide) (by decide) (by decide) ?_
      refine lw_aload_n hC dL_law_422 rfl 1 rfl ?_
      refine lw_aload_n hC dL_law_423 rfl 0 rfl ?_
      refine lw_iload_n hC dL_law_424 rfl 3 rfl ?_
      refine lw_iconst (v := 1) hC dL_law_425 (by decide) ?_
      refine lw_iadd hC dL_law_426 ?_
      refine lw_sld hC (ld 1 (by decide)) dL_law_427 ?_
      refine lw_aload_n hC dL_law_428 rfl 0 rfl ?_
      refine lw_iload_n hC dL_law_429 rfl 3 rfl ?_
      refine lw_iconst (v := 2) hC dL_law_430 (by decide) ?_
      refine lw_iadd hC dL_law_431 ?_
      refine lw_sld hC (ld 2 (by decide)) dL_law_432 ?_
      refine lw_aload_n hC dL_law_433 rfl 0 rfl ?_
      refine lw_iload_n hC dL_law_434 rfl 3 rfl ?_
      refine lw_iconst (v := 3) hC dL_law_435 (by decide) ?_
      refine lw_iadd hC dL_law_436 ?_
      refine lw_sld hC (ld 3 (by decide)) dL_law_437 ?_
      have h := hs.2.2.2.2.2.2.1 M N hR (xs (nI (7 * i) + 1).toNatClampNeg) (xs (nI (7 * i) + 2).toNatClampNeg) (xs (nI (7 * i) + 3).toNatClampNeg)
      refine lw_call1 (As := [.int (xs (nI (7 * i) + 1).toNatClampNeg), .int (xs (nI (7 * i) + 2).toNatClampNeg), .int (xs (nI (7 * i) + 3).toNatClampNeg)]) (rest := []) hC (c_X10_base h1 h) cv_L_41 rr_L_X10_base (hc1 _) rfl rfl (Nat.le_of_ble_eq_true rfl) dL_law_438 ?_
      intro r1 M1 h
      refine lw_aload_n hC dL_law_441 rfl 2 rfl ?_
      refine lw_aload_n hC dL_law_442 rfl 0 rfl ?_
      refine lw_iload_n hC dL_law_443 rfl 3 rfl ?_
      refine lw_iconst (v := 1) hC dL_law_444 (by decide) ?_
      refine lw_iadd hC dL_law_445 ?_
      refine lw_sld hC (ld 1 (by decide)) dL_law_446 ?_
      refine lw_aload_n hC dL_law_447 rfl 0 rfl ?_
      refine lw_iload_n hC dL_law_448 rfl 3 rfl ?_
      refine lw_iconst (v := 2) hC dL_law_449 (by decide) ?_
      refine lw_iadd hC dL_law_450 ?_
      refine lw_sld hC (ld 2 (by decide)) dL_law_451 ?_
      refine lw_aload_n hC dL_law_452 rfl 0 rfl ?_
      refine lw_iload_n hC dL_law_453 rfl 3 rfl ?_
      refine lw_iconst (v := 3) hC dL_law_454 (by decide) ?_
      refine lw_iadd hC dL_law_455 ?_
      refine lw_sld hC (ld 3 (by decide)) dL_law_456 ?_
      refine lw_call2 (As := [.int (xs (nI (7 * i) + 1).toNatClampNeg), .int (xs (nI (7 * i) + 2).toNatClampNeg), .int (xs (nI (7 * i) + 3).toNatClampNeg)]) (rest := [.int r1]) hC (c_X11_base h2 h) cv_L_45 rr_L_X11_base (hc2 _) rfl rfl (Nat.le_of_ble_eq_true rfl) dL_law_457 ?_
      intro r2 N1 h
      refine lw_icmp_eq (tgt := 1102) hC dL_law_460 (by decide) (fun hc => ?_) (fun hc => absurd h.1 hc)
      exact go _ _ h.2
    by_cases h7s : o = 7
    · refine lw_tabIn (tgt := 465) (off := 432) (v := 7) hC dL_law_33 h7s (by decide) (by decide) (by decide) (by decide) ?_
      refine lw_aload_n hC dL_law_465 rfl 1 rfl ?_
      refine lw_aload_n hC dL_law_466 rfl 0 rfl ?_
      refine lw_iload_n hC dL_law_467 rfl 3 rfl ?_
      refine lw_iconst (v := 1) hC dL_law_468 (by decide) ?_
      refine lw_iadd hC dL_law_469 ?_
      refine lw_sld hC (ld 1 (by decide)) dL_law_470 ?_
      refine lw_aload_n hC dL_law_471 rfl 0 rfl ?_
      refine lw_iload_n hC dL_law_472 rfl 3 rfl ?_
      refine lw_iconst (v := 2) hC dL_law_473 (by decide) ?_
      refine lw_iadd hC dL_law_474 ?_
      refine lw_sld hC (ld 2 (by decide)) dL_law_475 ?_
      have h := hs.2.2.2.2.2.2.2.1 M N hR (xs (nI (7 * i) + 1).toNatClampNeg) (xs (nI (7 * i) + 2).toNatClampNeg)
      refine lw_call1 (As := [.int (xs (nI (7 * i) + 1).toNatClampNeg), .int (xs (nI (7 * i) + 2).toNatClampNeg)]) (rest := []) hC (c_X10_mode h1 h) cv_L_46 rr_L_X10_mode (hc1 _) rfl rfl (Nat.le_of_ble_eq_true rfl) dL_law_476 ?_
      intro r1 M1 h
      refine lw_aload_n hC dL_law_479 rfl 2 rfl ?_
      refine lw_aload_n hC dL_law_480 rfl 0 rfl ?_
      refine lw_iload_n hC dL_law_481 rfl 3 rfl ?_
      refine lw_iconst (v := 1) hC dL_law_482 (by decide) ?_
      refine lw_iadd hC dL_law_483 ?_
      refine lw_sld hC (ld 1 (by decide)) dL_law_484 ?_
      refine lw_aload_n hC dL_law_485 rfl 0 rfl ?_
      refine lw_iload_n hC dL_law_486 rfl 3 rfl ?_
      refine lw_iconst (v := 2) hC dL_law_487 (by decide) ?_
      refine lw_iadd hC dL_law_488 ?_
      refine lw_sld hC (ld 2 (by decide)) dL_law_489 ?_
      refine lw_call2 (As := [.int (xs (nI (7 * i) + 1).toNatClampNeg), .int (xs (nI (7 * i) + 2).toNatClampNeg)]) (rest := [.int r1]) hC (c_X11_mode h2 h) cv_L_50 rr_L_X11_mode (hc2 _) rfl rfl (Nat.le_of_ble_eq_true rfl) dL_law_490 ?_
      intro r2 N1 h
      refine lw_icmp_eq (tgt := 1102) hC dL_law_493 (by decide) (fun hc => ?_) (fun hc => absurd h.1 hc)
      exact go _ _ h.2
    by_cases h8s : o = 8
    · refine lw_tabIn (tgt := 498) (off := 465) (v := 8) hC dL_law_33 h8s (by decide) (by decide) (by decide) (by decide) ?_
      refine lw_aload_n hC dL_law_498 rfl 1 rfl ?_
      refine lw_aload_n hC dL_law_499 rfl 0 rfl ?_
      refine lw_iload_n hC dL_law_500 rfl 3 rfl ?_
      refine lw_iconst (v := 1) hC dL_law_501 (by decide) ?_
      refine lw_iadd hC dL_law_502 ?_
      refine lw_sld hC (ld 1 (by decide)) dL_law_503 ?_
      refine lw_aload_n hC dL_law_504 rfl 0 rfl ?_
      refine lw_iload_n hC dL_law_505 rfl 3 rfl ?_
      refine lw_iconst (v := 2) hC dL_law_506 (by decide) ?_
      refine lw_iadd hC dL_law_507 ?_
      refine lw_sld hC (ld 2 (by decide)) dL_law_508 ?_
      refine lw_aload_n hC dL_law_509 rfl 0 rfl ?_
      refine lw_iload_n hC dL_law_510 rfl 3 rfl ?_
      refine lw_iconst (v := 3) hC dL_law_511 (by decide) ?_
      refine lw_iadd hC dL_law_512 ?_
      refine lw_sld hC (ld 3 (by decide)) dL_law_513 ?_
      refine lw_aload_n hC dL_law_514 rfl 0 rfl ?_
      refine lw_iload_n hC dL_law_515 rfl 3 rfl ?_
      refine lw_iconst (v := 4) hC dL_law_516 (by decide) ?_
      refine lw_iadd hC dL_law_517 ?_
      refine lw_sld hC (ld 4 (by decide)) dL_law_518 ?_
      refine lw_aload_n hC dL_law_519 rfl 0 rfl ?_
      refine lw_iload_n hC dL_law_520 rfl 3 rfl ?_
      refine lw_iconst (v := 5) hC dL_law_521 (by decide) ?_
      refine lw_iadd hC dL_law_522 ?_
      refine lw_sld hC (ld 5 (by decide)) dL_law_523 ?_
      have h := hs.2.2.2.2.2.2.2.2.1 M N hR (xs (nI (7 * i) + 1).toNatClampNeg) (xs (nI (7 * i) + 2).toNatClampNeg) (xs (nI (7 * i) + 3).toNatClampNeg) (xs (nI (7 * i) + 4).toNatClampNeg) (xs (nI (7 * i) + 5).toNatClampNeg)
      refine lw_call1 (As := [.int (xs (nI (7 * i) + 1).toNatClampNeg), .int (xs (nI (7 * i) + 2).toNatClampNeg), .int (xs (nI (7 * i) + 3).toNatClampNeg), .int (xs (nI (7 * i) + 4).toNatClampNeg), .int (xs (nI (7 * i) + 5).toNatClampNeg)]) (rest := []) hC (c_X10_feed h1 h) cv_L_51 rr_L_X10_feed (hc1 _) rfl rfl (Nat.le_of_ble_eq_true rfl) dL_law_524 ?_
      intro r1 M1 h
      refine lw_aload_n hC dL_law_527 rfl 2 rfl ?_
      refine lw_aload_n hC dL_law_528 rfl 0 rfl ?_
      refine lw_iload_n hC dL_law_529 rfl 3 rfl ?_
      refine lw_iconst (v := 1) hC dL_law_530 (by decide) ?_
      refine lw_iadd hC dL_law_531 ?_
      refine lw_sld hC (ld 1 (by decide)) dL_law_532 ?_
      refine lw_aload_n hC dL_law_533 rfl 0 rfl ?_
      refine lw_iload_n hC dL_law_534 rfl 3 rfl ?_
      refine lw_iconst (v := 2) hC dL_law_535 (by decide) ?_
      refine lw_iadd hC dL_law_536 ?_
      refine lw_sld hC (ld 2 (by decide)) dL_law_537 ?_
      refine lw_aload_n hC dL_law_538 rfl 0 rfl ?_
      refine lw_iload_n hC dL_law_539 rfl 3 rfl ?_
      refine lw_iconst (v := 3) hC dL_law_540 (by decide) ?_
      refine lw_iadd hC dL_law_541 ?_
      refine lw_sld hC (ld 3 (by decide)) dL_law_542 ?_
      refine lw_aload_n hC dL_law_543 rfl 0 rfl ?_
      refine lw_iload_n hC dL_law_544 rfl 3 rfl ?_
      refine lw_iconst (v := 4) hC dL_law_545 (by decide) ?_
      refine lw_iadd hC dL_law_546 ?_
      refine lw_sld hC (ld 4 (by decide)) dL_law_547 ?_
      refine lw_aload_n hC dL_law_548 rfl 0 rfl ?_
      refine lw_iload_n hC dL_law_549 rfl 3 rfl ?_
      refine lw_iconst (v := 5) hC dL_law_550 (by decide) ?_
      refine lw_iadd hC dL_law_551 ?_
      refine lw_sld hC (ld 5 (by decide)) dL_law_552 ?_
      refine lw_call2 (As := [.int (xs (nI (7 * i) + 1).toNatClampNeg), .int (xs (nI (7 * i) + 2).toNatClampNeg), .int (xs (nI (7 * i) + 3).toNatClampNeg), .int (xs (nI (7 * i) + 4).toNatClampNeg), .int (xs (nI (7 * i) + 5).toNatClampNeg)]) (rest := [.int r1]) hC (c_X11_feed h2 h) cv_L_55 rr_L_X11_feed (hc2 _) rfl rfl (Nat.le_of_ble_eq_true rfl) dL_law_553 ?_
      intro r2 N1 h
      refine lw_icmp_eq (tgt := 1102) hC dL_law_556 (by decide) (fun hc => ?_) (fun hc => absurd h.1 hc)
      exact go _ _ h.2
    by_cases h9s : o = 9
    · refine lw_tabIn (tgt := 561) (off := 528) (v := 9) hC dL_law_33 h9s (by decide) (by decide) (by decide) (by decide) ?_
      refine lw_aload_n hC dL_law_561 rfl 1 rfl ?_
      refine lw_aload_n hC dL_law_562 rfl 0 rfl ?_
      refine lw_iload_n hC dL_law_563 rfl 3 rfl ?_
      refine lw_iconst (v := 1) hC dL_law_564 (by decide) ?_
      refine lw_iadd hC dL_law_565 ?_
      refine lw_sld hC (ld 1 (by decide)) dL_law_566 ?_
      have h := hs.2.2.2.2.2.2.2.2.2.1 M N hR (xs (nI (7 * i) + 1).toNatClampNeg)
      refine lw_call1 (As := [.int (xs (nI (7 * i) + 1).toNatClampNeg)]) (rest := []) hC (c_X10_end h1 h) cv_L_56 rr_L_X10_end (hc1 _) rfl rfl (Nat.le_of_ble_eq_true rfl) dL_law_567 ?_
      intro r1 M1 h
      refine lw_aload_n hC dL_law_570 rfl 2 rfl ?_
      refine lw_aload_n hC dL_law_571 rfl 0 rfl ?_
      refine lw_iload_n hC dL_law_572 rfl 3 rfl ?_
      refine lw_iconst (v := 1) hC dL_law_573 (by decide) ?_
      refine lw_iadd hC dL_law_574 ?_
      refine lw_sld hC (ld 1 (by decide)) dL_law_575 ?_
      refine lw_call2 (As := [.int (xs (nI (7 * i) + 1).toNatClampNeg)]) (rest := [.int r1]) hC (c_X11_end h2 h) cv_L_59 rr_L_X11_end (hc2 _) rfl rfl (Nat.le_of_ble_eq_true rfl) dL_law_576 ?_
      intro r2 N1 h
      refine lw_icmp_eq (tgt := 1102) hC dL_law_579 (by decide) (fun hc => ?_) (fun hc => absurd h.1 hc)
      exact go _ _ h.2
    by_cases h10s : o = 10
    · refine lw_tabIn (tgt := 584) (off := 551) (v := 10) hC dL_law_33 h10s (by decide) (by decide) (by decide) (by decide) ?_
      refine lw_aload_n hC dL_law_584 rfl 1 rfl ?_
      have h := hs.2.2.2.2.2.2.2.2.2.2.1 M N hR
      refine lw_call1 (As := []) (rest := []) hC (c_X10_text h1 h) cv_L_60 rr_L_X10_text (hc1 _) rfl rfl (Nat.le_of_ble_eq_true rfl) dL_law_585 ?_
      intro r1 M1 h
      refine lw_aload_n hC dL_law_588 rfl 2 rfl ?_
      refine lw_call2 (As := []) (rest := [.int r1]) hC (c_X11_text h2 h) cv_L_64 rr_L_X11_text (hc2 _) rfl rfl (Nat.le_of_ble_eq_true rfl) dL_law_589 ?_
      intro r2 N1 h
      refine lw_icmp_eq (tgt := 1102) hC dL_law_592 (by decide) (fun hc => ?_) (fun hc => absurd h.1 hc)
      exact go _ _ h.2
    by_cases h11s : o = 11
    · refine lw_tabIn (tgt := 597) (off := 564) (v := 11) hC dL_law_33 h11s (by decide) (by decide) (by decide) (by decide) ?_
      refine lw_aload_n hC dL_law_597 rfl 1 rfl ?_
      refine lw_aload_n hC dL_law_598 rfl 0 rfl ?_
      refine lw_iload_n hC dL_law_599 rfl 3 rfl ?_
      refine lw_iconst (v := 1) hC dL_law_600 (by decide) ?_
      refine lw_iadd hC dL_law_601 ?_
      refine lw_sld hC (ld 1 (by decide)) dL_law_602 ?_
      have h := hs.2.2.2.2.2.2.2.2.2.2.2.1 M N hR (xs (nI (7 * i) + 1).toNatClampNeg)
      refine lw_call1 (As := [.int (xs (nI (7 * i) + 1).toNatClampNeg)]) (rest := []) hC (c_X10_fault h1 h) cv_L_65 rr_L_X10_fault (hc1 _) rfl rfl (Nat.le_of_ble_eq_true rfl) dL_law_603 ?_
      intro r1 m1 ⟨hm1, h⟩
      rw [hm1]
      refine lw_aload_n hC dL_law_606 rfl 2 rfl ?_
      refine lw_aload_n hC dL_law_607 rfl 0 rfl ?_
      refine lw_iload_n hC dL_law_608 rfl 3 rfl ?_
      refine lw_iconst (v := 1) hC dL_law_609 (by decide) ?_
      refine lw_iadd hC dL_law_610 ?_
      refine lw_sld hC (ld 1 (by decide)) dL_law_611 ?_
      refine lw_call2 (As := [.int (xs (nI (7 * i) + 1).toNatClampNeg)]) (rest := [.int r1]) hC (c_X11_fault h2 h) cv_L_68 rr_L_X11_fault (hc2 _) rfl rfl (Nat.le_of_ble_eq_true rfl) dL_law_612 ?_
      intro r2 m2 ⟨hm2, h⟩
      rw [hm2]
      refine lw_icmp_eq (tgt := 1102) hC dL_law_615 (by decide) (fun hc => ?_) (fun hc => absurd h.1 hc)
      exact go _ _ h.2
    by_cases h12s : o = 12
    · refine lw_tabIn (tgt := 620) (off := 587) (v := 12) hC dL_law_33 h12s (by decide) (by decide) (by decide) (by decide) ?_
      refine lw_aload_n hC dL_law_620 rfl 1 rfl ?_
      refine lw_aload_n hC dL_law_621 rfl 0 rfl ?_
      refine lw_iload_n hC dL_law_622 rfl 3 rfl ?_
      refine lw_iconst (v := 1) hC dL_law_623 (by decide) ?_
      refine lw_iadd hC dL_law_624 ?_
      refine lw_sld hC (ld 1 (by decide)) dL_law_625 ?_
      have h := hs.2.2.2.2.2.2.2.2.2.2.2.2.1 M N hR (xs (nI (7 * i) + 1).toNatClampNeg)
      refine lw_call1 (As := [.int (xs (nI (7 * i) + 1).toNatClampNeg)]) (rest := []) hC (c_X10_by h1 h) cv_L_69 rr_L_X10_by (hc1 _) rfl rfl (Nat.le_of_ble_eq_true rfl) dL_law_626 ?_
      intro r1 M1 h
      refine lw_aload_n hC dL_law_629 rfl 2 rfl ?_
      refine lw_aload_n hC dL_law_630 rfl 0 rfl ?_
      refine lw_iload_n hC dL_law_631 rfl 3 rfl ?_
      refine lw_iconst (v := 1) hC dL_law_632 (by decide) ?_
      refine lw_iadd hC dL_law_633 ?_
      refine lw_sld hC (ld 1 (by decide)) dL_law_634 ?_
      refine lw_call2 (As := [.int (xs (nI (7 * i) + 1).toNatClampNeg)]) (rest := [.int r1]) hC (c_X11_by h2 h) cv_L_73 rr_L_X11_by (hc2 _) rfl rfl (Nat.le_of_ble_eq_true rfl) dL_law_635 ?_
      intro r2 N1 h
      refine lw_icmp_eq (tgt := 1102) hC dL_law_638 (by decide) (fun hc => ?_) (fun hc => absurd h.1 hc)
      exact go _ _ h.2
    by_cases h13s : o = 13
    · refine lw_tabIn (tgt := 643) (off := 610) (v := 13) hC dL_law_33 h13s (by decide) (by decide) (by decide) (by decide) ?_
      refine lw_aload_n hC dL_law_643 rfl 1 rfl ?_
      refine lw_aload_n hC dL_law_644 rfl 0 rfl ?_
      refine lw_iload_n hC dL_law_645 rfl 3 rfl ?_
      refine lw_iconst (v := 1) hC dL_law_646 (by decide) ?_
      refine lw_iadd hC dL_law_647 ?_
      refine lw_sld hC (ld 1 (by decide)) dL_law_648 ?_
      refine lw_aload_n hC dL_law_649 rfl 0 rfl ?_
      refine lw_iload_n hC dL_law_650 rfl 3 rfl ?_
      refine lw_iconst (v := 2) hC dL_law_651 (by decide) ?_
      refine lw_iadd hC dL_law_652 ?_
      refine lw_sld hC (ld 2 (by decide)) dL_law_653 ?_
      have h := hs.2.2.2.2.2.2.2.2.2.2.2.2.2.1 M N hR (xs (nI (7 * i) + 1).toNatClampNeg) (xs (nI (7 * i) + 2).toNatClampNeg)
      refine lw_call1 (As := [.int (xs (nI (7 * i) + 1).toNatClampNeg), .int (xs (nI (7 * i) + 2).toNatClampNeg)]) (rest := []) hC (c_X10_swept h1 h) cv_L_74 rr_L_X10_swept (hc1 _) rfl rfl (Nat.le_of_ble_eq_true rfl) dL_law_654 ?_
      intro r1 M1 h
      refine lw_aload_n hC dL_law_657 rfl 2 rfl ?_
      refine lw_aload_n hC dL_law_658 rfl 0 rfl ?_
      refine lw_iload_n hC dL_law_659 rfl 3 rfl ?_
      refine lw_iconst (v := 1) hC dL_law_660 (by decide) ?_
      refine lw_iadd hC dL_law_661 ?_
      refine lw_sld hC (ld 1 (by decide)) dL_law_662 ?_
      refine lw_aload_n hC dL_law_663 rfl 0 rfl ?_
      refine lw_iload_n hC dL_law_664 rfl 3 rfl ?_
      refine lw_iconst (v := 2) hC dL_law_665 (by decide) ?_
      refine lw_iadd hC dL_law_666 ?_
      refine lw_sld hC (ld 2 (by decide)) dL_law_667 ?_
      refine lw_call2 (As := [.int (xs (nI (7 * i) + 1).toNatClampNeg), .int (xs (nI (7 * i) + 2).toNatClampNeg)]) (rest := [.int r1]) hC (c_X11_swept h2 h) cv_L_77 rr_L_X11_swept (hc2 _) rfl rfl (Nat.le_of_ble_eq_true rfl) dL_law_668 ?_
      intro r2 N1 h
      refine lw_icmp_eq (tgt := 1102) hC dL_law_671 (by decide) (fun hc => ?_) (fun hc => absurd h.1 hc)
      exact go _ _ h.2
    by_cases h14s : o = 14
    · refine lw_tabIn (tgt := 676) (off := 643) (v := 14) hC dL_law_33 h14s (by decide) (by decide) (by decide) (by decide) ?_
      refine lw_aload_n hC dL_law_676 rfl 1 rfl ?_
      refine lw_aload_n hC dL_law_677 rfl 0 rfl ?_
      refine lw_iload_n hC dL_law_678 rfl 3 rfl ?_
      refine lw_iconst (v := 1) hC dL_law_679 (by decide) ?_
      refine lw_iadd hC dL_law_680 ?_
      refine lw_sld hC (ld 1 (by decide)) dL_law_681 ?_
      refine lw_aload_n hC dL_law_682 rfl 0 rfl ?_
      refine lw_iload_n hC dL_law_683 rfl 3 rfl ?_
      refine lw_iconst (v := 2) hC dL_law_684 (by decide) ?_
      refine lw_iadd hC dL_law_685 ?_
      refine lw_sld hC (ld 2 (by decide)) dL_law_686 ?_
      refine lw_aload_n hC dL_law_687 rfl 0 rfl ?_
      refine lw_iload_n hC dL_law_688 rfl 3 rfl ?_
      refine lw_iconst (v := 3) hC dL_law_689 (by decide) ?_
      refine lw_iadd hC dL_law_690 ?_
      refine lw_sld hC (ld 3 (by decide)) dL_law_691 ?_
      have h := hs.2.2.2.2.2.2.2.2.2.2.2.2.2.2.1 M N hR (xs (nI (7 * i) + 1).toNatClampNeg) (xs (nI (7 * i) + 2).toNatClampNeg) (xs (nI (7 * i) + 3).toNatClampNeg)
      refine lw_call1 (As := [.int (xs (nI (7 * i) + 1).toNatClampNeg), .int (xs (nI (7 * i) + 2).toNatClampNeg), .int (xs (nI (7 * i) + 3).toNatClampNeg)]) (rest := []) hC (c_X10_glow h1 h) cv_L_78 rr_L_X10_glow (hc1 _) rfl rfl (Nat.le_of_ble_eq_true rfl) dL_law_692 ?_
      intro r1 M1 h
      refine lw_aload_n hC dL_law_695 rfl 2 rfl ?_
      refine lw_aload_n hC dL_law_696 rfl 0 rfl ?_
      refine lw_iload_n hC dL_law_697 rfl 3 rfl ?_
      refine lw_iconst (v := 1) hC dL_law_698 (by decide) ?_
      refine lw_iadd hC dL_law_699 ?_
      refine lw_sld hC (ld 1 (by decide)) dL_law_700 ?_
      refine lw_aload_n hC dL_law_701 rfl 0 rfl ?_
      refine lw_iload_n hC dL_law_702 rfl 3 rfl ?_
      refine lw_iconst (v := 2) hC dL_law_703 (by decide) ?_
      refine lw_iadd hC dL_law_704 ?_
      refine lw_sld hC (ld 2 (by decide)) dL_law_705 ?_
      refine lw_aload_n hC dL_law_706 rfl 0 rfl ?_
      refine lw_iload_n hC dL_law_707 rfl 3 rfl ?_
      refine lw_iconst (v := 3) hC dL_law_708 (by decide) ?_
      refine lw_iadd hC dL_law_709 ?_
      refine lw_sld hC (ld 3 (by decide)) dL_law_710 ?_
      refine lw_call2 (As := [.int (xs (nI (7 * i) + 1).toNatClampNeg), .int (xs (nI (7 * i) + 2).toNatClampNeg), .int (xs (nI (7 * i) + 3).toNatClampNeg)]) (rest := [.int r1]) hC (c_X11_glow h2 h) cv_L_82 rr_L_X11_glow (hc2 _) rfl rfl (Nat.le_of_ble_eq_true rfl) dL_law_711 ?_
      intro r2 N1 h
      refine lw_icmp_eq (tgt := 1102) hC dL_law_714 (by decide) (fun hc => ?_) (fun hc => absurd h.1 hc)
      exact go _ _ h.2
    by_cases h15s : o = 15
    · refine lw_tabIn (tgt := 719) (off := 686) (v := 15) hC dL_law_33 h15s (by decide) (by decide) (by decide) (by decide) ?_
      refine lw_aload_n hC dL_law_719 rfl 1 rfl ?_
      refine lw_aload_n hC dL_law_720 rfl 0 rfl ?_
      refine lw_iload_n hC dL_law_721 rfl 3 rfl ?_
      refine lw_iconst (v := 1) hC dL_law_722 (by decide) ?_
      refine lw_iadd hC dL_law_723 ?_
      refine lw_sld hC (ld 1 (by decide)) dL_law_724 ?_
      refine lw_aload_n hC dL_law_725 rfl 0 rfl ?_
      refine lw_iload_n hC dL_law_726 rfl 3 rfl ?_
      refine lw_iconst (v := 2) hC dL_law_727 (by decide) ?_
      refine lw_iadd hC dL_law_728 ?_
      refine lw_sld hC (ld 2 (by decide)) dL_law_729 ?_
      refine lw_aload_n hC dL_law_730 rfl 0 rfl ?_
      refine lw_iload_n hC dL_law_731 rfl 3 rfl ?_
      refine lw_iconst (v := 3) hC dL_law_732 (by decide) ?_
      refine lw_iadd hC dL_law_733 ?_
      refine lw_sld hC (ld 3 (by decide)) dL_law_734 ?_
      have h := hs.2.2.2.2.2.2.2.2.2.2.2.2.2.2.2.1 M N hR (xs (nI (7 * i) + 1).toNatClampNeg) (xs (nI (7 * i) + 2).toNatClampNeg) (xs (nI (7 * i) + 3).toNatClampNeg)
      refine lw_call1 (As := [.int (xs (nI (7 * i) + 1).toNatClampNeg), .int (xs (nI (7 * i) + 2).toNatClampNeg), .int (xs (nI (7 * i) + 3).toNatClampNeg)]) (rest := []) hC (c_X10_lit h1 h) cv_L_83 rr_L_X10_lit (hc1 _) rfl rfl (Nat.le_of_ble_eq_true rfl) dL_law_735 ?_
      intro r1 M1 h
      refine lw_aload_n hC dL_law_738 rfl 2 rfl ?_
      refine lw_aload_n hC dL_law_739 rfl 0 rfl ?_
      refine lw_iload_n hC dL_law_740 rfl 3 rfl ?_
      refine lw_iconst (v := 1) hC dL_law_741 (by decide) ?_
      refine lw_iadd hC dL_law_742 ?_
      refine lw_sld hC (ld 1 (by decide)) dL_law_743 ?_
      refine lw_aload_n hC dL_law_744 rfl 0 rfl ?_
      refine lw_iload_n hC dL_law_745 rfl 3 rfl ?_
      refine lw_iconst (v := 2) hC dL_law_746 (by decide) ?_
      refine lw_iadd hC dL_law_747 ?_
      refine lw_sld hC (ld 2 (by decide)) dL_law_748 ?_
      refine lw_aload_n hC dL_law_749 rfl 0 rfl ?_
      refine lw_iload_n hC dL_law_750 rfl 3 rfl ?_
      refine lw_iconst (v := 3) hC dL_law_751 (by decide) ?_
      refine lw_iadd hC dL_law_752 ?_
      refine lw_sld hC (ld 3 (by decide)) dL_law_753 ?_
      refine lw_call2 (As := [.int (xs (nI (7 * i) + 1).toNatClampNeg), .int (xs (nI (7 * i) + 2).toNatClampNeg), .int (xs (nI (7 * i) + 3).toNatClampNeg)]) (rest := [.int r1]) hC (c_X11_lit h2 h) cv_L_86 rr_L_X11_lit (hc2 _) rfl rfl (Nat.le_of_ble_eq_true rfl) dL_law_754 ?_
      intro r2 N1 h
      refine lw_icmp_eq (tgt := 1102) hC dL_law_757 (by decide) (fun hc => ?_) (fun hc => absurd h.1 hc)
      exact go _ _ h.2
    by_cases h16s : o = 16
    · refine lw_tabIn (tgt := 762) (off := 729) (v := 16) hC dL_law_33 h16s (by decide) (by decide) (by decide) (by decide) ?_
      refine lw_aload_n hC dL_law_762 rfl 1 rfl ?_
      refine lw_aload_n hC dL_law_763 rfl 0 rfl ?_
      refine lw_iload_n hC dL_law_764 rfl 3 rfl ?_
      refine lw_iconst (v := 1) hC dL_law_765 (by decide) ?_
      refine lw_iadd hC dL_law_766 ?_
      refine lw_sld hC (ld 1 (by decide)) dL_law_767 ?_
      refine lw_aload_n hC dL_law_768 rfl 0 rfl ?_
      refine lw_iload_n hC dL_law_769 rfl 3 rfl ?_
      refine lw_iconst (v := 2) hC dL_law_770 (by decide) ?_
      refine lw_iadd hC dL_law_771 ?_
      refine lw_sld hC (ld 2 (by decide)) dL_law_772 ?_
      refine lw_aload_n hC dL_law_773 rfl 0 rfl ?_
      refine lw_iload_n hC dL_law_774 rfl 3 rfl ?_
      refine lw_iconst (v := 3) hC dL_law_775 (by decide) ?_
      refine lw_iadd hC dL_law_776 ?_
      refine lw_sld hC (ld 3 (by decide)) dL_law_777 ?_
      have h := hs.2.2.2.2.2.2.2.2.2.2.2.2.2.2.2.2.1 M N hR (xs (nI (7 * i) + 1).toNatClampNeg) (xs (nI (7 * i) + 2).toNatClampNeg) (xs (nI (7 * i) + 3).toNatClampNeg)
      refine lw_call1 (As := [.int (xs (nI (7 * i) + 1).toNatClampNeg), .int (xs (nI (7 * i) + 2).toNatClampNeg), .int (xs (nI (7 * i) + 3).toNatClampNeg)]) (rest := []) hC (c_X10_otherwise h1 h) cv_L_87 rr_L_X10_otherwise (hc1 _) rfl rfl (Nat.le_of_ble_eq_true rfl) dL_law_778 ?_
      intro r1 M1 h
      refine lw_aload_n hC dL_law_781 rfl 2 rfl ?_
      refine lw_aload_n hC dL_law_782 rfl 0 rfl ?_
      refine lw_iload_n hC dL_law_783 rfl 3 rfl ?_
      refine lw_iconst (v := 1) hC dL_law_784 (by decide) ?_
      refine lw_iadd hC dL_law_785 ?_
      refine lw_sld hC (ld 1 (by decide)) dL_law_786 ?_
      refine lw_aload_n hC dL_law_787 rfl 0 rfl ?_
      refine lw_iload_n hC dL_law_788 rfl 3 rfl ?_
      refine lw_iconst (v := 2) hC dL_law_789 (by decide) ?_
      refine lw_iadd hC dL_law_790 ?_
      refine lw_sld hC (ld 2 (by decide)) dL_law_791 ?_
      refine lw_aload_n hC dL_law_792 rfl 0 rfl ?_
      refine lw_iload_n hC dL_law_793 rfl 3 rfl ?_
      refine lw_iconst (v := 3) hC dL_law_794 (by decide) ?_
      refine lw_iadd hC dL_law_795 ?_
      refine lw_sld hC (ld 3 (by decide)) dL_law_796 ?_
      refine lw_call2 (As := [.int (xs (nI (7 * i) + 1).toNatClampNeg), .int (xs (nI (7 * i) + 2).toNatClampNeg), .int (xs (nI (7 * i) + 3).toNatClampNeg)]) (rest := [.int r1]) hC (c_X11_otherwise h2 h) cv_L_90 rr_L_X11_otherwise (hc2 _) rfl rfl (Nat.le_of_ble_eq_true rfl) dL_law_797 ?_
      intro r2 N1 h
      refine lw_icmp_eq (tgt := 1102) hC dL_law_800 (by decide) (fun hc => ?_) (fun hc => absurd h.1 hc)
      exact go _ _ h.2
    by_cases h17s : o = 17
    · refine lw_tabIn (tgt := 805) (off := 772) (v := 17) hC dL_law_33 h17s (by decide) (by decide) (by decide) (by decide) ?_
      refine lw_aload_n hC dL_law_805 rfl 1 rfl ?_
      refine lw_aload_n hC dL_law_806 rfl 0 rfl ?_
      refine lw_iload_n hC dL_law_807 rfl 3 rfl ?_
      refine lw_iconst (v := 1) hC dL_law_808 (by decide) ?_
      refine lw_iadd hC dL_law_809 ?_
      refine lw_sld hC (ld 1 (by decide)) dL_law_810 ?_
      refine lw_aload_n hC dL_law_811 rfl 0 rfl ?_
      refine lw_iload_n hC dL_law_812 rfl 3 rfl ?_
      refine lw_iconst (v := 2) hC dL_law_813 (by decide) ?_
      refine lw_iadd hC dL_law_814 ?_
      refine lw_sld hC (ld 2 (by decide)) dL_law_815 ?_
      have h := hs.2.2.2.2.2.2.2.2.2.2.2.2.2.2.2.2.2.1 M N hR (xs (nI (7 * i) + 1).toNatClampNeg) (xs (nI (7 * i) + 2).toNatClampNeg)
      refine lw_call1 (As := [.int (xs (nI (7 * i) + 1).toNatClampNeg), .int (xs (nI (7 * i) + 2).toNatClampNeg)]) (rest := []) hC (c_X10_caught h1 h) cv_L_91 rr_L_X10_caught (hc1 _) rfl rfl (Nat.le_of_ble_eq_true rfl) dL_law_816 ?_
      intro r1 M1 h
      refine lw_aload_n hC dL_law_819 rfl 2 rfl ?_
      refine lw_aload_n hC dL_law_820 rfl 0 rfl ?_
      refine lw_iload_n hC dL_law_821 rfl 3 rfl ?_
      refine lw_iconst (v := 1) hC dL_law_822 (by decide) ?_
      refine lw_iadd hC dL_law_823 ?_
      refine lw_sld hC (ld 1 (by decide)) dL_law_824 ?_
      refine lw_aload_n hC dL_law_825 rfl 0 rfl ?_
      refine lw_iload_n hC dL_law_826 rfl 3 rfl ?_
      refine lw_iconst (v := 2) hC dL_law_827 (by decide) ?_
      refine lw_iadd hC dL_law_828 ?_
      refine lw_sld hC (ld 2 (by decide)) dL_law_829 ?_
      refine lw_call2 (As := [.int (xs (nI (7 * i) + 1).toNatClampNeg), .int (xs (nI (7 * i) + 2).toNatClampNeg)]) (rest := [.int r1]) hC (c_X11_caught h2 h) cv_L_94 rr_L_X11_caught (hc2 _) rfl rfl (Nat.le_of_ble_eq_true rfl) dL_law_830 ?_
      intro r2 N1 h
      refine lw_icmp_eq (tgt := 1102) hC dL_law_833 (by decide) (fun hc => ?_) (fun hc => absurd h.1 hc)
      exact go _ _ h.2
    by_cases h18s : o = 18
    · refine lw_tabIn (tgt := 838) (off := 805) (v := 18) hC dL_law_33 h18s (by decide) (by decide) (by decide) (by decide) ?_
      refine lw_aload_n hC dL_law_838 rfl 1 rfl ?_
      refine lw_aload_n hC dL_law_839 rfl 0 rfl ?_
      refine lw_iload_n hC dL_law_840 rfl 3 rfl ?_
      refine lw_iconst (v := 1) hC dL_law_841 (by decide) ?_
      refine lw_iadd hC dL_law_842 ?_
      refine lw_sld hC (ld 1 (by decide)) dL_law_843 ?_
      refine lw_aload_n hC dL_law_844 rfl 0 rfl ?_
      refine lw_iload_n hC dL_law_845 rfl 3 rfl ?_
      refine lw_iconst (v := 2) hC dL_law_846 (by decide) ?_
      refine lw_iadd hC dL_law_847 ?_
      refine lw_sld hC (ld 2 (by decide)) dL_law_848 ?_
      have h := hs.2.2.2.2.2.2.2.2.2.2.2.2.2.2.2.2.2.2.1 M N hR (xs (nI (7 * i) + 1).toNatClampNeg) (xs (nI (7 * i) + 2).toNatClampNeg)
      refine lw_call1 (As := [.int (xs (nI (7 * i) + 1).toNatClampNeg), .int (xs (nI (7 * i) + 2).toNatClampNeg)]) (rest := []) hC (c_X10_photo h1 h) cv_L_95 rr_L_X10_photo (hc1 _) rfl rfl (Nat.le_of_ble_eq_true rfl) dL_law_849 ?_
      intro r1 M1 h
      refine lw_aload_n hC dL_law_852 rfl 2 rfl ?_
      refine lw_aload_n hC dL_law_853 rfl 0 rfl ?_
      refine lw_iload_n hC dL_law_854 rfl 3 rfl ?_
      refine lw_iconst (v := 1) hC dL_law_855 (by decide) ?_
      refine lw_iadd hC dL_law_856 ?_
      refine lw_sld hC (ld 1 (by decide)) dL_law_857 ?_
      refine lw_aload_n hC dL_law_858 rfl 0 rfl ?_
      refine lw_iload_n hC dL_law_859 rfl 3 rfl ?_
      refine lw_iconst (v := 2) hC dL_law_860 (by decide) ?_
      refine lw_iadd hC dL_law_861 ?_
      refine lw_sld hC (ld 2 (by decide)) dL_law_862 ?_
      refine lw_call2 (As := [.int (xs (nI (7 * i) + 1).toNatClampNeg), .int (xs (nI (7 * i) + 2).toNatClampNeg)]) (rest := [.int r1]) hC (c_X11_photo h2 h) cv_L_98 rr_L_X11_photo (hc2 _) rfl rfl (Nat.le_of_ble_eq_true rfl) dL_law_863 ?_
      intro r2 N1 h
      refine lw_icmp_eq (tgt := 1102) hC dL_law_866 (by decide) (fun hc => ?_) (fun hc => absurd h.1 hc)
      exact go _ _ h.2
    by_cases h19s : o = 19
    · refine lw_tabIn (tgt := 871) (off := 838) (v := 19) hC dL_law_33 h19s (by decide) (by decide) (by decide) (by decide) ?_
      refine lw_aload_n hC dL_law_871 rfl 1 rfl ?_
      refine lw_aload_n hC dL_law_872 rfl 0 rfl ?_
      refine lw_iload_n hC dL_law_873 rfl 3 rfl ?_
      refine lw_iconst (v := 1) hC dL_law_874 (by decide) ?_
      refine lw_iadd hC dL_law_875 ?_
      refine lw_sld hC (ld 1 (by decide)) dL_law_876 ?_
      refine lw_aload_n hC dL_law_877 rfl 0 rfl ?_
      refine lw_iload_n hC dL_law_878 rfl 3 rfl ?_
      refine lw_iconst (v := 2) hC dL_law_879 (by decide) ?_
      refine lw_iadd hC dL_law_880 ?_
      refine lw_sld hC (ld 2 (by decide)) dL_law_881 ?_
      have h := hs.2.2.2.2.2.2.2.2.2.2.2.2.2.2.2.2.2.2.2.1 M N hR (xs (nI (7 * i) + 1).toNatClampNeg) (xs (nI (7 * i) + 2).toNatClampNeg)
      refine lw_call1 (As := [.int (xs (nI (7 * i) + 1).toNatClampNeg), .int (xs (nI (7 * i) + 2).toNatClampNeg)]) (rest := []) hC (c_X10_shoot h1 h) cv_L_99 rr_L_X10_shoot (hc1 _) rfl rfl (Nat.le_of_ble_eq_true rfl) dL_law_882 ?_
      intro r1 M1 h
      refine lw_aload_n hC dL_law_885 rfl 2 rfl ?_
      refine lw_aload_n hC dL_law_886 rfl 0 rfl ?_
      refine lw_iload_n hC dL_law_887 rfl 3 rfl ?_
      refine lw_iconst (v := 1) hC dL_law_888 (by decide) ?_
      refine lw_iadd hC dL_law_889 ?_
      refine lw_sld hC (ld 1 (by decide)) dL_law_890 ?_
      refine lw_aload_n hC dL_law_891 rfl 0 rfl ?_
      refine lw_iload_n hC dL_law_892 rfl 3 rfl ?_
      refine lw_iconst (v := 2) hC dL_law_893 (by decide) ?_
      refine lw_iadd hC dL_law_894 ?_
      refine lw_sld hC (ld 2 (by decide)) dL_law_895 ?_
      refine lw_call2 (As := [.int (xs (nI (7 * i) + 1).toNatClampNeg), .int (xs (nI (7 * i) + 2).toNatClampNeg)]) (rest := [.int r1]) hC (c_X11_shoot h2 h) cv_L_102 rr_L_X11_shoot (hc2 _) rfl rfl (Nat.le_of_ble_eq_true rfl) dL_law_896 ?_
      intro r2 N1 h
      refine lw_icmp_eq (tgt := 1102) hC dL_law_899 (by decide) (fun hc => ?_) (fun hc => absurd h.1 hc)
      exact go _ _ h.2
    by_cases h20s : o = 20
    · refine lw_tabIn (tgt := 904) (off := 871) (v := 20) hC dL_law_33 h20s (by decide) (by decide) (by decide) (by decide) ?_
      refine lw_aload_n hC dL_law_904 rfl 1 rfl ?_
      refine lw_aload_n hC dL_law_905 rfl 0 rfl ?_
      refine lw_iload_n hC dL_law_906 rfl 3 rfl ?_
      refine lw_iconst (v := 1) hC dL_law_907 (by decide) ?_
      refine lw_iadd hC dL_law_908 ?_
      refine lw_sld hC (ld 1 (by decide)) dL_law_909 ?_
      refine lw_aload_n hC dL_law_910 rfl 0 rfl ?_
      refine lw_iload_n hC dL_law_911 rfl 3 rfl ?_
      refine lw_iconst (v := 2) hC dL_law_912 (by decide) ?_
      refine lw_iadd hC dL_law_913 ?_
      refine lw_sld hC (ld 2 (by decide)) dL_law_914 ?_
      refine lw_aload_n hC dL_law_915 rfl 0 rfl ?_
      refine lw_iload_n hC dL_law_916 rfl 3 rfl ?_
      refine lw_iconst (v := 3) hC dL_law_917 (by decide) ?_
      refine lw_iadd hC dL_law_918 ?_
      refine lw_sld hC (ld 3 (by decide)) dL_law_919 ?_
      have h := hs.2.2.2.2.2.2.2.2.2.2.2.2.2.2.2.2.2.2.2.2.1 M N hR (xs (nI (7 * i) + 1).toNatClampNeg) (xs (nI (7 * i) + 2).toNatClampNeg) (xs (nI (7 * i) + 3).toNatClampNeg)
      refine lw_call1 (As := [.int (xs (nI (7 * i) + 1).toNatClampNeg), .int (xs (nI (7 * i) + 2).toNatClampNeg), .int (xs (nI (7 * i) + 3).toNatClampNeg)]) (rest := []) hC (c_X10_settings h1 h) cv_L_103 rr_L_X10_settings (hc1 _) rfl rfl (Nat.le_of_ble_eq_true rfl) dL_law_920 ?_
      intro r1 M1 h
      refine lw_aload_n hC dL_law_923 rfl 2 rfl ?_
      refine lw_aload_n hC dL_law_924 rfl 0 rfl ?_
      refine lw_iload_n hC dL_law_925 rfl 3 rfl ?_
      refine lw_iconst (v := 1) hC dL_law_926 (by decide) ?_
      refine lw_iadd hC dL_law_927 ?_
      refine lw_sld hC (ld 1 (by decide)) dL_law_928 ?_
      refine lw_aload_n hC dL_law_929 rfl 0 rfl ?_
      refine lw_iload_n hC dL_law_930 rfl 3 rfl ?_
      refine lw_iconst (v := 2) hC dL_law_931 (by decide) ?_
      refine lw_iadd hC dL_law_932 ?_
      refine lw_sld hC (ld 2 (by decide)) dL_law_933 ?_
      refine lw_aload_n hC dL_law_934 rfl 0 rfl ?_
      refine lw_iload_n hC dL_law_935 rfl 3 rfl ?_
      refine lw_iconst (v := 3) hC dL_law_936 (by decide) ?_
      refine lw_iadd hC dL_law_937 ?_
      refine lw_sld hC (ld 3 (by decide)) dL_law_938 ?_
      refine lw_call2 (As := [.int (xs (nI (7 * i) + 1).toNatClampNeg), .int (xs (nI (7 * i) + 2).toNatClampNeg), .int (xs (nI (7 * i) + 3).toNatClampNeg)]) (rest := [.int r1]) hC (c_X11_settings h2 h) cv_L_106 rr_L_X11_settings (hc2 _) rfl rfl (Nat.le_of_ble_eq_true rfl) dL_law_939 ?_
      intro r2 N1 h
      refine lw_icmp_eq (tgt := 1102) hC dL_law_942 (by decide) (fun hc => ?_) (fun hc => absurd h.1 hc)
      exact go _ _ h.2
    by_cases h21s : o = 21
    · refine lw_tabIn (tgt := 947) (off := 914) (v := 21) hC dL_law_33 h21s (by decide) (by decide) (by decide) (by decide) ?_
      refine lw_aload_n hC dL_law_947 rfl 1 rfl ?_
      refine lw_aload_n hC dL_law_948 rfl 0 rfl ?_
      refine lw_iload_n hC dL_law_949 rfl 3 rfl ?_
      refine lw_iconst (v := 1) hC dL_law_950 (by decide) ?_
      refine lw_iadd hC dL_law_951 ?_
      refine lw_sld hC (ld 1 (by decide)) dL_law_952 ?_
      refine lw_aload_n hC dL_law_953 rfl 0 rfl ?_
      refine lw_iload_n hC dL_law_954 rfl 3 rfl ?_
      refine lw_iconst (v := 2) hC dL_law_955 (by decide) ?_
      refine lw_iadd hC dL_law_956 ?_
      refine lw_sld hC (ld 2 (by decide)) dL_law_957 ?_
      refine lw_aload_n hC dL_law_958 rfl 0 rfl ?_
      refine lw_iload_n hC dL_law_959 rfl 3 rfl ?_
      refine lw_iconst (v := 3) hC dL_law_960 (by decide) ?_
      refine lw_iadd hC dL_law_961 ?_
      refine lw_sld hC (ld 3 (by decide)) dL_law_962 ?_
      refine lw_aload_n hC dL_law_963 rfl 0 rfl ?_
      refine lw_iload_n hC dL_law_964 rfl 3 rfl ?_
      refine lw_iconst (v := 4) hC dL_law_965 (by decide) ?_
      refine lw_iadd hC dL_law_966 ?_
      refine lw_sld hC (ld 4 (by decide)) dL_law_967 ?_
      have h := hs.2.2.2.2.2.2.2.2.2.2.2.2.2.2.2.2.2.2.2.2.2.1 M N hR (xs (nI (7 * i) + 1).toNatClampNeg) (xs (nI (7 * i) + 2).toNatClampNeg) (xs (nI (7 * i) + 3).toNatClampNeg) (xs (nI (7 * i) + 4).toNatClampNeg)
      refine lw_call1 (As := [.int (xs (nI (7 * i) + 1).toNatClampNeg), .int (xs (nI (7 * i) + 2).toNatClampNeg), .int (xs (nI (7 * i) + 3).toNatClampNeg), .int (xs (nI (7 * i) + 4).toNatClampNeg)]) (rest := []) hC (c_X10_measure h1 h) cv_L_107 rr_L_X10_measure (hc1 _) rfl rfl (Nat.le_of_ble_eq_true rfl) dL_law_968 ?_
      intro r1 M1 h
      refine lw_aload_n hC dL_law_971 rfl 2 rfl ?_
      refine lw_aload_n hC dL_law_972 rfl 0 rfl ?_
      refine lw_iload_n hC dL_law_973 rfl 3 rfl ?_
      refine lw_iconst (v := 1) hC dL_law_974 (by decide) ?_
      refine lw_iadd hC dL_law_975 ?_
      refine lw_sld hC (ld 1 (by decide)) dL_law_976 ?_
      refine lw_aload_n hC dL_law_977 rfl 0 rfl ?_
      refine lw_iload_n hC dL_law_978 rfl 3 rfl ?_
      refine lw_iconst (v := 2) hC dL_law_979 (by decide) ?_
      refine lw_iadd hC dL_law_980 ?_
      refine lw_sld hC (ld 2 (by decide)) dL_law_981 ?_
      refine lw_aload_n hC dL_law_982 rfl 0 rfl ?_
      refine lw_iload_n hC dL_law_983 rfl 3 rfl ?_
      refine lw_iconst (v := 3) hC dL_law_984 (by decide) ?_
      refine lw_iadd hC dL_law_985 ?_
      refine lw_sld hC (ld 3 (by decide)) dL_law_986 ?_
      refine lw_aload_n hC dL_law_987 rfl 0 rfl ?_
      refine lw_iload_n hC dL_law_988 rfl 3 rfl ?_
      refine lw_iconst (v := 4) hC dL_law_989 (by decide) ?_
      refine lw_iadd hC dL_law_990 ?_
      refine lw_sld hC (ld 4 (by decide)) dL_law_991 ?_
      refine lw_call2 (As := [.int (xs (nI (7 * i) + 1).toNatClampNeg), .int (xs (nI (7 * i) + 2).toNatClampNeg), .int (xs (nI (7 * i) + 3).toNatClampNeg), .int (xs (nI (7 * i) + 4).toNatClampNeg)]) (rest := [.int r1]) hC (c_X11_measure h2 h) cv_L_111 rr_L_X11_measure (hc2 _) rfl rfl (Nat.le_of_ble_eq_true rfl) dL_law_992 ?_
      intro r2 N1 h
      refine lw_icmp_eq (tgt := 1102) hC dL_law_995 (by decide) (fun hc => ?_) (fun hc => absurd h.1 hc)
      exact go _ _ h.2
    by_cases h22s : o = 22
    · refine lw_tabIn (tgt := 1000) (off := 967) (v := 22) hC dL_law_33 h22s (by decide) (by decide) (by decide) (by decide) ?_
      refine lw_aload_n hC dL_law_1000 rfl 1 rfl ?_
      refine lw_aload_n hC dL_law_1001 rfl 0 rfl ?_
      refine lw_iload_n hC dL_law_1002 rfl 3 rfl ?_
      refine lw_iconst (v := 1) hC dL_law_1003 (by decide) ?_
      refine lw_iadd hC dL_law_1004 ?_
      refine lw_sld hC (ld 1 (by decide)) dL_law_1005 ?_
      refine lw_aload_n hC dL_law_1006 rfl 0 rfl ?_
      refine lw_iload_n hC dL_law_1007 rfl 3 rfl ?_
      refine lw_iconst (v := 2) hC dL_law_1008 (by decide) ?_
      refine lw_iadd hC dL_law_1009 ?_
      refine lw_sld hC (ld 2 (by decide)) dL_law_1010 ?_
      refine lw_aload_n hC dL_law_1011 rfl 0 rfl ?_
      refine lw_iload_n hC dL_law_1012 rfl 3 rfl ?_
      refine lw_iconst (v := 3) hC dL_law_1013 (by decide) ?_
      refine lw_iadd hC dL_law_1014 ?_
      refine lw_sld hC (ld 3 (by decide)) dL_law_1015 ?_
      refine lw_aload_n hC dL_law_1016 rfl 0 rfl ?_
      refine lw_iload_n hC dL_law_1017 rfl 3 rfl ?_
      refine lw_iconst (v := 4) hC dL_law_1018 (by decide) ?_
      refine lw_iadd hC dL_law_1019 ?_
      refine lw_sld hC (ld 4 (by decide)) dL_law_1020 ?_
      have h := hs.2.2.2.2.2.2.2.2.2.2.2.2.2.2.2.2.2.2.2.2.2.2.1 M N hR (xs (nI (7 * i) + 1).toNatClampNeg) (xs (nI (7 * i) + 2).toNatClampNeg) (xs (nI (7 * i) + 3).toNatClampNeg) (xs (nI (7 * i) + 4).toNatClampNeg)
      refine lw_call1 (As := [.int (xs (nI (7 * i) + 1).toNatClampNeg), .int (xs (nI (7 * i) + 2).toNatClampNeg), .int (xs (nI (7 * i) + 3).toNatClampNeg), .int (xs (nI (7 * i) + 4).toNatClampNeg)]) (rest := []) hC (c_X10_parting h1 h) cv_L_112 rr_L_X10_parting (hc1 _) rfl rfl (Nat.le_of_ble_eq_true rfl) dL_law_1021 ?_
      intro r1 M1 h
      refine lw_aload_n hC dL_law_1024 rfl 2 rfl ?_
      refine lw_aload_n hC dL_law_1025 rfl 0 rfl ?_
      refine lw_iload_n hC dL_law_1026 rfl 3 rfl ?_
      refine lw_iconst (v := 1) hC dL_law_1027 (by decide) ?_
      refine lw_iadd hC dL_law_1028 ?_
      refine lw_sld hC (ld 1 (by decide)) dL_law_1029 ?_
      refine lw_aload_n hC dL_law_1030 rfl 0 rfl ?_
      refine lw_iload_n hC dL_law_1031 rfl 3 rfl ?_
      refine lw_iconst (v := 2) hC dL_law_1032 (by decide) ?_
      refine lw_iadd hC dL_law_1033 ?_
      refine lw_sld hC (ld 2 (by decide)) dL_law_1034 ?_
      refine lw_aload_n hC dL_law_1035 rfl 0 rfl ?_
      refine lw_iload_n hC dL_law_1036 rfl 3 rfl ?_
      refine lw_iconst (v := 3) hC dL_law_1037 (by decide) ?_
      refine lw_iadd hC dL_law_1038 ?_
      refine lw_sld hC (ld 3 (by decide)) dL_law_1039 ?_
      refine lw_aload_n hC dL_law_1040 rfl 0 rfl ?_
      refine lw_iload_n hC dL_law_1041 rfl 3 rfl ?_
      refine lw_iconst (v := 4) hC dL_law_1042 (by decide) ?_
      refine lw_iadd hC dL_law_1043 ?_
      refine lw_sld hC (ld 4 (by decide)) dL_law_1044 ?_
      refine lw_call2 (As := [.int (xs (nI (7 * i) + 1).toNatClampNeg), .int (xs (nI (7 * i) + 2).toNatClampNeg), .int (xs (nI (7 * i) + 3).toNatClampNeg), .int (xs (nI (7 * i) + 4).toNatClampNeg)]) (rest := [.int r1]) hC (c_X11_parting h2 h) cv_L_115 rr_L_X11_parting (hc2 _) rfl rfl (Nat.le_of_ble_eq_true rfl) dL_law_1045 ?_
      intro r2 N1 h
      refine lw_icmp_eq (tgt := 1102) hC dL_law_1048 (by decide) (fun hc => ?_) (fun hc => absurd h.1 hc)
      exact go _ _ h.2
    by_cases h23s : o = 23
    · refine lw_tabIn (tgt := 1053) (off := 1020) (v := 23) hC dL_law_33 h23s (by decide) (by decide) (by decide) (by decide) ?_
      refine lw_aload_n hC dL_law_1053 rfl 1 rfl ?_
      have h := hs.2.2.2.2.2.2.2.2.2.2.2.2.2.2.2.2.2.2.2.2.2.2.2.1 M N hR
      refine lw_call1 (As := []) (rest := []) hC (c_X10_image h1 h) cv_L_116 rr_L_X10_image (hc1 _) rfl rfl (Nat.le_of_ble_eq_true rfl) dL_law_1054 ?_
      intro r1 M1 h
      refine lw_aload_n hC dL_law_1057 rfl 2 rfl ?_
      refine lw_call2 (As := []) (rest := [.int r1]) hC (c_X11_image h2 h) cv_L_119 rr_L_X11_image (hc2 _) rfl rfl (Nat.le_of_ble_eq_true rfl) dL_law_1058 ?_
      intro r2 N1 h
      refine lw_icmp_eq (tgt := 1102) hC dL_law_1061 (by decide) (fun hc => ?_) (fun hc => absurd h.1 hc)
      exact go _ _ h.2
    by_cases h24s : o = 24
    · refine lw_tabIn (tgt := 1066) (off := 1033) (v := 24) hC dL_law_33 h24s (by decide) (by decide) (by decide) (by decide) ?_
      refine lw_aload_n hC dL_law_1066 rfl 1 rfl ?_
      have h := hs.2.2.2.2.2.2.2.2.2.2.2.2.2.2.2.2.2.2.2.2.2.2.2.2.1 M N hR
      refine lw_call1 (As := []) (rest := []) hC (c_X10_back h1 h) cv_L_120 rr_L_X10_back (hc1 _) rfl rfl (Nat.le_of_ble_eq_true rfl) dL_law_1067 ?_
      intro r1 M1 h
      refine lw_aload_n hC dL_law_1070 rfl 2 rfl ?_
      refine lw_call2 (As := []) (rest := [.int r1]) hC (c_X11_back h2 h) cv_L_123 rr_L_X11_back (hc2 _) rfl rfl (Nat.le_of_ble_eq_true rfl) dL_law_1071 ?_
      intro r2 N1 h
      refine lw_icmp_eq (tgt := 1102) hC dL_law_1074 (by decide) (fun hc => ?_) (fun hc => absurd h.1 hc)
      exact go _ _ h.2
    by_cases h25s : o = 25
    · refine lw_tabIn (tgt := 1079) (off := 1046) (v := 25) hC dL_law_33 h25s (by decide) (by decide) (by decide) (by decide) ?_
      refine lw_aload_n hC dL_law_1079 rfl 1 rfl ?_
      refine lw_aload_n hC dL_law_1080 rfl 0 rfl ?_
      refine lw_iload_n hC dL_law_1081 rfl 3 rfl ?_
      refine lw_iconst (v := 1) hC dL_law_1082 (by decide) ?_
      refine lw_iadd hC dL_law_1083 ?_
      refine lw_sld hC (ld 1 (by decide)) dL_law_1084 ?_
      have h := hs.2.2.2.2.2.2.2.2.2.2.2.2.2.2.2.2.2.2.2.2.2.2.2.2.2 M N hR (xs (nI (7 * i) + 1).toNatClampNeg)
      refine lw_call1 (As := [.int (xs (nI (7 * i) + 1).toNatClampNeg)]) (rest := []) hC (c_X10_about h1 h) cv_L_124 rr_L_X10_about (hc1 _) rfl rfl (Nat.le_of_ble_eq_true rfl) dL_law_1085 ?_
      intro r1 m1 ⟨hm1, h⟩
      rw [hm1]
      refine lw_aload_n hC dL_law_1088 rfl 2 rfl ?_
      refine lw_aload_n hC dL_law_1089 rfl 0 rfl ?_
      refine lw_iload_n hC dL_law_1090 rfl 3 rfl ?_
      refine lw_iconst (v := 1) hC dL_law_1091 (by decide) ?_
      refine lw_iadd hC dL_law_1092 ?_
      refine lw_sld hC (ld 1 (by decide)) dL_law_1093 ?_
      refine lw_call2 (As := [.int (xs (nI (7 * i) + 1).toNatClampNeg)]) (rest := [.int r1]) hC (c_X11_about h2 h) cv_L_127 rr_L_X11_about (hc2 _) rfl rfl (Nat.le_of_ble_eq_true rfl) dL_law_1094 ?_
      intro r2 m2 ⟨hm2, h⟩
      rw [hm2]
      refine lw_icmp_eq (tgt := 1102) hC dL_law_1097 (by decide) (fun hc => ?_) (fun hc => absurd h.1 hc)
      exact go _ _ h.2
    refine lw_tabOut (tgt := 1102) 26 hC dL_law_33 (by decide) (fun j hj => match j, hj with | 0, _ => fun e => h0s (e.trans (by decide)) | 1, _ => fun e => h1s (e.trans (by decide)) | 2, _ => fun e => h2s (e.trans (by decide)) | 3, _ => fun e => h3s (e.trans (by decide)) | 4, _ => fun e => h4s (e.trans (by decide)) | 5, _ => fun e => h5s (e.trans (by decide)) | 6, _ => fun e => h6s (e.trans (by decide)) | 7, _ => fun e => h7s (e.trans (by decide)) | 8, _ => fun e => h8s (e.trans (by decide)) | 9, _ => fun e => h9s (e.trans (by decide)) | 10, _ => fun e => h10s (e.trans (by decide)) | 11, _ => fun e => h11s (e.trans (by decide)) | 12, _ => fun e => h12s (e.trans (by decide)) | 13, _ => fun e => h13s (e.trans (by decide)) | 14, _ => fun e => h14s (e.trans (by decide)) | 15, _ => fun e => h15s (e.trans (by decide)) | 16, _ => fun e => h16s (e.trans (by decide)) | 17, _ => fun e => h17s (e.trans (by decide)) | 18, _ => fun e => h18s (e.trans (by decide)) | 19, _ => fun e => h19s (e.trans (by decide)) | 20, _ => fun e => h20s (e.trans (by decide)) | 21, _ => fun e => h21s (e.trans (by decide)) | 22, _ => fun e => h22s (e.trans (by decide)) | 23, _ => fun e => h23s (e.trans (by decide)) | 24, _ => fun e => h24s (e.trans (by decide)) | 25, _ => fun e => h25s (e.trans (by decide)) | n + 26, hj => absurd hj (by omega)) (by decide) ?_
    exact go _ _ hR
