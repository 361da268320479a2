/-! the law, case by case, by program -/
theorem lc_0 {G : zG} {d b : Nat} {I : Nat → Nat → Int32} {L : Nat → Nat → Int64} {σ : zσ} {x : Int32} (hc : zCl b I L σ) (hr : zRf I L σ) (hi : zIv σ) (o1 : vp_in (x + 1) G.2.2.2.2.2.1) (o2 : vp_in (x + 2) G.2.2.2.2.2.1) (o3 : vp_in (x + 3) G.2.2.2.2.2.1) (o4 : vp_in (x + 4) G.2.2.2.2.2.1) (K : ∀ (b' : Nat) (I' : Nat → Nat → Int32) (L' : Nat → Nat → Int64) (σ' : zσ), zCl b' I' L' σ' → zRf I' L' σ' → zIv σ' → zLz G d 1091 x b' I' L') : zLz G d 180 x b I L := by
  obtain ⟨r, b', I1, L1, I2, L2, σ', c1, c2, h1, h2, h3, h4⟩ := p_hill (G.2.2.2.2.2.2.1 (x + 1).toNatClampNeg) (G.2.2.2.2.2.2.1 (x + 2).toNatClampNeg) d b I L σ hc hr hi
  obtain ⟨v, rfl⟩ := h4.int rfl
  obtain ⟨bf, If, Lf, K⟩ := K b' I2 L2 σ' h1 h2 h3
  refine ⟨bf, If, Lf, ?_⟩
  refine zi_aload_n dL_law_180 rfl rfl ?_
  refine zi_aload_n dL_law_181 rfl rfl ?_
  refine zi_iload_n dL_law_182 rfl rfl ?_
  refine zi_iconst (v := 1) dL_law_183 (by decide) ?_
  refine zi_iadd dL_law_184 ?_
  refine zi_sload dL_law_185 o1 ?_
  refine zi_aload_n dL_law_186 rfl rfl ?_
  refine zi_iload_n dL_law_187 rfl rfl ?_
  refine zi_iconst (v := 2) dL_law_188 (by decide) ?_
  refine zi_iadd dL_law_189 ?_
  refine zi_sload dL_law_190 o2 ?_
  refine zi_callV (d := d + 40) (h := zh b I L) (N := mX11_hill) (i := 0) (av := [.int (G.2.2.2.2.2.2.1 (x + 1).toNatClampNeg), .int (G.2.2.2.2.2.2.1 (x + 2).toNatClampNeg)]) (st := []) (R1 := (some (.int v), zh b' I1 L1)) dL_law_191 okX11_hill u_290 u_291 u_292 zc11 rfl (Nat.le_of_ble_eq_true rfl) arX11_hill rfl (Nat.le_of_ble_eq_true rfl) c1 zR0.w ?_
  show zA G (d + 41) mL_law 194 [some (.ref 2000), some (.ref 0), some (.ref 56), some (.int x)] [.int v] (zh b' I1 L1) _
  refine zi_aload_n dL_law_194 rfl rfl ?_
  refine zi_aload_n dL_law_195 rfl rfl ?_
  refine zi_iload_n dL_law_196 rfl rfl ?_
  refine zi_iconst (v := 1) dL_law_197 (by decide) ?_
  refine zi_iadd dL_law_198 ?_
  refine zi_sload dL_law_199 o1 ?_
  refine zi_aload_n dL_law_200 rfl rfl ?_
  refine zi_iload_n dL_law_201 rfl rfl ?_
  refine zi_iconst (v := 2) dL_law_202 (by decide) ?_
  refine zi_iadd dL_law_203 ?_
  refine zi_sload dL_law_204 o2 ?_
  refine zi_callV (d := d + 40) (h := zh b' I1 L1) (N := mX12_hill) (i := 56) (av := [.int (G.2.2.2.2.2.2.1 (x + 1).toNatClampNeg), .int (G.2.2.2.2.2.2.1 (x + 2).toNatClampNeg)]) (st := [.int v]) (R1 := (some (.int v), zh b' I2 L2)) dL_law_205 okX12_hill u_880 u_881 u_882 zc12 rfl (Nat.le_of_ble_eq_true rfl) arX12_hill rfl (Nat.le_of_ble_eq_true rfl) c2 zR0.w ?_
  show zA G (d + 41) mL_law 208 [some (.ref 2000), some (.ref 0), some (.ref 56), some (.int x)] [.int v, .int v] (zh b' I2 L2) _
  exact zi_icmp_eq (tgt := 1091) dL_law_208 (by decide) (fun _ => K) (fun q => absurd rfl q)
theorem lc_1 {G : zG} {d b : Nat} {I : Nat → Nat → Int32} {L : Nat → Nat → Int64} {σ : zσ} {x : Int32} (hc : zCl b I L σ) (hr : zRf I L σ) (hi : zIv σ) (o1 : vp_in (x + 1) G.2.2.2.2.2.1) (o2 : vp_in (x + 2) G.2.2.2.2.2.1) (o3 : vp_in (x + 3) G.2.2.2.2.2.1) (o4 : vp_in (x + 4) G.2.2.2.2.2.1) (K : ∀ (b' : Nat) (I' : Nat → Nat → Int32) (L' : Nat → Nat → Int64) (σ' : zσ), zCl b' I' L' σ' → zRf I' L' σ' → zIv σ' → zLz G d 1091 x b' I' L') : zLz G d 213 x b I L := by
  obtain ⟨r, b', I1, L1, I2, L2, σ', c1, c2, h1, h2, h3, h4⟩ := p_put (G.2.2.2.2.2.2.1 (x + 1).toNatClampNeg) (G.2.2.2.2.2.2.1 (x + 2).toNatClampNeg) (G.2.2.2.2.2.2.1 (x + 3).toNatClampNeg) (G.2.2.2.2.2.2.1 (x + 4).toNatClampNeg) d b I L σ hc hr hi
  obtain ⟨v, rfl⟩ := h4.int rfl
  obtain ⟨bf, If, Lf, K⟩ := K b' I2 L2 σ' h1 h2 h3
  refine ⟨bf, If, Lf, ?_⟩
  refine zi_aload_n dL_law_213 rfl rfl ?_
  refine zi_aload_n dL_law_214 rfl rfl ?_
  refine zi_iload_n dL_law_215 rfl rfl ?_
  refine zi_iconst (v := 1) dL_law_216 (by decide) ?_
  refine zi_iadd dL_law_217 ?_
  refine zi_sload dL_law_218 o1 ?_
  refine zi_aload_n dL_law_219 rfl rfl ?_
  refine zi_iload_n dL_law_220 rfl rfl ?_
  refine zi_iconst (v := 2) dL_law_221 (by decide) ?_
  refine zi_iadd dL_law_222 ?_
  refine zi_sload dL_law_223 o2 ?_
  refine zi_aload_n dL_law_224 rfl rfl ?_
  refine zi_iload_n dL_law_225 rfl rfl ?_
  refine zi_iconst (v := 3) dL_law_226 (by decide) ?_
  refine zi_iadd dL_law_227 ?_
  refine zi_sload dL_law_228 o3 ?_
  refine zi_aload_n dL_law_229 rfl rfl ?_
  refine zi_iload_n dL_law_230 rfl rfl ?_
  refine zi_iconst (v := 4) dL_law_231 (by decide) ?_
  refine zi_iadd dL_law_232 ?_
  refine zi_sload dL_law_233 o4 ?_
  refine zi_callV (d := d + 40) (h := zh b I L) (N := mX11_put) (i := 0) (av := [.int (G.2.2.2.2.2.2.1 (x + 1).toNatClampNeg), .int (G.2.2.2.2.2.2.1 (x + 2).toNatClampNeg), .int (G.2.2.2.2.2.2.1 (x + 3).toNatClampNeg), .int (G.2.2.2.2.2.2.1 (x + 4).toNatClampNeg)]) (st := []) (R1 := (some (.int v), zh b' I1 L1)) dL_law_234 okX11_put u_301 u_302 u_303 zc11 rfl (Nat.le_of_ble_eq_true rfl) arX11_put rfl (Nat.le_of_ble_eq_true rfl) c1 zR0.w ?_
  show zA G (d + 41) mL_law 237 [some (.ref 2000), some (.ref 0), some (.ref 56), some (.int x)] [.int v] (zh b' I1 L1) _
  refine zi_aload_n dL_law_237 rfl rfl ?_
  refine zi_aload_n dL_law_238 rfl rfl ?_
  refine zi_iload_n dL_law_239 rfl rfl ?_
  refine zi_iconst (v := 1) dL_law_240 (by decide) ?_
  refine zi_iadd dL_law_241 ?_
  refine zi_sload dL_law_242 o1 ?_
  refine zi_aload_n dL_law_243 rfl rfl ?_
  refine zi_iload_n dL_law_244 rfl rfl ?_
  refine zi_iconst (v := 2) dL_law_245 (by decide) ?_
  refine zi_iadd dL_law_246 ?_
  refine zi_sload dL_law_247 o2 ?_
  refine zi_aload_n dL_law_248 rfl rfl ?_
  refine zi_iload_n dL_law_249 rfl rfl ?_
  refine zi_iconst (v := 3) dL_law_250 (by decide) ?_
  refine zi_iadd dL_law_251 ?_
  refine zi_sload dL_law_252 o3 ?_
  refine zi_aload_n dL_law_253 rfl rfl ?_
  refine zi_iload_n dL_law_254 rfl rfl ?_
  refine zi_iconst (v := 4) dL_law_255 (by decide) ?_
  refine zi_iadd dL_law_256 ?_
  refine zi_sload dL_law_257 o4 ?_
  refine zi_callV (d := d + 40) (h := zh b' I1 L1) (N := mX12_put) (i := 56) (av := [.int (G.2.2.2.2.2.2.1 (x + 1).toNatClampNeg), .int (G.2.2.2.2.2.2.1 (x + 2).toNatClampNeg), .int (G.2.2.2.2.2.2.1 (x + 3).toNatClampNeg), .int (G.2.2.2.2.2.2.1 (x + 4).toNatClampNeg)]) (st := [.int v]) (R1 := (some (.int v), zh b' I2 L2)) dL_law_258 okX12_put u_890 u_891 u_892 zc12 rfl (Nat.le_of_ble_eq_true rfl) arX12_put rfl (Nat.le_of_ble_eq_true rfl) c2 zR0.w ?_
  show zA G (d + 41) mL_law 261 [some (.ref 2000), some (.ref 0), some (.ref 56), some (.int x)] [.int v, .int v] (zh b' I2 L2) _
  exact zi_icmp_eq (tgt := 1091) dL_law_261 (by decide) (fun _ => K) (fun q => absurd rfl q)
theorem lc_2 {G : zG} {d b : Nat} {I : Nat → Nat → Int32} {L : Nat → Nat → Int64} {σ : zσ} {x : Int32} (hc : zCl b I L σ) (hr : zRf I L σ) (hi : zIv σ) (o1 : vp_in (x + 1) G.2.2.2.2.2.1) (o2 : vp_in (x + 2) G.2.2.2.2.2.1) (o3 : vp_in (x + 3) G.2.2.2.2.2.1) (o4 : vp_in (x + 4) G.2.2.2.2.2.1) (K : ∀ (b' : Nat) (I' : Nat → Nat → Int32) (L' : Nat → Nat → Int64) (σ' : zσ), zCl b' I' L' σ' → zRf I' L' σ' → zIv σ' → zLz G d 1091 x b' I' L') : zLz G d 266 x b I L := by
  obtain ⟨r, b', I1, L1, I2, L2, σ', c1, c2, h1, h2, h3, h4⟩ := p_at (G.2.2.2.2.2.2.1 (x + 1).toNatClampNeg) (G.2.2.2.2.2.2.1 (x + 2).toNatClampNeg) (G.2.2.2.2.2.2.1 (x + 3).toNatClampNeg) d b I L σ hc hr hi
  obtain ⟨v, rfl⟩ := h4.int rfl
  obtain ⟨bf, If, Lf, K⟩ := K b' I2 L2 σ' h1 h2 h3
  refine ⟨bf, If, Lf, ?_⟩
  refine zi_aload_n dL_law_266 rfl rfl ?_
  refine zi_aload_n dL_law_267 rfl rfl ?_
  refine zi_iload_n dL_law_268 rfl rfl ?_
  refine zi_iconst (v := 1) dL_law_269 (by decide) ?_
  refine zi_iadd dL_law_270 ?_
  refine zi_sload dL_law_271 o1 ?_
  refine zi_aload_n dL_law_272 rfl rfl ?_
  refine zi_iload_n dL_law_273 rfl rfl ?_
  refine zi_iconst (v := 2) dL_law_274 (by decide) ?_
  refine zi_iadd dL_law_275 ?_
  refine zi_sload dL_law_276 o2 ?_
  refine zi_aload_n dL_law_277 rfl rfl ?_
  refine zi_iload_n dL_law_278 rfl rfl ?_
  refine zi_iconst (v := 3) dL_law_279 (by decide) ?_
  refine zi_iadd dL_law_280 ?_
  refine zi_sload dL_law_281 o3 ?_
  refine zi_callV (d := d + 40) (h := zh b I L) (N := mX11_at) (i := 0) (av := [.int (G.2.2.2.2.2.2.1 (x + 1).toNatClampNeg), .int (G.2.2.2.2.2.2.1 (x + 2).toNatClampNeg), .int (G.2.2.2.2.2.2.1 (x + 3).toNatClampNeg)]) (st := []) (R1 := (some (.int v), zh b' I1 L1)) dL_law_282 okX11_at u_317 u_318 u_319 zc11 rfl (Nat.le_of_ble_eq_true rfl) arX11_at rfl (Nat.le_of_ble_eq_true rfl) c1 zR0.w ?_
  show zA G (d + 41) mL_law 285 [some (.ref 2000), some (.ref 0), some (.ref 56), some (.int x)] [.int v] (zh b' I1 L1) _
  refine zi_aload_n dL_law_285 rfl rfl ?_
  refine zi_aload_n dL_law_286 rfl rfl ?_
  refine zi_iload_n dL_law_287 rfl rfl ?_
  refine zi_iconst (v := 1) dL_law_288 (by decide) ?_
  refine zi_iadd dL_law_289 ?_
  refine zi_sload dL_law_290 o1 ?_
  refine zi_aload_n dL_law_291 rfl rfl ?_
  refine zi_iload_n dL_law_292 rfl rfl ?_
  refine zi_iconst (v := 2) dL_law_293 (by decide) ?_
  refine zi_iadd dL_law_294 ?_
  refine zi_sload dL_law_295 o2 ?_
  refine zi_aload_n dL_law_296 rfl rfl ?_
  refine zi_iload_n dL_law_297 rfl rfl ?_
  refine zi_iconst (v := 3) dL_law_298 (by decide) ?_
  refine zi_iadd dL_law_299 ?_
  refine zi_sload dL_law_300 o3 ?_
  refine zi_callV (d := d + 40) (h := zh b' I1 L1) (N := mX12_at) (i := 56) (av := [.int (G.2.2.2.2.2.2.1 (x + 1).toNatClampNeg), .int (G.2.2.2.2.2.2.1 (x + 2).toNatClampNeg), .int (G.2.2.2.2.2.2.1 (x + 3).toNatClampNeg)]) (st := [.int v]) (R1 := (some (.int v), zh b' I2 L2)) dL_law_301 okX12_at u_902 u_903 u_904 zc12 rfl (Nat.le_of_ble_eq_true rfl) arX12_at rfl (Nat.le_of_ble_eq_true rfl) c2 zR0.w ?_
  show zA G (d + 41) mL_law 304 [some (.ref 2000), some (.ref 0), some (.ref 56), some (.int x)] [.int v, .int v] (zh b' I2 L2) _
  exact zi_icmp_eq (tgt := 1091) dL_law_304 (by decide) (fun _ => K) (fun q => absurd rfl q)
theorem lc_3 {G : zG} {d b : Nat} {I : Nat → Nat → Int32} {L : Nat → Nat → Int64} {σ : zσ} {x : Int32} (hc : zCl b I L σ) (hr : zRf I L σ) (hi : zIv σ) (o1 : vp_in (x + 1) G.2.2.2.2.2.1) (o2 : vp_in (x + 2) G.2.2.2.2.2.1) (o3 : vp_in (x + 3) G.2.2.2.2.2.1) (o4 : vp_in (x + 4) G.2.2.2.2.2.1) (K : ∀ (b' : Nat) (I' : Nat → Nat → Int32) (L' : Nat → Nat → Int64) (σ' : zσ), zCl b' I' L' σ' → zRf I' L' σ' → zIv σ' → zLz G d 1091 x b' I' L') : zLz G d 309 x b I L := by
  obtain ⟨r, b', I1, L1, I2, L2, σ', c1, c2, h1, h2, h3, h4⟩ := p_runner (G.2.2.2.2.2.2.1 (x + 1).toNatClampNeg) (G.2.2.2.2.2.2.1 (x + 2).toNatClampNeg) (G.2.2.2.2.2.2.1 (x + 3).toNatClampNeg) d b I L σ hc hr hi
  obtain ⟨v, rfl⟩ := h4.int rfl
  obtain ⟨bf, If, Lf, K⟩ := K b' I2 L2 σ' h1 h2 h3
  refine ⟨bf, If, Lf, ?_⟩
  refine zi_aload_n dL_law_309 rfl rfl ?_
  refine zi_aload_n dL_law_310 rfl rfl ?_
  refine zi_iload_n dL_law_311 rfl rfl ?_
  refine zi_iconst (v := 1) dL_law_312 (by decide) ?_
  refine zi_iadd dL_law_313 ?_
  refine zi_sload dL_law_314 o1 ?_
  refine zi_aload_n dL_law_315 rfl rfl ?_
  refine zi_iload_n dL_law_316 rfl rfl ?_
  refine zi_iconst (v := 2) dL_law_317 (by decide) ?_
  refine zi_iadd dL_law_318 ?_
  refine zi_sload dL_law_319 o2 ?_
  refine zi_aload_n dL_law_320 rfl rfl ?_
  refine zi_iload_n dL_law_321 rfl rfl ?_
  refine zi_iconst (v := 3) dL_law_322 (by decide) ?_
  refine zi_iadd dL_law_323 ?_
  refine zi_sload dL_law_324 o3 ?_
  refine zi_callV (d := d + 40) (h := zh b I L) (N := mX11_runner) (i := 0) (av := [.int (G.2.2.2.2.2.2.1 (x + 1).toNatClampNeg), .int (G.2.2.2.2.2.2.1 (x + 2).toNatClampNeg), .int (G.2.2.2.2.2.2.1 (x + 3).toNatClampNeg)]) (st := []) (R1 := (some (.int v), zh b' I1 L1)) dL_law_325 okX11_runner u_321 u_322 u_323 zc11 rfl (Nat.le_of_ble_eq_true rfl) arX11_runner rfl (Nat.le_of_ble_eq_true rfl) c1 zR0.w ?_
  show zA G (d + 41) mL_law 328 [some (.ref 2000), some (.ref 0), some (.ref 56), some (.int x)] [.int v] (zh b' I1 L1) _
  refine zi_aload_n dL_law_328 rfl rfl ?_
  refine zi_aload_n dL_law_329 rfl rfl ?_
  refine zi_iload_n dL_law_330 rfl rfl ?_
  refine zi_iconst (v := 1) dL_law_331 (by decide) ?_
  refine zi_iadd dL_law_332 ?_
  refine zi_sload dL_law_333 o1 ?_
  refine zi_aload_n dL_law_334 rfl rfl ?_
  refine zi_iload_n dL_law_335 rfl rfl ?_
  refine zi_iconst (v := 2) dL_law_336 (by decide) ?_
  refine zi_iadd dL_law_337 ?_
  refine zi_sload dL_law_338 o2 ?_
  refine zi_aload_n dL_law_339 rfl rfl ?_
  refine zi_iload_n dL_law_340 rfl rfl ?_
  refine zi_iconst (v := 3) dL_law_341 (by decide) ?_
  refine zi_iadd dL_law_342 ?_
  refine zi_sload dL_law_343 o3 ?_
  refine zi_callV (d := d + 40) (h := zh b' I1 L1) (N := mX12_runner) (i := 56) (av := [.int (G.2.2.2.2.2.2.1 (x + 1).toNatClampNeg), .int (G.2.2.2.2.2.2.1 (x + 2).toNatClampNeg), .int (G.2.2.2.2.2.2.1 (x + 3).toNatClampNeg)]) (st := [.int v]) (R1 := (some (.int v), zh b' I2 L2)) dL_law_344 okX12_runner u_906 u_907 u_908 zc12 rfl (Nat.le_of_ble_eq_true rfl) arX12_runner rfl (Nat.le_of_ble_eq_true rfl) c2 zR0.w ?_
  show zA G (d + 41) mL_law 347 [some (.ref 2000), some (.ref 0), some (.ref 56), some (.int x)] [.int v, .int v] (zh b' I2 L2) _
  exact zi_icmp_eq (tgt := 1091) dL_law_347 (by decide) (fun _ => K) (fun q => absurd rfl q)
theorem lc_4 {G : zG} {d b : Nat} {I : Nat → Nat → Int32} {L : Nat → Nat → Int64} {σ : zσ} {x : Int32} (hc : zCl b I L σ) (hr : zRf I L σ) (hi : zIv σ) (o1 : vp_in (x + 1) G.2.2.2.2.2.1) (o2 : vp_in (x + 2) G.2.2.2.2.2.1) (o3 : vp_in (x + 3) G.2.2.2.2.2.1) (o4 : vp_in (x + 4) G.2.2.2.2.2.1) (K : ∀ (b' : Nat) (I' : Nat → Nat → Int32) (L' : Nat → Nat → Int64) (σ' : zσ), zCl b' I' L' σ' → zRf I' L' σ' → zIv σ' → zLz G d 1091 x b' I' L') : zLz G d 352 x b I L := by
  obtain ⟨r, b', I1, L1, I2, L2, σ', c1, c2, h1, h2, h3, h4⟩ := p_line (G.2.2.2.2.2.2.1 (x + 1).toNatClampNeg) (G.2.2.2.2.2.2.1 (x + 2).toNatClampNeg) (G.2.2.2.2.2.2.1 (x + 3).toNatClampNeg) d b I L σ hc hr hi
  obtain ⟨v, rfl⟩ := h4.int rfl
  obtain ⟨bf, If, Lf, K⟩ := K b' I2 L2 σ' h1 h2 h3
  refine ⟨bf, If, Lf, ?_⟩
  refine zi_aload_n dL_law_352 rfl rfl ?_
  refine zi_aload_n dL_law_353 rfl rfl ?_
  refine zi_iload_n dL_law_354 rfl rfl ?_
  refine zi_iconst (v := 1) dL_law_355 (by decide) ?_
  refine zi_iadd dL_law_356 ?_
  refine zi_sload dL_law_357 o1 ?_
  refine zi_aload_n dL_law_358 rfl rfl ?_
  refine zi_iload_n dL_law_359 rfl rfl ?_
  refine zi_iconst (v := 2) dL_law_360 (by decide) ?_
  refine zi_iadd dL_law_361 ?_
  refine zi_sload dL_law_362 o2 ?_
  refine zi_aload_n dL_law_363 rfl rfl ?_
  refine zi_iload_n dL_law_364 rfl rfl ?_
  refine zi_iconst (v := 3) dL_law_365 (by decide) ?_
  refine zi_iadd dL_law_366 ?_
  refine zi_sload dL_law_367 o3 ?_
  refine zi_callV (d := d + 40) (h := zh b I L) (N := mX11_line) (i := 0) (av := [.int (G.2.2.2.2.2.2.1 (x + 1).toNatClampNeg), .int (G.2.2.2.2.2.2.1 (x + 2).toNatClampNeg), .int (G.2.2.2.2.2.2.1 (x + 3).toNatClampNeg)]) (st := []) (R1 := (some (.int v), zh b' I1 L1)) dL_law_368 okX11_line u_336 u_337 u_338 zc11 rfl (Nat.le_of_ble_eq_true rfl) arX11_line rfl (Nat.le_of_ble_eq_true rfl) c1 zR0.w ?_
  show zA G (d + 41) mL_law 371 [some (.ref 2000), some (.ref 0), some (.ref 56), some (.int x)] [.int v] (zh b' I1 L1) _
  refine zi_aload_n dL_law_371 rfl rfl ?_
  refine zi_aload_n dL_law_372 rfl rfl ?_
  refine zi_iload_n dL_law_373 rfl rfl ?_
  refine zi_iconst (v := 1) dL_law_374 (by decide) ?_
  refine zi_iadd dL_law_375 ?_
  refine zi_sload dL_law_376 o1 ?_
  refine zi_aload_n dL_law_377 rfl rfl ?_
  refine zi_iload_n dL_law_378 rfl rfl ?_
  refine zi_iconst (v := 2) dL_law_379 (by decide) ?_
  refine zi_iadd dL_law_380 ?_
  refine zi_sload dL_law_381 o2 ?_
  refine zi_aload_n dL_law_382 rfl rfl ?_
  refine zi_iload_n dL_law_383 rfl rfl ?_
  refine zi_iconst (v := 3) dL_law_384 (by decide) ?_
  refine zi_iadd dL_law_385 ?_
  refine zi_sload dL_law_386 o3 ?_
  refine zi_callV (d := d + 40) (h := zh b' I1 L1) (N := mX12_line) (i := 56) (av := [.int (G.2.2.2.2.2.2.1 (x + 1).toNatClampNeg), .int (G.2.2.2.2.2.2.1 (x + 2).toNatClampNeg), .int (G.2.2.2.2.2.2.1 (x + 3).toNatClampNeg)]) (st := [.int v]) (R1 := (some (.int v), zh b' I2 L2)) dL_law_387 okX12_line u_918 u_919 u_920 zc12 rfl (Nat.le_of_ble_eq_true rfl) arX12_line rfl (Nat.le_of_ble_eq_true rfl) c2 zR0.w ?_
  show zA G (d + 41) mL_law 390 [some (.ref 2000), some (.ref 0), some (.ref 56), some (.int x)] [.int v, .int v] (zh b' I2 L2) _
  exact zi_icmp_eq (tgt := 1091) dL_law_390 (by decide) (fun _ => K) (fun q => absurd rfl q)
theorem lc_5 {G : zG} {d b : Nat} {I : Nat → Nat → Int32} {L : Nat → Nat → Int64} {σ : zσ} {x : Int32} (hc : zCl b I L σ) (hr : zRf I L σ) (hi : zIv σ) (o1 : vp_in (x + 1) G.2.2.2.2.2.1) (o2 : vp_in (x + 2) G.2.2.2.2.2.1) (o3 : vp_in (x + 3) G.2.2.2.2.2.1) (o4 : vp_in (x + 4) G.2.2.2.2.2.1) (K : ∀ (b' : Nat) (I' : Nat → Nat → Int32) (L' : Nat → Nat → Int64) (σ' : zσ), zCl b' I' L' σ' → zRf I' L' σ' → zIv σ' → zLz G d 1091 x b' I' L') : zLz G d 395 x b I L := by
  obtain ⟨r, b', I1, L1, I2, L2, σ', c1, c2, h1, h2, h3, h4⟩ := p_type (((G.2.2.2.2.2.2.1 (x + 1).toNatClampNeg).toInt64 <<< ((32 : Int32).toInt64 &&& 63)) ||| ((G.2.2.2.2.2.2.1 (x + 2).toNatClampNeg).toInt64 &&& 4294967295)) (G.2.2.2.2.2.2.1 (x + 3).toNatClampNeg) d b I L σ hc hr hi
  obtain ⟨v, rfl⟩ := h4.int rfl
  obtain ⟨bf, If, Lf, K⟩ := K b' I2 L2 σ' h1 h2 h3
  refine ⟨bf, If, Lf, ?_⟩
  refine zi_aload_n dL_law_395 rfl rfl ?_
  refine zi_aload_n dL_law_396 rfl rfl ?_
  refine zi_iload_n dL_law_397 rfl rfl ?_
  refine zi_iconst (v := 1) dL_law_398 (by decide) ?_
  refine zi_iadd dL_law_399 ?_
  refine zi_sload dL_law_400 o1 ?_
  refine zi_i2l dL_law_401 ?_
  refine zi_bipush (v := 32) dL_law_402 (by decide) ?_
  refine zi_lshl dL_law_404 ?_
  refine zi_aload_n dL_law_405 rfl rfl ?_
  refine zi_iload_n dL_law_406 rfl rfl ?_
  refine zi_iconst (v := 2) dL_law_407 (by decide) ?_
  refine zi_iadd dL_law_408 ?_
  refine zi_sload dL_law_409 o2 ?_
  refine zi_i2l dL_law_410 ?_
  refine zi_ldc2 dL_law_411 u_1184 ?_
  refine zi_land dL_law_414 ?_
  refine zi_lor dL_law_415 ?_
  refine zi_aload_n dL_law_416 rfl rfl ?_
  refine zi_iload_n dL_law_417 rfl rfl ?_
  refine zi_iconst (v := 3) dL_law_418 (by decide) ?_
  refine zi_iadd dL_law_419 ?_
  refine zi_sload dL_law_420 o3 ?_
  refine zi_callV (d := d + 40) (h := zh b I L) (N := mX11_type) (i := 0) (av := [.long (((G.2.2.2.2.2.2.1 (x + 1).toNatClampNeg).toInt64 <<< ((32 : Int32).toInt64 &&& 63)) ||| ((G.2.2.2.2.2.2.1 (x + 2).toNatClampNeg).toInt64 &&& 4294967295)), .int (G.2.2.2.2.2.2.1 (x + 3).toNatClampNeg)]) (st := []) (R1 := (some (.int v), zh b' I1 L1)) dL_law_421 okX11_type u_346 u_347 u_348 zc11 rfl (Nat.le_of_ble_eq_true rfl) arX11_type rfl (Nat.le_of_ble_eq_true rfl) c1 zR0.w ?_
  show zA G (d + 41) mL_law 424 [some (.ref 2000), some (.ref 0), some (.ref 56), some (.int x)] [.int v] (zh b' I1 L1) _
  refine zi_aload_n dL_law_424 rfl rfl ?_
  refine zi_aload_n dL_law_425 rfl rfl ?_
  refine zi_iload_n dL_law_426 rfl rfl ?_
  refine zi_iconst (v := 1) dL_law_427 (by decide) ?_
  refine zi_iadd dL_law_428 ?_
  refine zi_sload dL_law_429 o1 ?_
  refine zi_i2l dL_law_430 ?_
  refine zi_bipush (v := 32) dL_law_431 (by decide) ?_
  refine zi_lshl dL_law_433 ?_
  refine zi_aload_n dL_law_434 rfl rfl ?_
  refine zi_iload_n dL_law_435 rfl rfl ?_
  refine zi_iconst (v := 2) dL_law_436 (by decide) ?_
  refine zi_iadd dL_law_437 ?_
  refine zi_sload dL_law_438 o2 ?_
  refine zi_i2l dL_law_439 ?_
  refine zi_ldc2 dL_law_440 u_1184 ?_
  refine zi_land dL_law_443 ?_
  refine zi_lor dL_law_444 ?_
  refine zi_aload_n dL_law_445 rfl rfl ?_
  refine zi_iload_n dL_law_446 rfl rfl ?_
  refine zi_iconst (v := 3) dL_law_447 (by decide) ?_
  refine zi_iadd dL_law_448 ?_
  refine zi_sload dL_law_449 o3 ?_
  refine zi_callV (d := d + 40) (h := zh b' I1 L1) (N := mX12_type) (i := 56) (av := [.long (((G.2.2.2.2.2.2.1 (x + 1).toNatClampNeg).toInt64 <<< ((32 : Int32).toInt64 &&& 63)) ||| ((G.2.2.2.2.2.2.1 (x + 2).toNatClampNeg).toInt64 &&& 4294967295)), .int (G.2.2.2.2.2.2.1 (x + 3).toNatClampNeg)]) (st := [.int v]) (R1 := (some (.int v), zh b' I2 L2)) dL_law_450 okX12_type u_931 u_932 u_933 zc12 rfl (Nat.le_of_ble_eq_true rfl) arX12_type rfl (Nat.le_of_ble_eq_true rfl) c2 zR0.w ?_
  show zA G (d + 41) mL_law 453 [some (.ref 2000), some (.ref 0), some (.ref 56), some (.int x)] [.int v, .int v] (zh b' I2 L2) _
  exact zi_icmp_eq (tgt := 1091) dL_law_453 (by decide) (fun _ => K) (fun q => absurd rfl q)
theorem lc_6 {G : zG} {d b : Nat} {I : Nat → Nat → Int32} {L : Nat → Nat → Int64} {σ : zσ} {x : Int32} (hc : zCl b I L σ) (hr : zRf I L σ) (hi : zIv σ) (o1 : vp_in (x + 1) G.2.2.2.2.2.1) (o2 : vp_in (x + 2) G.2.2.2.2.2.1) (o3 : vp_in (x + 3) G.2.2.2.2.2.1) (o4 : vp_in (x + 4) G.2.2.2.2.2.1) (K : ∀ (b' : Nat) (I' : Nat → Nat → Int32) (L' : Nat → Nat → Int64) (σ' : zσ), zCl b' I' L' σ' → zRf I' L' σ' → zIv σ' → zLz G d 1091 x b' I' L') : zLz G d 458 x b I L := by
  obtain ⟨r, b', I1, L1, I2, L2, σ', c1, c2, h1, h2, h3, h4⟩ := p_clear  d b I L σ hc hr hi
  obtain ⟨v, rfl⟩ := h4.int rfl
  obtain ⟨bf, If, Lf, K⟩ := K b' I2 L2 σ' h1 h2 h3
  refine ⟨bf, If, Lf, ?_⟩
  refine zi_aload_n dL_law_458 rfl rfl ?_
  refine zi_callV (d := d + 40) (h := zh b I L) (N := mX11_clear) (i := 0) (av := []) (st := []) (R1 := (some (.int v), zh b' I1 L1)) dL_law_459 okX11_clear u_355 u_356 u_357 zc11 rfl (Nat.le_of_ble_eq_true rfl) arX11_clear rfl (Nat.le_of_ble_eq_true rfl) c1 zR0.w ?_
  show zA G (d + 41) mL_law 462 [some (.ref 2000), some (.ref 0), some (.ref 56), some (.int x)] [.int v] (zh b' I1 L1) _
  refine zi_aload_n dL_law_462 rfl rfl ?_
  refine zi_callV (d := d + 40) (h := zh b' I1 L1) (N := mX12_clear) (i := 56) (av := []) (st := [.int v]) (R1 := (some (.int v), zh b' I2 L2)) dL_law_463 okX12_clear u_936 u_937 u_938 zc12 rfl (Nat.le_of_ble_eq_true rfl) arX12_clear rfl (Nat.le_of_ble_eq_true rfl) c2 zR0.w ?_
  show zA G (d + 41) mL_law 466 [some (.ref 2000), some (.ref 0), some (.ref 56), some (.int x)] [.int v, .int v] (zh b' I2 L2) _
  exact zi_icmp_eq (tgt := 1091) dL_law_466 (by decide) (fun _ => K) (fun q => absurd rfl q)
theorem lc_7 {G : zG} {d b : Nat} {I : Nat → Nat → Int32} {L : Nat → Nat → Int64} {σ : zσ} {x : Int32} (hc : zCl b I L σ) (hr : zRf I L σ) (hi : zIv σ) (o1 : vp_in (x + 1) G.2.2.2.2.2.1) (o2 : vp_in (x + 2) G.2.2.2.2.2.1) (o3 : vp_in (x + 3) G.2.2.2.2.2.1) (o4 : vp_in (x + 4) G.2.2.2.2.2.1) (K : ∀ (b' : Nat) (I' : Nat → Nat → Int32) (L' : Nat → Nat → Int64) (σ' : zσ), zCl b' I' L' σ' → zRf I' L' σ' → zIv σ' → zLz G d 1091 x b' I' L') : zLz G d 471 x b I L := by
  obtain ⟨r, b', I1, L1, I2, L2, σ', c1, c2, h1, h2, h3, h4⟩ := p_read  d b I L σ hc hr hi
  obtain ⟨v, rfl⟩ := h4.int rfl
  obtain ⟨bf, If, Lf, K⟩ := K b' I2 L2 σ' h1 h2 h3
  refine ⟨bf, If, Lf, ?_⟩
  refine zi_aload_n dL_law_471 rfl rfl ?_
  refine zi_callV (d := d + 40) (h := zh b I L) (N := mX11_read) (i := 0) (av := []) (st := []) (R1 := (some (.int v), zh b' I1 L1)) dL_law_472 okX11_read u_359 u_360 u_361 zc11 rfl (Nat.le_of_ble_eq_true rfl) arX11_read rfl (Nat.le_of_ble_eq_true rfl) c1 zR0.w ?_
  show zA G (d + 41) mL_law 475 [some (.ref 2000), some (.ref 0), some (.ref 56), some (.int x)] [.int v] (zh b' I1 L1) _
  refine zi_aload_n dL_law_475 rfl rfl ?_
  refine zi_callV (d := d + 40) (h := zh b' I1 L1) (N := mX12_read) (i := 56) (av := []) (st := [.int v]) (R1 := (some (.int v), zh b' I2 L2)) dL_law_476 okX12_read u_940 u_941 u_942 zc12 rfl (Nat.le_of_ble_eq_true rfl) arX12_read rfl (Nat.le_of_ble_eq_true rfl) c2 zR0.w ?_
  show zA G (d + 41) mL_law 479 [some (.ref 2000), some (.ref 0), some (.ref 56), some (.int x)] [.int v, .int v] (zh b' I2 L2) _
  exact zi_icmp_eq (tgt := 1091) dL_law_479 (by decide) (fun _ => K) (fun q => absurd rfl q)
theorem lc_8 {G : zG} {d b : Nat} {I : Nat → Nat → Int32} {L : Nat → Nat → Int64} {σ : zσ} {x : Int32} (hc : zCl b I L σ) (hr : zRf I L σ) (hi : zIv σ) (o1 : vp_in (x + 1) G.2.2.2.2.2.1) (o2 : vp_in (x + 2) G.2.2.2.2.2.1) (o3 : vp_in (x + 3) G.2.2.2.2.2.1) (o4 : vp_in (x + 4) G.2.2.2.2.2.1) (K : ∀ (b' : Nat) (I' : Nat → Nat → Int32) (L' : Nat → Nat → Int64) (σ' : zσ), zCl b' I' L' σ' → zRf I' L' σ' → zIv σ' → zLz G d 1091 x b' I' L') : zLz G d 484 x b I L := by
  obtain ⟨r, b', I1, L1, I2, L2, σ', c1, c2, h1, h2, h3, h4⟩ := p_goes (G.2.2.2.2.2.2.1 (x + 1).toNatClampNeg) (G.2.2.2.2.2.2.1 (x + 2).toNatClampNeg) (G.2.2.2.2.2.2.1 (x + 3).toNatClampNeg) d b I L σ hc hr hi
  obtain ⟨v, rfl⟩ := h4.int rfl
  obtain ⟨bf, If, Lf, K⟩ := K b' I2 L2 σ' h1 h2 h3
  refine ⟨bf, If, Lf, ?_⟩
  refine zi_aload_n dL_law_484 rfl rfl ?_
  refine zi_aload_n dL_law_485 rfl rfl ?_
  refine zi_iload_n dL_law_486 rfl rfl ?_
  refine zi_iconst (v := 1) dL_law_487 (by decide) ?_
  refine zi_iadd dL_law_488 ?_
  refine zi_sload dL_law_489 o1 ?_
  refine zi_aload_n dL_law_490 rfl rfl ?_
  refine zi_iload_n dL_law_491 rfl rfl ?_
  refine zi_iconst (v := 2) dL_law_492 (by decide) ?_
  refine zi_iadd dL_law_493 ?_
  refine zi_sload dL_law_494 o2 ?_
  refine zi_aload_n dL_law_495 rfl rfl ?_
  refine zi_iload_n dL_law_496 rfl rfl ?_
  refine zi_iconst (v := 3) dL_law_497 (by decide) ?_
  refine zi_iadd dL_law_498 ?_
  refine zi_sload dL_law_499 o3 ?_
  refine zi_callV (d := d + 40) (h := zh b I L) (N := mX11_goes) (i := 0) (av := [.int (G.2.2.2.2.2.2.1 (x + 1).toNatClampNeg), .int (G.2.2.2.2.2.2.1 (x + 2).toNatClampNeg), .int (G.2.2.2.2.2.2.1 (x + 3).toNatClampNeg)]) (st := []) (R1 := (some (.int v), zh b' I1 L1)) dL_law_500 okX11_goes u_465 u_466 u_467 zc11 rfl (Nat.le_of_ble_eq_true rfl) arX11_goes rfl (Nat.le_of_ble_eq_true rfl) c1 zR0.w ?_
  show zA G (d + 41) mL_law 503 [some (.ref 2000), some (.ref 0), some (.ref 56), some (.int x)] [.int v] (zh b' I1 L1) _
  refine zi_aload_n dL_law_503 rfl rfl ?_
  refine zi_aload_n dL_law_504 rfl rfl ?_
  refine zi_iload_n dL_law_505 rfl rfl ?_
  refine zi_iconst (v := 1) dL_law_506 (by decide) ?_
  refine zi_iadd dL_law_507 ?_
  refine zi_sload dL_law_508 o1 ?_
  refine zi_aload_n dL_law_509 rfl rfl ?_
  refine zi_iload_n dL_law_510 rfl rfl ?_
  refine zi_iconst (v := 2) dL_law_511 (by decide) ?_
  refine zi_iadd dL_law_512 ?_
  refine zi_sload dL_law_513 o2 ?_
  refine zi_aload_n dL_law_514 rfl rfl ?_
  refine zi_iload_n dL_law_515 rfl rfl ?_
  refine zi_iconst (v := 3) dL_law_516 (by decide) ?_
  refine zi_iadd dL_law_517 ?_
  refine zi_sload dL_law_518 o3 ?_
  refine zi_callV (d := d + 40) (h := zh b' I1 L1) (N := mX12_goes) (i := 56) (av := [.int (G.2.2.2.2.2.2.1 (x + 1).toNatClampNeg), .int (G.2.2.2.2.2.2.1 (x + 2).toNatClampNeg), .int (G.2.2.2.2.2.2.1 (x + 3).toNatClampNeg)]) (st := [.int v]) (R1 := (some (.int v), zh b' I2 L2)) dL_law_519 okX12_goes u_996 u_997 u_998 zc12 rfl (Nat.le_of_ble_eq_true rfl) arX12_goes rfl (Nat.le_of_ble_eq_true rfl) c2 zR0.w ?_
  show zA G (d + 41) mL_law 522 [some (.ref 2000), some (.ref 0), some (.ref 56), some (.int x)] [.int v, .int v] (zh b' I2 L2) _
  exact zi_icmp_eq (tgt := 1091) dL_law_522 (by decide) (fun _ => K) (fun q => absurd rfl q)
theorem lc_9 {G : zG} {d b : Nat} {I : Nat → Nat → Int32} {L : Nat → Nat → Int64} {σ : zσ} {x : Int32} (hc : zCl b I L σ) (hr : zRf I L σ) (hi : zIv σ) (o1 : vp_in (x + 1) G.2.2.2.2.2.1) (o2 : vp_in (x + 2) G.2.2.2.2.2.1) (o3 : vp_in (x + 3) G.2.2.2.2.2.1) (o4 : vp_in (x + 4) G.2.2.2.2.2.1) (K : ∀ (b' : Nat) (I' : Nat → Nat → Int32) (L' : Nat → Nat → Int64) (σ' : zσ), zCl b' I' L' σ' → zRf I' L' σ' → zIv σ' → zLz G d 1091 x b' I' L') : zLz G d 527 x b I L := by
  obtain ⟨r, b', I1, L1, I2, L2, σ', c1, c2, h1, h2, h3, h4⟩ := p_down (G.2.2.2.2.2.2.1 (x + 1).toNatClampNeg) (G.2.2.2.2.2.2.1 (x + 2).toNatClampNeg) d b I L σ hc hr hi
  obtain ⟨v, rfl⟩ := h4.int rfl
  obtain ⟨bf, If, Lf, K⟩ := K b' I2 L2 σ' h1 h2 h3
  refine ⟨bf, If, Lf, ?_⟩
  refine zi_aload_n dL_law_527 rfl rfl ?_
  refine zi_aload_n dL_law_528 rfl rfl ?_
  refine zi_iload_n dL_law_529 rfl rfl ?_
  refine zi_iconst (v := 1) dL_law_530 (by decide) ?_
  refine zi_iadd dL_law_531 ?_
  refine zi_sload dL_law_532 o1 ?_
  refine zi_aload_n dL_law_533 rfl rfl ?_
  refine zi_iload_n dL_law_534 rfl rfl ?_
  refine zi_iconst (v := 2) dL_law_535 (by decide) ?_
  refine zi_iadd dL_law_536 ?_
  refine zi_sload dL_law_537 o2 ?_
  refine zi_callV (d := d + 40) (h := zh b I L) (N := mX11_down) (i := 0) (av := [.int (G.2.2.2.2.2.2.1 (x + 1).toNatClampNeg), .int (G.2.2.2.2.2.2.1 (x + 2).toNatClampNeg)]) (st := []) (R1 := (some (.int v), zh b' I1 L1)) dL_law_538 okX11_down u_558 u_559 u_560 zc11 rfl (Nat.le_of_ble_eq_true rfl) arX11_down rfl (Nat.le_of_ble_eq_true rfl) c1 zR0.w ?_
  show zA G (d + 41) mL_law 541 [some (.ref 2000), some (.ref 0), some (.ref 56), some (.int x)] [.int v] (zh b' I1 L1) _
  refine zi_aload_n dL_law_541 rfl rfl ?_
  refine zi_aload_n dL_law_542 rfl rfl ?_
  refine zi_iload_n dL_law_543 rfl rfl ?_
  refine zi_iconst (v := 1) dL_law_544 (by decide) ?_
  refine zi_iadd dL_law_545 ?_
  refine zi_sload dL_law_546 o1 ?_
  refine zi_aload_n dL_law_547 rfl rfl ?_
  refine zi_iload_n dL_law_548 rfl rfl ?_
  refine zi_iconst (v := 2) dL_law_549 (by decide) ?_
  refine zi_iadd dL_law_550 ?_
  refine zi_sload dL_law_551 o2 ?_
  refine zi_callV (d := d + 40) (h := zh b' I1 L1) (N := mX12_down) (i := 56) (av := [.int (G.2.2.2.2.2.2.1 (x + 1).toNatClampNeg), .int (G.2.2.2.2.2.2.1 (x + 2).toNatClampNeg)]) (st := [.int v]) (R1 := (some (.int v), zh b' I2 L2)) dL_law_552 okX12_down u_1021 u_1022 u_1023 zc12 rfl (Nat.le_of_ble_eq_true rfl) arX12_down rfl (Nat.le_of_ble_eq_true rfl) c2 zR0.w ?_
  show zA G (d + 41) mL_law 555 [some (.ref 2000), some (.ref 0), some (.ref 56), some (.int x)] [.int v, .int v] (zh b' I2 L2) _
  exact zi_icmp_eq (tgt := 1091) dL_law_555 (by decide) (fun _ => K) (fun q => absurd rfl q)
theorem lc_10 {G : zG} {d b : Nat} {I : Nat → Nat → Int32} {L : Nat → Nat → Int64} {σ : zσ} {x : Int32} (hc : zCl b I L σ) (hr : zRf I L σ) (hi : zIv σ) (o1 : vp_in (x + 1) G.2.2.2.2.2.1) (o2 : vp_in (x + 2) G.2.2.2.2.2.1) (o3 : vp_in (x + 3) G.2.2.2.2.2.1) (o4 : vp_in (x + 4) G.2.2.2.2.2.1) (K : ∀ (b' : Nat) (I' : Nat → Nat → Int32) (L' : Nat → Nat → Int64) (σ' : zσ), zCl b' I' L' σ' → zRf I' L' σ' → zIv σ' → zLz G d 1091 x b' I' L') : zLz G d 560 x b I L := by
  obtain ⟨r, b', I1, L1, I2, L2, σ', c1, c2, h1, h2, h3, h4⟩ := p_best (G.2.2.2.2.2.2.1 (x + 1).toNatClampNeg) (G.2.2.2.2.2.2.1 (x + 2).toNatClampNeg) (G.2.2.2.2.2.2.1 (x + 3).toNatClampNeg) d b I L σ hc hr hi
  obtain ⟨v, rfl⟩ := h4.int rfl
  obtain ⟨bf, If, Lf, K⟩ := K b' I2 L2 σ' h1 h2 h3
  refine ⟨bf, If, Lf, ?_⟩
  refine zi_aload_n dL_law_560 rfl rfl ?_
  refine zi_aload_n dL_law_561 rfl rfl ?_
  refine zi_iload_n dL_law_562 rfl rfl ?_
  refine zi_iconst (v := 1) dL_law_563 (by decide) ?_
  refine zi_iadd dL_law_564 ?_
  refine zi_sload dL_law_565 o1 ?_
  refine zi_aload_n dL_law_566 rfl rfl ?_
  refine zi_iload_n dL_law_567 rfl rfl ?_
  refine zi_iconst (v := 2) dL_law_568 (by decide) ?_
  refine zi_iadd dL_law_569 ?_
  refine zi_sload dL_law_570 o2 ?_
  refine zi_aload_n dL_law_571 rfl rfl ?_
  refine zi_iload_n dL_law_572 rfl rfl ?_
  refine zi_iconst (v := 3) dL_law_573 (by decide) ?_
  refine zi_iadd dL_law_574 ?_
  refine zi_sload dL_law_575 o3 ?_
  refine zi_callV (d := d + 40) (h := zh b I L) (N := mX11_best) (i := 0) (av := [.int (G.2.2.2.2.2.2.1 (x + 1).toNatClampNeg), .int (G.2.2.2.2.2.2.1 (x + 2).toNatClampNeg), .int (G.2.2.2.2.2.2.1 (x + 3).toNatClampNeg)]) (st := []) (R1 := (some (.int v), zh b' I1 L1)) dL_law_576 okX11_best u_570 u_571 u_572 zc11 rfl (Nat.le_of_ble_eq_true rfl) arX11_best rfl (Nat.le_of_ble_eq_true rfl) c1 zR0.w ?_
  show zA G (d + 41) mL_law 579 [some (.ref 2000), some (.ref 0), some (.ref 56), some (.int x)] [.int v] (zh b' I1 L1) _
  refine zi_aload_n dL_law_579 rfl rfl ?_
  refine zi_aload_n dL_law_580 rfl rfl ?_
  refine zi_iload_n dL_law_581 rfl rfl ?_
  refine zi_iconst (v := 1) dL_law_582 (by decide) ?_
  refine zi_iadd dL_law_583 ?_
  refine zi_sload dL_law_584 o1 ?_
  refine zi_aload_n dL_law_585 rfl rfl ?_
  refine zi_iload_n dL_law_586 rfl rfl ?_
  refine zi_iconst (v := 2) dL_law_587 (by decide) ?_
  refine zi_iadd dL_law_588 ?_
  refine zi_sload dL_law_589 o2 ?_
  refine zi_aload_n dL_law_590 rfl rfl ?_
  refine zi_iload_n dL_law_591 rfl rfl ?_
  refine zi_iconst (v := 3) dL_law_592 (by decide) ?_
  refine zi_iadd dL_law_593 ?_
  refine zi_sload dL_law_594 o3 ?_
  refine zi_callV (d := d + 40) (h := zh b' I1 L1) (N := mX12_best) (i := 56) (av := [.int (G.2.2.2.2.2.2.1 (x + 1).toNatClampNeg), .int (G.2.2.2.2.2.2.1 (x + 2).toNatClampNeg), .int (G.2.2.2.2.2.2.1 (x + 3).toNatClampNeg)]) (st := [.int v]) (R1 := (some (.int v), zh b' I2 L2)) dL_law_595 okX12_best u_1029 u_1030 u_1031 zc12 rfl (Nat.le_of_ble_eq_true rfl) arX12_best rfl (Nat.le_of_ble_eq_true rfl) c2 zR0.w ?_
  show zA G (d + 41) mL_law 598 [some (.ref 2000), some (.ref 0), some (.ref 56), some (.int x)] [.int v, .int v] (zh b' I2 L2) _
  exact zi_icmp_eq (tgt := 1091) dL_law_598 (by decide) (fun _ => K) (fun q => absurd rfl q)
theorem lc_11 {G : zG} {d b : Nat} {I : Nat → Nat → Int32} {L : Nat → Nat → Int64} {σ : zσ} {x : Int32} (hc : zCl b I L σ) (hr : zRf I L σ) (hi : zIv σ) (o1 : vp_in (x + 1) G.2.2.2.2.2.1) (o2 : vp_in (x + 2) G.2.2.2.2.2.1) (o3 : vp_in (x + 3) G.2.2.2.2.2.1) (o4 : vp_in (x + 4) G.2.2.2.2.2.1) (K : ∀ (b' : Nat) (I' : Nat → Nat → Int32) (L' : Nat → Nat → Int64) (σ' : zσ), zCl b' I' L' σ' → zRf I' L' σ' → zIv σ' → zLz G d 1091 x b' I' L') : zLz G d 603 x b I L := by
  obtain ⟨r, b', I1, L1, I2, L2, σ', c1, c2, h1, h2, h3, h4⟩ := p_fall (G.2.2.2.2.2.2.1 (x + 1).toNatClampNeg) (G.2.2.2.2.2.2.1 (x + 2).toNatClampNeg) d b I L σ hc hr hi
  obtain ⟨v, rfl⟩ := h4.int rfl
  obtain ⟨bf, If, Lf, K⟩ := K b' I2 L2 σ' h1 h2 h3
  refine ⟨bf, If, Lf, ?_⟩
  refine zi_aload_n dL_law_603 rfl rfl ?_
  refine zi_aload_n dL_law_604 rfl rfl ?_
  refine zi_iload_n dL_law_605 rfl rfl ?_
  refine zi_iconst (v := 1) dL_law_606 (by decide) ?_
  refine zi_iadd dL_law_607 ?_
  refine zi_sload dL_law_608 o1 ?_
  refine zi_aload_n dL_law_609 rfl rfl ?_
  refine zi_iload_n dL_law_610 rfl rfl ?_
  refine zi_iconst (v := 2) dL_law_611 (by decide) ?_
  refine zi_iadd dL_law_612 ?_
  refine zi_sload dL_law_613 o2 ?_
  refine zi_callV (d := d + 40) (h := zh b I L) (N := mX11_fall) (i := 0) (av := [.int (G.2.2.2.2.2.2.1 (x + 1).toNatClampNeg), .int (G.2.2.2.2.2.2.1 (x + 2).toNatClampNeg)]) (st := []) (R1 := (some (.int v), zh b' I1 L1)) dL_law_614 okX11_fall u_597 u_598 u_599 zc11 rfl (Nat.le_of_ble_eq_true rfl) arX11_fall rfl (Nat.le_of_ble_eq_true rfl) c1 zR0.w ?_
  show zA G (d + 41) mL_law 617 [some (.ref 2000), some (.ref 0), some (.ref 56), some (.int x)] [.int v] (zh b' I1 L1) _
  refine zi_aload_n dL_law_617 rfl rfl ?_
  refine zi_aload_n dL_law_618 rfl rfl ?_
  refine zi_iload_n dL_law_619 rfl rfl ?_
  refine zi_iconst (v := 1) dL_law_620 (by decide) ?_
  refine zi_iadd dL_law_621 ?_
  refine zi_sload dL_law_622 o1 ?_
  refine zi_aload_n dL_law_623 rfl rfl ?_
  refine zi_iload_n dL_law_624 rfl rfl ?_
  refine zi_iconst (v := 2) dL_law_625 (by decide) ?_
  refine zi_iadd dL_law_626 ?_
  refine zi_sload dL_law_627 o2 ?_
  refine zi_callV (d := d + 40) (h := zh b' I1 L1) (N := mX12_fall) (i := 56) (av := [.int (G.2.2.2.2.2.2.1 (x + 1).toNatClampNeg), .int (G.2.2.2.2.2.2.1 (x + 2).toNatClampNeg)]) (st := [.int v]) (R1 := (some (.int v), zh b' I2 L2)) dL_law_628 okX12_fall u_1042 u_1043 u_1044 zc12 rfl (Nat.le_of_ble_eq_true rfl) arX12_fall rfl (Nat.le_of_ble_eq_true rfl) c2 zR0.w ?_
  show zA G (d + 41) mL_law 631 [some (.ref 2000), some (.ref 0), some (.ref 56), some (.int x)] [.int v, .int v] (zh b' I2 L2) _
  exact zi_icmp_eq (tgt := 1091) dL_law_631 (by decide) (fun _ => K) (fun q => absurd rfl q)
theorem lc_12 {G : zG} {d b : Nat} {I : Nat → Nat → Int32} {L : Nat → Nat → Int64} {σ : zσ} {x : Int32} (hc : zCl b I L σ) (hr : zRf I L σ) (hi : zIv σ) (o1 : vp_in (x + 1) G.2.2.2.2.2.1) (o2 : vp_in (x + 2) G.2.2.2.2.2.1) (o3 : vp_in (x + 3) G.2.2.2.2.2.1) (o4 : vp_in (x + 4) G.2.2.2.2.2.1) (K : ∀ (b' : Nat) (I' : Nat → Nat → Int32) (L' : Nat → Nat → Int64) (σ' : zσ), zCl b' I' L' σ' → zRf I' L' σ' → zIv σ' → zLz G d 1091 x b' I' L') : zLz G d 636 x b I L := by
  obtain ⟨r, b', I1, L1, I2, L2, σ', c1, c2, h1, h2, h3, h4⟩ := p_place (G.2.2.2.2.2.2.1 (x + 1).toNatClampNeg) d b I L σ hc hr hi
  obtain ⟨v, rfl⟩ := h4.int rfl
  obtain ⟨bf, If, Lf, K⟩ := K b' I2 L2 σ' h1 h2 h3
  refine ⟨bf, If, Lf, ?_⟩
  refine zi_aload_n dL_law_636 rfl rfl ?_
  refine zi_aload_n dL_law_637 rfl rfl ?_
  refine zi_iload_n dL_law_638 rfl rfl ?_
  refine zi_iconst (v := 1) dL_law_639 (by decide) ?_
  refine zi_iadd dL_law_640 ?_
  refine zi_sload dL_law_641 o1 ?_
  refine zi_callV (d := d + 40) (h := zh b I L) (N := mX11_place) (i := 0) (av := [.int (G.2.2.2.2.2.2.1 (x + 1).toNatClampNeg)]) (st := []) (R1 := (some (.int v), zh b' I1 L1)) dL_law_642 okX11_place u_605 u_606 u_607 zc11 rfl (Nat.le_of_ble_eq_true rfl) arX11_place rfl (Nat.le_of_ble_eq_true rfl) c1 zR0.w ?_
  show zA G (d + 41) mL_law 645 [some (.ref 2000), some (.ref 0), some (.ref 56), some (.int x)] [.int v] (zh b' I1 L1) _
  refine zi_aload_n dL_law_645 rfl rfl ?_
  refine zi_aload_n dL_law_646 rfl rfl ?_
  refine zi_iload_n dL_law_647 rfl rfl ?_
  refine zi_iconst (v := 1) dL_law_648 (by decide) ?_
  refine zi_iadd dL_law_649 ?_
  refine zi_sload dL_law_650 o1 ?_
  refine zi_callV (d := d + 40) (h := zh b' I1 L1) (N := mX12_place) (i := 56) (av := [.int (G.2.2.2.2.2.2.1 (x + 1).toNatClampNeg)]) (st := [.int v]) (R1 := (some (.int v), zh b' I2 L2)) dL_law_651 okX12_place u_1046 u_1047 u_1048 zc12 rfl (Nat.le_of_ble_eq_true rfl) arX12_place rfl (Nat.le_of_ble_eq_true rfl) c2 zR0.w ?_
  show zA G (d + 41) mL_law 654 [some (.ref 2000), some (.ref 0), some (.ref 56), some (.int x)] [.int v, .int v] (zh b' I2 L2) _
  exact zi_icmp_eq (tgt := 1091) dL_law_654 (by decide) (fun _ => K) (fun q => absurd rfl q)
theorem lc_13 {G : zG} {d b : Nat} {I : Nat → Nat → Int32} {L : Nat → Nat → Int64} {σ : zσ} {x : Int32} (hc : zCl b I L σ) (hr : zRf I L σ) (hi : zIv σ) (o1 : vp_in (x + 1) G.2.2.2.2.2.1) (o2 : vp_in (x + 2) G.2.2.2.2.2.1) (o3 : vp_in (x + 3) G.2.2.2.2.2.1) (o4 : vp_in (x + 4) G.2.2.2.2.2.1) (K : ∀ (b' : Nat) (I' : Nat → Nat → Int32) (L' : Nat → Nat → Int64) (σ' : zσ), zCl b' I' L' σ' → zRf I' L' σ' → zIv σ' → zLz G d 1091 x b' I' L') : zLz G d 659 x b I L := by
  obtain ⟨r, b', I1, L1, I2, L2, σ', c1, c2, h1, h2, h3, h4⟩ := p_clashes  d b I L σ hc hr hi
  obtain ⟨v, rfl⟩ := h4.int rfl
  obtain ⟨bf, If, Lf, K⟩ := K b' I2 L2 σ' h1 h2 h3
  refine ⟨bf, If, Lf, ?_⟩
  refine zi_aload_n dL_law_659 rfl rfl ?_
  refine zi_callV (d := d + 40) (h := zh b I L) (N := mX11_clashes) (i := 0) (av := []) (st := []) (R1 := (some (.int v), zh b' I1 L1)) dL_law_660 okX11_clashes u_618 u_619 u_620 zc11 rfl (Nat.le_of_ble_eq_true rfl) arX11_clashes rfl (Nat.le_of_ble_eq_true rfl) c1 zR0.w ?_
  show zA G (d + 41) mL_law 663 [some (.ref 2000), some (.ref 0), some (.ref 56), some (.int x)] [.int v] (zh b' I1 L1) _
  refine zi_aload_n dL_law_663 rfl rfl ?_
  refine zi_callV (d := d + 40) (h := zh b' I1 L1) (N := mX12_clashes) (i := 56) (av := []) (st := [.int v]) (R1 := (some (.int v), zh b' I2 L2)) dL_law_664 okX12_clashes u_1058 u_1059 u_1060 zc12 rfl (Nat.le_of_ble_eq_true rfl) arX12_clashes rfl (Nat.le_of_ble_eq_true rfl) c2 zR0.w ?_
  show zA G (d + 41) mL_law 667 [some (.ref 2000), some (.ref 0), some (.ref 56), some (.int x)] [.int v, .int v] (zh b' I2 L2) _
  exact zi_icmp_eq (tgt := 1091) dL_law_667 (by decide) (fun _ => K) (fun q => absurd rfl q)
theorem lc_14 {G : zG} {d b : Nat} {I : Nat → Nat → Int32} {L : Nat → Nat → Int64} {σ : zσ} {x : Int32} (hc : zCl b I L σ) (hr : zRf I L σ) (hi : zIv σ) (o1 : vp_in (x + 1) G.2.2.2.2.2.1) (o2 : vp_in (x + 2) G.2.2.2.2.2.1) (o3 : vp_in (x + 3) G.2.2.2.2.2.1) (o4 : vp_in (x + 4) G.2.2.2.2.2.1) (K : ∀ (b' : Nat) (I' : Nat → Nat → Int32) (L' : Nat → Nat → Int64) (σ' : zσ), zCl b' I' L' σ' → zRf I' L' σ' → zIv σ' → zLz G d 1091 x b' I' L') : zLz G d 672 x b I L := by
  obtain ⟨r, b', I1, L1, I2, L2, σ', c1, c2, h1, h2, h3, h4⟩ := p_apart  d b I L σ hc hr hi
  obtain ⟨v, rfl⟩ := h4.int rfl
  obtain ⟨bf, If, Lf, K⟩ := K b' I2 L2 σ' h1 h2 h3
  refine ⟨bf, If, Lf, ?_⟩
  refine zi_aload_n dL_law_672 rfl rfl ?_
  refine zi_callV (d := d + 40) (h := zh b I L) (N := mX11_apart) (i := 0) (av := []) (st := []) (R1 := (some (.int v), zh b' I1 L1)) dL_law_673 okX11_apart u_626 u_627 u_628 zc11 rfl (Nat.le_of_ble_eq_true rfl) arX11_apart rfl (Nat.le_of_ble_eq_true rfl) c1 zR0.w ?_
  show zA G (d + 41) mL_law 676 [some (.ref 2000), some (.ref 0), some (.ref 56), some (.int x)] [.int v] (zh b' I1 L1) _
  refine zi_aload_n dL_law_676 rfl rfl ?_
  refine zi_callV (d := d + 40) (h := zh b' I1 L1) (N := mX12_apart) (i := 56) (av := []) (st := [.int v]) (R1 := (some (.int v), zh b' I2 L2)) dL_law_677 okX12_apart u_1070 u_1071 u_1072 zc12 rfl (Nat.le_of_ble_eq_true rfl) arX12_apart rfl (Nat.le_of_ble_eq_true rfl) c2 zR0.w ?_
  show zA G (d + 41) mL_law 680 [some (.ref 2000), some (.ref 0), some (.ref 56), some (.int x)] [.int v, .int v] (zh b' I2 L2) _
  exact zi_icmp_eq (tgt := 1091) dL_law_680 (by decide) (fun _ => K) (fun q => absurd rfl q)
theorem lc_15 {G : zG} {d b : Nat} {I : Nat → Nat → Int32} {L : Nat → Nat → Int64} {σ : zσ} {x : Int32} (hc : zCl b I L σ) (hr : zRf I L σ) (hi : zIv σ) (o1 : vp_in (x + 1) G.2.2.2.2.2.1) (o2 : vp_in (x + 2) G.2.2.2.2.2.1) (o3 : vp_in (x + 3) G.2.2.2.2.2.1) (o4 : vp_in (x + 4) G.2.2.2.2.2.1) (K : ∀ (b' : Nat) (I' : Nat → Nat → Int32) (L' : Nat → Nat → Int64) (σ' : zσ), zCl b' I' L' σ' → zRf I' L' σ' → zIv σ' → zLz G d 1091 x b' I' L') : zLz G d 685 x b I L := by
  obtain ⟨r, b', I1, L1, I2, L2, σ', c1, c2, h1, h2, h3, h4⟩ := p_began (G.2.2.2.2.2.2.1 (x + 1).toNatClampNeg) (G.2.2.2.2.2.2.1 (x + 2).toNatClampNeg) d b I L σ hc hr hi
  obtain ⟨v, rfl⟩ := h4.int rfl
  obtain ⟨bf, If, Lf, K⟩ := K b' I2 L2 σ' h1 h2 h3
  refine ⟨bf, If, Lf, ?_⟩
  refine zi_aload_n dL_law_685 rfl rfl ?_
  refine zi_aload_n dL_law_686 rfl rfl ?_
  refine zi_iload_n dL_law_687 rfl rfl ?_
  refine zi_iconst (v := 1) dL_law_688 (by decide) ?_
  refine zi_iadd dL_law_689 ?_
  refine zi_sload dL_law_690 o1 ?_
  refine zi_aload_n dL_law_691 rfl rfl ?_
  refine zi_iload_n dL_law_692 rfl rfl ?_
  refine zi_iconst (v := 2) dL_law_693 (by decide) ?_
  refine zi_iadd dL_law_694 ?_
  refine zi_sload dL_law_695 o2 ?_
  refine zi_callV (d := d + 40) (h := zh b I L) (N := mX11_began) (i := 0) (av := [.int (G.2.2.2.2.2.2.1 (x + 1).toNatClampNeg), .int (G.2.2.2.2.2.2.1 (x + 2).toNatClampNeg)]) (st := []) (R1 := (some (.int v), zh b' I1 L1)) dL_law_696 okX11_began u_634 u_635 u_636 zc11 rfl (Nat.le_of_ble_eq_true rfl) arX11_began rfl (Nat.le_of_ble_eq_true rfl) c1 zR0.w ?_
  show zA G (d + 41) mL_law 699 [some (.ref 2000), some (.ref 0), some (.ref 56), some (.int x)] [.int v] (zh b' I1 L1) _
  refine zi_aload_n dL_law_699 rfl rfl ?_
  refine zi_aload_n dL_law_700 rfl rfl ?_
  refine zi_iload_n dL_law_701 rfl rfl ?_
  refine zi_iconst (v := 1) dL_law_702 (by decide) ?_
  refine zi_iadd dL_law_703 ?_
  refine zi_sload dL_law_704 o1 ?_
  refine zi_aload_n dL_law_705 rfl rfl ?_
  refine zi_iload_n dL_law_706 rfl rfl ?_
  refine zi_iconst (v := 2) dL_law_707 (by decide) ?_
  refine zi_iadd dL_law_708 ?_
  refine zi_sload dL_law_709 o2 ?_
  refine zi_callV (d := d + 40) (h := zh b' I1 L1) (N := mX12_began) (i := 56) (av := [.int (G.2.2.2.2.2.2.1 (x + 1).toNatClampNeg), .int (G.2.2.2.2.2.2.1 (x + 2).toNatClampNeg)]) (st := [.int v]) (R1 := (some (.int v), zh b' I2 L2)) dL_law_710 okX12_began u_1074 u_1075 u_1076 zc12 rfl (Nat.le_of_ble_eq_true rfl) arX12_began rfl (Nat.le_of_ble_eq_true rfl) c2 zR0.w ?_
  show zA G (d + 41) mL_law 713 [some (.ref 2000), some (.ref 0), some (.ref 56), some (.int x)] [.int v, .int v] (zh b' I2 L2) _
  exact zi_icmp_eq (tgt := 1091) dL_law_713 (by decide) (fun _ => K) (fun q => absurd rfl q)
theorem lc_16 {G : zG} {d b : Nat} {I : Nat → Nat → Int32} {L : Nat → Nat → Int64} {σ : zσ} {x : Int32} (hc : zCl b I L σ) (hr : zRf I L σ) (hi : zIv σ) (o1 : vp_in (x + 1) G.2.2.2.2.2.1) (o2 : vp_in (x + 2) G.2.2.2.2.2.1) (o3 : vp_in (x + 3) G.2.2.2.2.2.1) (o4 : vp_in (x + 4) G.2.2.2.2.2.1) (K : ∀ (b' : Nat) (I' : Nat → Nat → Int32) (L' : Nat → Nat → Int64) (σ' : zσ), zCl b' I' L' σ' → zRf I' L' σ' → zIv σ' → zLz G d 1091 x b' I' L') : zLz G d 718 x b I L := by
  obtain ⟨r, b', I1, L1, I2, L2, σ', c1, c2, h1, h2, h3, h4⟩ := p_cheese (G.2.2.2.2.2.2.1 (x + 1).toNatClampNeg) (G.2.2.2.2.2.2.1 (x + 2).toNatClampNeg) d b I L σ hc hr hi
  obtain ⟨v, rfl⟩ := h4.int rfl
  obtain ⟨bf, If, Lf, K⟩ := K b' I2 L2 σ' h1 h2 h3
  refine ⟨bf, If, Lf, ?_⟩
  refine zi_aload_n dL_law_718 rfl rfl ?_
  refine zi_aload_n dL_law_719 rfl rfl ?_
  refine zi_iload_n dL_law_720 rfl rfl ?_
  refine zi_iconst (v := 1) dL_law_721 (by decide) ?_
  refine zi_iadd dL_law_722 ?_
  refine zi_sload dL_law_723 o1 ?_
  refine zi_aload_n dL_law_724 rfl rfl ?_
  refine zi_iload_n dL_law_725 rfl rfl ?_
  refine zi_iconst (v := 2) dL_law_726 (by decide) ?_
  refine zi_iadd dL_law_727 ?_
  refine zi_sload dL_law_728 o2 ?_
  refine zi_callV (d := d + 40) (h := zh b I L) (N := mX11_cheese) (i := 0) (av := [.int (G.2.2.2.2.2.2.1 (x + 1).toNatClampNeg), .int (G.2.2.2.2.2.2.1 (x + 2).toNatClampNeg)]) (st := []) (R1 := (some (.int v), zh b' I1 L1)) dL_law_729 okX11_cheese u_638 u_639 u_640 zc11 rfl (Nat.le_of_ble_eq_true rfl) arX11_cheese rfl (Nat.le_of_ble_eq_true rfl) c1 zR0.w ?_
  show zA G (d + 41) mL_law 732 [some (.ref 2000), some (.ref 0), some (.ref 56), some (.int x)] [.int v] (zh b' I1 L1) _
  refine zi_aload_n dL_law_732 rfl rfl ?_
  refine zi_aload_n dL_law_733 rfl rfl ?_
  refine zi_iload_n dL_law_734 rfl rfl ?_
  refine zi_iconst (v := 1) dL_law_735 (by decide) ?_
  refine zi_iadd dL_law_736 ?_
  refine zi_sload dL_law_737 o1 ?_
  refine zi_aload_n dL_law_738 rfl rfl ?_
  refine zi_iload_n dL_law_739 rfl rfl ?_
  refine zi_iconst (v := 2) dL_law_740 (by decide) ?_
  refine zi_iadd dL_law_741 ?_
  refine zi_sload dL_law_742 o2 ?_
  refine zi_callV (d := d + 40) (h := zh b' I1 L1) (N := mX12_cheese) (i := 56) (av := [.int (G.2.2.2.2.2.2.1 (x + 1).toNatClampNeg), .int (G.2.2.2.2.2.2.1 (x + 2).toNatClampNeg)]) (st := [.int v]) (R1 := (some (.int v), zh b' I2 L2)) dL_law_743 okX12_cheese u_1079 u_1080 u_1081 zc12 rfl (Nat.le_of_ble_eq_true rfl) arX12_cheese rfl (Nat.le_of_ble_eq_true rfl) c2 zR0.w ?_
  show zA G (d + 41) mL_law 746 [some (.ref 2000), some (.ref 0), some (.ref 56), some (.int x)] [.int v, .int v] (zh b' I2 L2) _
  exact zi_icmp_eq (tgt := 1091) dL_law_746 (by decide) (fun _ => K) (fun q => absurd rfl q)
theorem lc_17 {G : zG} {d b : Nat} {I : Nat → Nat → Int32} {L : Nat → Nat → Int64} {σ : zσ} {x : Int32} (hc : zCl b I L σ) (hr : zRf I L σ) (hi : zIv σ) (o1 : vp_in (x + 1) G.2.2.2.2.2.1) (o2 : vp_in (x + 2) G.2.2.2.2.2.1) (o3 : vp_in (x + 3) G.2.2.2.2.2.1) (o4 : vp_in (x + 4) G.2.2.2.2.2.1) (K : ∀ (b' : Nat) (I' : Nat → Nat → Int32) (L' : Nat → Nat → Int64) (σ' : zσ), zCl b' I' L' σ' → zRf I' L' σ' → zIv σ' → zLz G d 1091 x b' I' L') : zLz G d 751 x b I L := by
  obtain ⟨r, b', I1, L1, I2, L2, σ', c1, c2, h1, h2, h3, h4⟩ := p_fence (G.2.2.2.2.2.2.1 (x + 1).toNatClampNeg) (G.2.2.2.2.2.2.1 (x + 2).toNatClampNeg) d b I L σ hc hr hi
  obtain ⟨v, rfl⟩ := h4.int rfl
  obtain ⟨bf, If, Lf, K⟩ := K b' I2 L2 σ' h1 h2 h3
  refine ⟨bf, If, Lf, ?_⟩
  refine zi_aload_n dL_law_751 rfl rfl ?_
  refine zi_aload_n dL_law_752 rfl rfl ?_
  refine zi_iload_n dL_law_753 rfl rfl ?_
  refine zi_iconst (v := 1) dL_law_754 (by decide) ?_
  refine zi_iadd dL_law_755 ?_
  refine zi_sload dL_law_756 o1 ?_
  refine zi_aload_n dL_law_757 rfl rfl ?_
  refine zi_iload_n dL_law_758 rfl rfl ?_
  refine zi_iconst (v := 2) dL_law_759 (by decide) ?_
  refine zi_iadd dL_law_760 ?_
  refine zi_sload dL_law_761 o2 ?_
  refine zi_callV (d := d + 40) (h := zh b I L) (N := mX11_fence) (i := 0) (av := [.int (G.2.2.2.2.2.2.1 (x + 1).toNatClampNeg), .int (G.2.2.2.2.2.2.1 (x + 2).toNatClampNeg)]) (st := []) (R1 := (some (.int v), zh b' I1 L1)) dL_law_762 okX11_fence u_659 u_660 u_661 zc11 rfl (Nat.le_of_ble_eq_true rfl) arX11_fence rfl (Nat.le_of_ble_eq_true rfl) c1 zR0.w ?_
  show zA G (d + 41) mL_law 765 [some (.ref 2000), some (.ref 0), some (.ref 56), some (.int x)] [.int v] (zh b' I1 L1) _
  refine zi_aload_n dL_law_765 rfl rfl ?_
  refine zi_aload_n dL_law_766 rfl rfl ?_
  refine zi_iload_n dL_law_767 rfl rfl ?_
  refine zi_iconst (v := 1) dL_law_768 (by decide) ?_
  refine zi_iadd dL_law_769 ?_
  refine zi_sload dL_law_770 o1 ?_
  refine zi_aload_n dL_law_771 rfl rfl ?_
  refine zi_iload_n dL_law_772 rfl rfl ?_
  refine zi_iconst (v := 2) dL_law_773 (by decide) ?_
  refine zi_iadd dL_law_774 ?_
  refine zi_sload dL_law_775 o2 ?_
  refine zi_callV (d := d + 40) (h := zh b' I1 L1) (N := mX12_fence) (i := 56) (av := [.int (G.2.2.2.2.2.2.1 (x + 1).toNatClampNeg), .int (G.2.2.2.2.2.2.1 (x + 2).toNatClampNeg)]) (st := [.int v]) (R1 := (some (.int v), zh b' I2 L2)) dL_law_776 okX12_fence u_1095 u_1096 u_1097 zc12 rfl (Nat.le_of_ble_eq_true rfl) arX12_fence rfl (Nat.le_of_ble_eq_true rfl) c2 zR0.w ?_
  show zA G (d + 41) mL_law 779 [some (.ref 2000), some (.ref 0), some (.ref 56), some (.int x)] [.int v, .int v] (zh b' I2 L2) _
  exact zi_icmp_eq (tgt := 1091) dL_law_779 (by decide) (fun _ => K) (fun q => absurd rfl q)
theorem lc_18 {G : zG} {d b : Nat} {I : Nat → Nat → Int32} {L : Nat → Nat → Int64} {σ : zσ} {x : Int32} (hc : zCl b I L σ) (hr : zRf I L σ) (hi : zIv σ) (o1 : vp_in (x + 1) G.2.2.2.2.2.1) (o2 : vp_in (x + 2) G.2.2.2.2.2.1) (o3 : vp_in (x + 3) G.2.2.2.2.2.1) (o4 : vp_in (x + 4) G.2.2.2.2.2.1) (K : ∀ (b' : Nat) (I' : Nat → Nat → Int32) (L' : Nat → Nat → Int64) (σ' : zσ), zCl b' I' L' σ' → zRf I' L' σ' → zIv σ' → zLz G d 1091 x b' I' L') : zLz G d 784 x b I L := by
  obtain ⟨r, b', I1, L1, I2, L2, σ', c1, c2, h1, h2, h3, h4⟩ := p_feet (G.2.2.2.2.2.2.1 (x + 1).toNatClampNeg) d b I L σ hc hr hi
  obtain ⟨v, rfl⟩ := h4.int rfl
  obtain ⟨bf, If, Lf, K⟩ := K b' I2 L2 σ' h1 h2 h3
  refine ⟨bf, If, Lf, ?_⟩
  refine zi_aload_n dL_law_784 rfl rfl ?_
  refine zi_aload_n dL_law_785 rfl rfl ?_
  refine zi_iload_n dL_law_786 rfl rfl ?_
  refine zi_iconst (v := 1) dL_law_787 (by decide) ?_
  refine zi_iadd dL_law_788 ?_
  refine zi_sload dL_law_789 o1 ?_
  refine zi_callV (d := d + 40) (h := zh b I L) (N := mX11_feet) (i := 0) (av := [.int (G.2.2.2.2.2.2.1 (x + 1).toNatClampNeg)]) (st := []) (R1 := (some (.int v), zh b' I1 L1)) dL_law_790 okX11_feet u_667 u_668 u_669 zc11 rfl (Nat.le_of_ble_eq_true rfl) arX11_feet rfl (Nat.le_of_ble_eq_true rfl) c1 zR0.w ?_
  show zA G (d + 41) mL_law 793 [some (.ref 2000), some (.ref 0), some (.ref 56), some (.int x)] [.int v] (zh b' I1 L1) _
  refine zi_aload_n dL_law_793 rfl rfl ?_
  refine zi_aload_n dL_law_794 rfl rfl ?_
  refine zi_iload_n dL_law_795 rfl rfl ?_
  refine zi_iconst (v := 1) dL_law_796 (by decide) ?_
  refine zi_iadd dL_law_797 ?_
  refine zi_sload dL_law_798 o1 ?_
  refine zi_callV (d := d + 40) (h := zh b' I1 L1) (N := mX12_feet) (i := 56) (av := [.int (G.2.2.2.2.2.2.1 (x + 1).toNatClampNeg)]) (st := [.int v]) (R1 := (some (.int v), zh b' I2 L2)) dL_law_799 okX12_feet u_1100 u_1101 u_1102 zc12 rfl (Nat.le_of_ble_eq_true rfl) arX12_feet rfl (Nat.le_of_ble_eq_true rfl) c2 zR0.w ?_
  show zA G (d + 41) mL_law 802 [some (.ref 2000), some (.ref 0), some (.ref 56), some (.int x)] [.int v, .int v] (zh b' I2 L2) _
  exact zi_icmp_eq (tgt := 1091) dL_law_802 (by decide) (fun _ => K) (fun q => absurd rfl q)
theorem lc_19 {G : zG} {d b : Nat} {I : Nat → Nat → Int32} {L : Nat → Nat → Int64} {σ : zσ} {x : Int32} (hc : zCl b I L σ) (hr : zRf I L σ) (hi : zIv σ) (o1 : vp_in (x + 1) G.2.2.2.2.2.1) (o2 : vp_in (x + 2) G.2.2.2.2.2.1) (o3 : vp_in (x + 3) G.2.2.2.2.2.1) (o4 : vp_in (x + 4) G.2.2.2.2.2.1) (K : ∀ (b' : Nat) (I' : Nat → Nat → Int32) (L' : Nat → Nat → Int64) (σ' : zσ), zCl b' I' L' σ' → zRf I' L' σ' → zIv σ' → zLz G d 1091 x b' I' L') : zLz G d 807 x b I L := by
  obtain ⟨r, b', I1, L1, I2, L2, σ', c1, c2, h1, h2, h3, h4⟩ := p_catchers  d b I L σ hc hr hi
  obtain ⟨v, rfl⟩ := h4.int rfl
  obtain ⟨bf, If, Lf, K⟩ := K b' I2 L2 σ' h1 h2 h3
  refine ⟨bf, If, Lf, ?_⟩
  refine zi_aload_n dL_law_807 rfl rfl ?_
  refine zi_callV (d := d + 40) (h := zh b I L) (N := mX11_catchers) (i := 0) (av := []) (st := []) (R1 := (some (.int v), zh b' I1 L1)) dL_law_808 okX11_catchers u_672 u_673 u_674 zc11 rfl (Nat.le_of_ble_eq_true rfl) arX11_catchers rfl (Nat.le_of_ble_eq_true rfl) c1 zR0.w ?_
  show zA G (d + 41) mL_law 811 [some (.ref 2000), some (.ref 0), some (.ref 56), some (.int x)] [.int v] (zh b' I1 L1) _
  refine zi_aload_n dL_law_811 rfl rfl ?_
  refine zi_callV (d := d + 40) (h := zh b' I1 L1) (N := mX12_catchers) (i := 56) (av := []) (st := [.int v]) (R1 := (some (.int v), zh b' I2 L2)) dL_law_812 okX12_catchers u_1105 u_1106 u_1107 zc12 rfl (Nat.le_of_ble_eq_true rfl) arX12_catchers rfl (Nat.le_of_ble_eq_true rfl) c2 zR0.w ?_
  show zA G (d + 41) mL_law 815 [some (.ref 2000), some (.ref 0), some (.ref 56), some (.int x)] [.int v, .int v] (zh b' I2 L2) _
  exact zi_icmp_eq (tgt := 1091) dL_law_815 (by decide) (fun _ => K) (fun q => absurd rfl q)
theorem lc_20 {G : zG} {d b : Nat} {I : Nat → Nat → Int32} {L : Nat → Nat → Int64} {σ : zσ} {x : Int32} (hc : zCl b I L σ) (hr : zRf I L σ) (hi : zIv σ) (o1 : vp_in (x + 1) G.2.2.2.2.2.1) (o2 : vp_in (x + 2) G.2.2.2.2.2.1) (o3 : vp_in (x + 3) G.2.2.2.2.2.1) (o4 : vp_in (x + 4) G.2.2.2.2.2.1) (K : ∀ (b' : Nat) (I' : Nat → Nat → Int32) (L' : Nat → Nat → Int64) (σ' : zσ), zCl b' I' L' σ' → zRf I' L' σ' → zIv σ' → zLz G d 1091 x b' I' L') : zLz G d 820 x b I L := by
  obtain ⟨r, b', I1, L1, I2, L2, σ', c1, c2, h1, h2, h3, h4⟩ := p_bale  d b I L σ hc hr hi
  obtain ⟨v, rfl⟩ := h4.int rfl
  obtain ⟨bf, If, Lf, K⟩ := K b' I2 L2 σ' h1 h2 h3
  refine ⟨bf, If, Lf, ?_⟩
  refine zi_aload_n dL_law_820 rfl rfl ?_
  refine zi_callV (d := d + 40) (h := zh b I L) (N := mX11_bale) (i := 0) (av := []) (st := []) (R1 := (some (.int v), zh b' I1 L1)) dL_law_821 okX11_bale u_682 u_683 u_684 zc11 rfl (Nat.le_of_ble_eq_true rfl) arX11_bale rfl (Nat.le_of_ble_eq_true rfl) c1 zR0.w ?_
  show zA G (d + 41) mL_law 824 [some (.ref 2000), some (.ref 0), some (.ref 56), some (.int x)] [.int v] (zh b' I1 L1) _
  refine zi_aload_n dL_law_824 rfl rfl ?_
  refine zi_callV (d := d + 40) (h := zh b' I1 L1) (N := mX12_bale) (i := 56) (av := []) (st := [.int v]) (R1 := (some (.int v), zh b' I2 L2)) dL_law_825 okX12_bale u_1112 u_1113 u_1114 zc12 rfl (Nat.le_of_ble_eq_true rfl) arX12_bale rfl (Nat.le_of_ble_eq_true rfl) c2 zR0.w ?_
  show zA G (d + 41) mL_law 828 [some (.ref 2000), some (.ref 0), some (.ref 56), some (.int x)] [.int v, .int v] (zh b' I2 L2) _
  exact zi_icmp_eq (tgt := 1091) dL_law_828 (by decide) (fun _ => K) (fun q => absurd rfl q)
theorem lc_21 {G : zG} {d b : Nat} {I : Nat → Nat → Int32} {L : Nat → Nat → Int64} {σ : zσ} {x : Int32} (hc : zCl b I L σ) (hr : zRf I L σ) (hi : zIv σ) (o1 : vp_in (x + 1) G.2.2.2.2.2.1) (o2 : vp_in (x + 2) G.2.2.2.2.2.1) (o3 : vp_in (x + 3) G.2.2.2.2.2.1) (o4 : vp_in (x + 4) G.2.2.2.2.2.1) (K : ∀ (b' : Nat) (I' : Nat → Nat → Int32) (L' : Nat → Nat → Int64) (σ' : zσ), zCl b' I' L' σ' → zRf I' L' σ' → zIv σ' → zLz G d 1091 x b' I' L') : zLz G d 833 x b I L := by
  obtain ⟨r, b', I1, L1, I2, L2, σ', c1, c2, h1, h2, h3, h4⟩ := p_run  d b I L σ hc hr hi
  obtain ⟨v, rfl⟩ := h4.int rfl
  obtain ⟨bf, If, Lf, K⟩ := K b' I2 L2 σ' h1 h2 h3
  refine ⟨bf, If, Lf, ?_⟩
  refine zi_aload_n dL_law_833 rfl rfl ?_
  refine zi_callV (d := d + 40) (h := zh b I L) (N := mX11_run) (i := 0) (av := []) (st := []) (R1 := (some (.int v), zh b' I1 L1)) dL_law_834 okX11_run u_690 u_691 u_692 zc11 rfl (Nat.le_of_ble_eq_true rfl) arX11_run rfl (Nat.le_of_ble_eq_true rfl) c1 zR0.w ?_
  show zA G (d + 41) mL_law 837 [some (.ref 2000), some (.ref 0), some (.ref 56), some (.int x)] [.int v] (zh b' I1 L1) _
  refine zi_aload_n dL_law_837 rfl rfl ?_
  refine zi_callV (d := d + 40) (h := zh b' I1 L1) (N := mX12_run) (i := 56) (av := []) (st := [.int v]) (R1 := (some (.int v), zh b' I2 L2)) dL_law_838 okX12_run u_1120 u_1121 u_1122 zc12 rfl (Nat.le_of_ble_eq_true rfl) arX12_run rfl (Nat.le_of_ble_eq_true rfl) c2 zR0.w ?_
  show zA G (d + 41) mL_law 841 [some (.ref 2000), some (.ref 0), some (.ref 56), some (.int x)] [.int v, .int v] (zh b' I2 L2) _
  exact zi_icmp_eq (tgt := 1091) dL_law_841 (by decide) (fun _ => K) (fun q => absurd rfl q)
theorem lc_22 {G : zG} {d b : Nat} {I : Nat → Nat → Int32} {L : Nat → Nat → Int64} {σ : zσ} {x : Int32} (hc : zCl b I L σ) (hr : zRf I L σ) (hi : zIv σ) (o1 : vp_in (x + 1) G.2.2.2.2.2.1) (o2 : vp_in (x + 2) G.2.2.2.2.2.1) (o3 : vp_in (x + 3) G.2.2.2.2.2.1) (o4 : vp_in (x + 4) G.2.2.2.2.2.1) (K : ∀ (b' : Nat) (I' : Nat → Nat → Int32) (L' : Nat → Nat → Int64) (σ' : zσ), zCl b' I' L' σ' → zRf I' L' σ' → zIv σ' → zLz G d 1091 x b' I' L') : zLz G d 846 x b I L := by
  obtain ⟨r, b', I1, L1, I2, L2, σ', c1, c2, h1, h2, h3, h4⟩ := p_undo  d b I L σ hc hr hi
  obtain ⟨v, rfl⟩ := h4.int rfl
  obtain ⟨bf, If, Lf, K⟩ := K b' I2 L2 σ' h1 h2 h3
  refine ⟨bf, If, Lf, ?_⟩
  refine zi_aload_n dL_law_846 rfl rfl ?_
  refine zi_callV (d := d + 40) (h := zh b I L) (N := mX11_undo) (i := 0) (av := []) (st := []) (R1 := (some (.int v), zh b' I1 L1)) dL_law_847 okX11_undo u_712 u_713 u_714 zc11 rfl (Nat.le_of_ble_eq_true rfl) arX11_undo rfl (Nat.le_of_ble_eq_true rfl) c1 zR0.w ?_
  show zA G (d + 41) mL_law 850 [some (.ref 2000), some (.ref 0), some (.ref 56), some (.int x)] [.int v] (zh b' I1 L1) _
  refine zi_aload_n dL_law_850 rfl rfl ?_
  refine zi_callV (d := d + 40) (h := zh b' I1 L1) (N := mX12_undo) (i := 56) (av := []) (st := [.int v]) (R1 := (some (.int v), zh b' I2 L2)) dL_law_851 okX12_undo u_1125 u_1126 u_1127 zc12 rfl (Nat.le_of_ble_eq_true rfl) arX12_undo rfl (Nat.le_of_ble_eq_true rfl) c2 zR0.w ?_
  show zA G (d + 41) mL_law 854 [some (.ref 2000), some (.ref 0), some (.ref 56), some (.int x)] [.int v, .int v] (zh b' I2 L2) _
  exact zi_icmp_eq (tgt := 1091) dL_law_854 (by decide) (fun _ => K) (fun q => absurd rfl q)
theorem lc_23 {G : zG} {d b : Nat} {I : Nat → Nat → Int32} {L : Nat → Nat → Int64} {σ : zσ} {x : Int32} (hc : zCl b I L σ) (hr : zRf I L σ) (hi : zIv σ) (o1 : vp_in (x + 1) G.2.2.2.2.2.1) (o2 : vp_in (x + 2) G.2.2.2.2.2.1) (o3 : vp_in (x + 3) G.2.2.2.2.2.1) (o4 : vp_in (x + 4) G.2.2.2.2.2.1) (K : ∀ (b' : Nat) (I' : Nat → Nat → Int32) (L' : Nat → Nat → Int64) (σ' : zσ), zCl b' I' L' σ' → zRf I' L' σ' → zIv σ' → zLz G d 1091 x b' I' L') : zLz G d 859 x b I L := by
  obtain ⟨r, b', I1, L1, I2, L2, σ', c1, c2, h1, h2, h3, h4⟩ := p_hurt (G.2.2.2.2.2.2.1 (x + 1).toNatClampNeg) d b I L σ hc hr hi
  obtain ⟨v, rfl⟩ := h4.int rfl
  obtain ⟨bf, If, Lf, K⟩ := K b' I2 L2 σ' h1 h2 h3
  refine ⟨bf, If, Lf, ?_⟩
  refine zi_aload_n dL_law_859 rfl rfl ?_
  refine zi_aload_n dL_law_860 rfl rfl ?_
  refine zi_iload_n dL_law_861 rfl rfl ?_
  refine zi_iconst (v := 1) dL_law_862 (by decide) ?_
  refine zi_iadd dL_law_863 ?_
  refine zi_sload dL_law_864 o1 ?_
  refine zi_callV (d := d + 40) (h := zh b I L) (N := mX11_hurt) (i := 0) (av := [.int (G.2.2.2.2.2.2.1 (x + 1).toNatClampNeg)]) (st := []) (R1 := (some (.int v), zh b' I1 L1)) dL_law_865 okX11_hurt u_720 u_721 u_722 zc11 rfl (Nat.le_of_ble_eq_true rfl) arX11_hurt rfl (Nat.le_of_ble_eq_true rfl) c1 zR0.w ?_
  show zA G (d + 41) mL_law 868 [some (.ref 2000), some (.ref 0), some (.ref 56), some (.int x)] [.int v] (zh b' I1 L1) _
  refine zi_aload_n dL_law_868 rfl rfl ?_
  refine zi_aload_n dL_law_869 rfl rfl ?_
  refine zi_iload_n dL_law_870 rfl rfl ?_
  refine zi_iconst (v := 1) dL_law_871 (by decide) ?_
  refine zi_iadd dL_law_872 ?_
  refine zi_sload dL_law_873 o1 ?_
  refine zi_callV (d := d + 40) (h := zh b' I1 L1) (N := mX12_hurt) (i := 56) (av := [.int (G.2.2.2.2.2.2.1 (x + 1).toNatClampNeg)]) (st := [.int v]) (R1 := (some (.int v), zh b' I2 L2)) dL_law_874 okX12_hurt u_1129 u_1130 u_1131 zc12 rfl (Nat.le_of_ble_eq_true rfl) arX12_hurt rfl (Nat.le_of_ble_eq_true rfl) c2 zR0.w ?_
  show zA G (d + 41) mL_law 877 [some (.ref 2000), some (.ref 0), some (.ref 56), some (.int x)] [.int v, .int v] (zh b' I2 L2) _
  exact zi_icmp_eq (tgt := 1091) dL_law_877 (by decide) (fun _ => K) (fun q => absurd rfl q)
theorem lc_24 {G : zG} {d b : Nat} {I : Nat → Nat → Int32} {L : Nat → Nat → Int64} {σ : zσ} {x : Int32} (hc : zCl b I L σ) (hr : zRf I L σ) (hi : zIv σ) (o1 : vp_in (x + 1) G.2.2.2.2.2.1) (o2 : vp_in (x + 2) G.2.2.2.2.2.1) (o3 : vp_in (x + 3) G.2.2.2.2.2.1) (o4 : vp_in (x + 4) G.2.2.2.2.2.1) (K : ∀ (b' : Nat) (I' : Nat → Nat → Int32) (L' : Nat → Nat → Int64) (σ' : zσ), zCl b' I' L' σ' → zRf I' L' σ' → zIv σ' → zLz G d 1091 x b' I' L') : zLz G d 882 x b I L := by
  obtain ⟨r, b', I1, L1, I2, L2, σ', c1, c2, h1, h2, h3, h4⟩ := p_heal  d b I L σ hc hr hi
  obtain ⟨v, rfl⟩ := h4.int rfl
  obtain ⟨bf, If, Lf, K⟩ := K b' I2 L2 σ' h1 h2 h3
  refine ⟨bf, If, Lf, ?_⟩
  refine zi_aload_n dL_law_882 rfl rfl ?_
  refine zi_callV (d := d + 40) (h := zh b I L) (N := mX11_heal) (i := 0) (av := []) (st := []) (R1 := (some (.int v), zh b' I1 L1)) dL_law_883 okX11_heal u_724 u_725 u_726 zc11 rfl (Nat.le_of_ble_eq_true rfl) arX11_heal rfl (Nat.le_of_ble_eq_true rfl) c1 zR0.w ?_
  show zA G (d + 41) mL_law 886 [some (.ref 2000), some (.ref 0), some (.ref 56), some (.int x)] [.int v] (zh b' I1 L1) _
  refine zi_aload_n dL_law_886 rfl rfl ?_
  refine zi_callV (d := d + 40) (h := zh b' I1 L1) (N := mX12_heal) (i := 56) (av := []) (st := [.int v]) (R1 := (some (.int v), zh b' I2 L2)) dL_law_887 okX12_heal u_1133 u_1134 u_1135 zc12 rfl (Nat.le_of_ble_eq_true rfl) arX12_heal rfl (Nat.le_of_ble_eq_true rfl) c2 zR0.w ?_
  show zA G (d + 41) mL_law 890 [some (.ref 2000), some (.ref 0), some (.ref 56), some (.int x)] [.int v, .int v] (zh b' I2 L2) _
  exact zi_icmp_eq (tgt := 1091) dL_law_890 (by decide) (fun _ => K) (fun q => absurd rfl q)
theorem lc_25 {G : zG} {d b : Nat} {I : Nat → Nat → Int32} {L : Nat → Nat → Int64} {σ : zσ} {x : Int32} (hc : zCl b I L σ) (hr : zRf I L σ) (hi : zIv σ) (o1 : vp_in (x + 1) G.2.2.2.2.2.1) (o2 : vp_in (x + 2) G.2.2.2.2.2.1) (o3 : vp_in (x + 3) G.2.2.2.2.2.1) (o4 : vp_in (x + 4) G.2.2.2.2.2.1) (K : ∀ (b' : Nat) (I' : Nat → Nat → Int32) (L' : Nat → Nat → Int64) (σ' : zσ), zCl b' I' L' σ' → zRf I' L' σ' → zIv σ' → zLz G d 1091 x b' I' L') : zLz G d 895 x b I L := by
  obtain ⟨r, b', I1, L1, I2, L2, σ', c1, c2, h1, h2, h3, h4⟩ := p_waits (G.2.2.2.2.2.2.1 (x + 1).toNatClampNeg) (G.2.2.2.2.2.2.1 (x + 2).toNatClampNeg) d b I L σ hc hr hi
  obtain ⟨v, rfl⟩ := h4.int rfl
  obtain ⟨bf, If, Lf, K⟩ := K b' I2 L2 σ' h1 h2 h3
  refine ⟨bf, If, Lf, ?_⟩
  refine zi_aload_n dL_law_895 rfl rfl ?_
  refine zi_aload_n dL_law_896 rfl rfl ?_
  refine zi_iload_n dL_law_897 rfl rfl ?_
  refine zi_iconst (v := 1) dL_law_898 (by decide) ?_
  refine zi_iadd dL_law_899 ?_
  refine zi_sload dL_law_900 o1 ?_
  refine zi_aload_n dL_law_901 rfl rfl ?_
  refine zi_iload_n dL_law_902 rfl rfl ?_
  refine zi_iconst (v := 2) dL_law_903 (by decide) ?_
  refine zi_iadd dL_law_904 ?_
  refine zi_sload dL_law_905 o2 ?_
  refine zi_callV (d := d + 40) (h := zh b I L) (N := mX11_waits) (i := 0) (av := [.int (G.2.2.2.2.2.2.1 (x + 1).toNatClampNeg), .int (G.2.2.2.2.2.2.1 (x + 2).toNatClampNeg)]) (st := []) (R1 := (some (.int v), zh b' I1 L1)) dL_law_906 okX11_waits u_728 u_729 u_730 zc11 rfl (Nat.le_of_ble_eq_true rfl) arX11_waits rfl (Nat.le_of_ble_eq_true rfl) c1 zR0.w ?_
  show zA G (d + 41) mL_law 909 [some (.ref 2000), some (.ref 0), some (.ref 56), some (.int x)] [.int v] (zh b' I1 L1) _
  refine zi_aload_n dL_law_909 rfl rfl ?_
  refine zi_aload_n dL_law_910 rfl rfl ?_
  refine zi_iload_n dL_law_911 rfl rfl ?_
  refine zi_iconst (v := 1) dL_law_912 (by decide) ?_
  refine zi_iadd dL_law_913 ?_
  refine zi_sload dL_law_914 o1 ?_
  refine zi_aload_n dL_law_915 rfl rfl ?_
  refine zi_iload_n dL_law_916 rfl rfl ?_
  refine zi_iconst (v := 2) dL_law_917 (by decide) ?_
  refine zi_iadd dL_law_918 ?_
  refine zi_sload dL_law_919 o2 ?_
  refine zi_callV (d := d + 40) (h := zh b' I1 L1) (N := mX12_waits) (i := 56) (av := [.int (G.2.2.2.2.2.2.1 (x + 1).toNatClampNeg), .int (G.2.2.2.2.2.2.1 (x + 2).toNatClampNeg)]) (st := [.int v]) (R1 := (some (.int v), zh b' I2 L2)) dL_law_920 okX12_waits u_1137 u_1138 u_1139 zc12 rfl (Nat.le_of_ble_eq_true rfl) arX12_waits rfl (Nat.le_of_ble_eq_true rfl) c2 zR0.w ?_
  show zA G (d + 41) mL_law 923 [some (.ref 2000), some (.ref 0), some (.ref 56), some (.int x)] [.int v, .int v] (zh b' I2 L2) _
  exact zi_icmp_eq (tgt := 1091) dL_law_923 (by decide) (fun _ => K) (fun q => absurd rfl q)
theorem lc_26 {G : zG} {d b : Nat} {I : Nat → Nat → Int32} {L : Nat → Nat → Int64} {σ : zσ} {x : Int32} (hc : zCl b I L σ) (hr : zRf I L σ) (hi : zIv σ) (o1 : vp_in (x + 1) G.2.2.2.2.2.1) (o2 : vp_in (x + 2) G.2.2.2.2.2.1) (o3 : vp_in (x + 3) G.2.2.2.2.2.1) (o4 : vp_in (x + 4) G.2.2.2.2.2.1) (K : ∀ (b' : Nat) (I' : Nat → Nat → Int32) (L' : Nat → Nat → Int64) (σ' : zσ), zCl b' I' L' σ' → zRf I' L' σ' → zIv σ' → zLz G d 1091 x b' I' L') : zLz G d 928 x b I L := by
  obtain ⟨r, b', I1, L1, I2, L2, σ', c1, c2, h1, h2, h3, h4⟩ := p_drawn (G.2.2.2.2.2.2.1 (x + 1).toNatClampNeg) (G.2.2.2.2.2.2.1 (x + 2).toNatClampNeg) d b I L σ hc hr hi
  obtain ⟨v, rfl⟩ := h4.int rfl
  obtain ⟨bf, If, Lf, K⟩ := K b' I2 L2 σ' h1 h2 h3
  refine ⟨bf, If, Lf, ?_⟩
  refine zi_aload_n dL_law_928 rfl rfl ?_
  refine zi_aload_n dL_law_929 rfl rfl ?_
  refine zi_iload_n dL_law_930 rfl rfl ?_
  refine zi_iconst (v := 1) dL_law_931 (by decide) ?_
  refine zi_iadd dL_law_932 ?_
  refine zi_sload dL_law_933 o1 ?_
  refine zi_aload_n dL_law_934 rfl rfl ?_
  refine zi_iload_n dL_law_935 rfl rfl ?_
  refine zi_iconst (v := 2) dL_law_936 (by decide) ?_
  refine zi_iadd dL_law_937 ?_
  refine zi_sload dL_law_938 o2 ?_
  refine zi_callV (d := d + 40) (h := zh b I L) (N := mX11_drawn) (i := 0) (av := [.int (G.2.2.2.2.2.2.1 (x + 1).toNatClampNeg), .int (G.2.2.2.2.2.2.1 (x + 2).toNatClampNeg)]) (st := []) (R1 := (some (.int v), zh b' I1 L1)) dL_law_939 okX11_drawn u_741 u_742 u_743 zc11 rfl (Nat.le_of_ble_eq_true rfl) arX11_drawn rfl (Nat.le_of_ble_eq_true rfl) c1 zR0.w ?_
  show zA G (d + 41) mL_law 942 [some (.ref 2000), some (.ref 0), some (.ref 56), some (.int x)] [.int v] (zh b' I1 L1) _
  refine zi_aload_n dL_law_942 rfl rfl ?_
  refine zi_aload_n dL_law_943 rfl rfl ?_
  refine zi_iload_n dL_law_944 rfl rfl ?_
  refine zi_iconst (v := 1) dL_law_945 (by decide) ?_
  refine zi_iadd dL_law_946 ?_
  refine zi_sload dL_law_947 o1 ?_
  refine zi_aload_n dL_law_948 rfl rfl ?_
  refine zi_iload_n dL_law_949 rfl rfl ?_
  refine zi_iconst (v := 2) dL_law_950 (by decide) ?_
  refine zi_iadd dL_law_951 ?_
  refine zi_sload dL_law_952 o2 ?_
  refine zi_callV (d := d + 40) (h := zh b' I1 L1) (N := mX12_drawn) (i := 56) (av := [.int (G.2.2.2.2.2.2.1 (x + 1).toNatClampNeg), .int (G.2.2.2.2.2.2.1 (x + 2).toNatClampNeg)]) (st := [.int v]) (R1 := (some (.int v), zh b' I2 L2)) dL_law_953 okX12_drawn u_1145 u_1146 u_1147 zc12 rfl (Nat.le_of_ble_eq_true rfl) arX12_drawn rfl (Nat.le_of_ble_eq_true rfl) c2 zR0.w ?_
  show zA G (d + 41) mL_law 956 [some (.ref 2000), some (.ref 0), some (.ref 56), some (.int x)] [.int v, .int v] (zh b' I2 L2) _
  exact zi_icmp_eq (tgt := 1091) dL_law_956 (by decide) (fun _ => K) (fun q => absurd rfl q)
theorem lc_27 {G : zG} {d b : Nat} {I : Nat → Nat → Int32} {L : Nat → Nat → Int64} {σ : zσ} {x : Int32} (hc : zCl b I L σ) (hr : zRf I L σ) (hi : zIv σ) (o1 : vp_in (x + 1) G.2.2.2.2.2.1) (o2 : vp_in (x + 2) G.2.2.2.2.2.1) (o3 : vp_in (x + 3) G.2.2.2.2.2.1) (o4 : vp_in (x + 4) G.2.2.2.2.2.1) (K : ∀ (b' : Nat) (I' : Nat → Nat → Int32) (L' : Nat → Nat → Int64) (σ' : zσ), zCl b' I' L' σ' → zRf I' L' σ' → zIv σ' → zLz G d 1091 x b' I' L') : zLz G d 961 x b I L := by
  obtain ⟨r, b', I1, L1, I2, L2, σ', c1, c2, h1, h2, h3, h4⟩ := p_part (G.2.2.2.2.2.2.1 (x + 1).toNatClampNeg) d b I L σ hc hr hi
  obtain ⟨v, rfl⟩ := h4.long rfl
  obtain ⟨bf, If, Lf, K⟩ := K b' I2 L2 σ' h1 h2 h3
  refine ⟨bf, If, Lf, ?_⟩
  refine zi_aload_n dL_law_961 rfl rfl ?_
  refine zi_aload_n dL_law_962 rfl rfl ?_
  refine zi_iload_n dL_law_963 rfl rfl ?_
  refine zi_iconst (v := 1) dL_law_964 (by decide) ?_
  refine zi_iadd dL_law_965 ?_
  refine zi_sload dL_law_966 o1 ?_
  refine zi_callV (d := d + 40) (h := zh b I L) (N := mX11_part) (i := 0) (av := [.int (G.2.2.2.2.2.2.1 (x + 1).toNatClampNeg)]) (st := []) (R1 := (some (.long v), zh b' I1 L1)) dL_law_967 okX11_part u_750 u_751 u_752 zc11 rfl (Nat.le_of_ble_eq_true rfl) arX11_part rfl (Nat.le_of_ble_eq_true rfl) c1 zR0.w ?_
  show zA G (d + 41) mL_law 970 [some (.ref 2000), some (.ref 0), some (.ref 56), some (.int x)] [.long v] (zh b' I1 L1) _
  refine zi_aload_n dL_law_970 rfl rfl ?_
  refine zi_aload_n dL_law_971 rfl rfl ?_
  refine zi_iload_n dL_law_972 rfl rfl ?_
  refine zi_iconst (v := 1) dL_law_973 (by decide) ?_
  refine zi_iadd dL_law_974 ?_
  refine zi_sload dL_law_975 o1 ?_
  refine zi_callV (d := d + 40) (h := zh b' I1 L1) (N := mX12_part) (i := 56) (av := [.int (G.2.2.2.2.2.2.1 (x + 1).toNatClampNeg)]) (st := [.long v]) (R1 := (some (.long v), zh b' I2 L2)) dL_law_976 okX12_part u_1154 u_1155 u_1156 zc12 rfl (Nat.le_of_ble_eq_true rfl) arX12_part rfl (Nat.le_of_ble_eq_true rfl) c2 zR0.w ?_
  show zA G (d + 41) mL_law 979 [some (.ref 2000), some (.ref 0), some (.ref 56), some (.int x)] [.long v, .long v] (zh b' I2 L2) _
  refine zi_lcmp dL_law_979 ?_
  exact zi_if_eq (tgt := 1091) dL_law_980 (by decide) (fun _ => K) (fun q => absurd (zcmp_self v) q)
theorem lc_28 {G : zG} {d b : Nat} {I : Nat → Nat → Int32} {L : Nat → Nat → Int64} {σ : zσ} {x : Int32} (hc : zCl b I L σ) (hr : zRf I L σ) (hi : zIv σ) (o1 : vp_in (x + 1) G.2.2.2.2.2.1) (o2 : vp_in (x + 2) G.2.2.2.2.2.1) (o3 : vp_in (x + 3) G.2.2.2.2.2.1) (o4 : vp_in (x + 4) G.2.2.2.2.2.1) (K : ∀ (b' : Nat) (I' : Nat → Nat → Int32) (L' : Nat → Nat → Int64) (σ' : zσ), zCl b' I' L' σ' → zRf I' L' σ' → zIv σ' → zLz G d 1091 x b' I' L') : zLz G d 985 x b I L := by
  obtain ⟨r, b', I1, L1, I2, L2, σ', c1, c2, h1, h2, h3, h4⟩ := p_image (G.2.2.2.2.2.2.1 (x + 1).toNatClampNeg) d b I L σ hc hr hi
  obtain ⟨v, rfl⟩ := h4.int rfl
  obtain ⟨bf, If, Lf, K⟩ := K b' I2 L2 σ' h1 h2 h3
  refine ⟨bf, If, Lf, ?_⟩
  refine zi_aload_n dL_law_985 rfl rfl ?_
  refine zi_aload_n dL_law_986 rfl rfl ?_
  refine zi_iload_n dL_law_987 rfl rfl ?_
  refine zi_iconst (v := 1) dL_law_988 (by decide) ?_
  refine zi_iadd dL_law_989 ?_
  refine zi_sload dL_law_990 o1 ?_
  refine zi_callV (d := d + 40) (h := zh b I L) (N := mX11_image) (i := 0) (av := [.int (G.2.2.2.2.2.2.1 (x + 1).toNatClampNeg)]) (st := []) (R1 := (some (.int v), zh b' I1 L1)) dL_law_991 okX11_image u_754 u_755 u_756 zc11 rfl (Nat.le_of_ble_eq_true rfl) arX11_image rfl (Nat.le_of_ble_eq_true rfl) c1 zR0.w ?_
  show zA G (d + 41) mL_law 994 [some (.ref 2000), some (.ref 0), some (.ref 56), some (.int x)] [.int v] (zh b' I1 L1) _
  refine zi_aload_n dL_law_994 rfl rfl ?_
  refine zi_aload_n dL_law_995 rfl rfl ?_
  refine zi_iload_n dL_law_996 rfl rfl ?_
  refine zi_iconst (v := 1) dL_law_997 (by decide) ?_
  refine zi_iadd dL_law_998 ?_
  refine zi_sload dL_law_999 o1 ?_
  refine zi_callV (d := d + 40) (h := zh b' I1 L1) (N := mX12_image) (i := 56) (av := [.int (G.2.2.2.2.2.2.1 (x + 1).toNatClampNeg)]) (st := [.int v]) (R1 := (some (.int v), zh b' I2 L2)) dL_law_1000 okX12_image u_1158 u_1159 u_1160 zc12 rfl (Nat.le_of_ble_eq_true rfl) arX12_image rfl (Nat.le_of_ble_eq_true rfl) c2 zR0.w ?_
  show zA G (d + 41) mL_law 1003 [some (.ref 2000), some (.ref 0), some (.ref 56), some (.int x)] [.int v, .int v] (zh b' I2 L2) _
  exact zi_icmp_eq (tgt := 1091) dL_law_1003 (by decide) (fun _ => K) (fun q => absurd rfl q)
theorem lc_29 {G : zG} {d b : Nat} {I : Nat → Nat → Int32} {L : Nat → Nat → Int64} {σ : zσ} {x : Int32} (hc : zCl b I L σ) (hr : zRf I L σ) (hi : zIv σ) (o1 : vp_in (x + 1) G.2.2.2.2.2.1) (o2 : vp_in (x + 2) G.2.2.2.2.2.1) (o3 : vp_in (x + 3) G.2.2.2.2.2.1) (o4 : vp_in (x + 4) G.2.2.2.2.2.1) (K : ∀ (b' : Nat) (I' : Nat → Nat → Int32) (L' : Nat → Nat → Int64) (σ' : zσ), zCl b' I' L' σ' → zRf I' L' σ' → zIv σ' → zLz G d 1091 x b' I' L') : zLz G d 1008 x b I L := by
  obtain ⟨r, b', I1, L1, I2, L2, σ', c1, c2, h1, h2, h3, h4⟩ := p_from (G.2.2.2.2.2.2.1 (x + 1).toNatClampNeg) d b I L σ hc hr hi
  obtain ⟨v, rfl⟩ := h4.int rfl
  obtain ⟨bf, If, Lf, K⟩ := K b' I2 L2 σ' h1 h2 h3
  refine ⟨bf, If, Lf, ?_⟩
  refine zi_aload_n dL_law_1008 rfl rfl ?_
  refine zi_aload_n dL_law_1009 rfl rfl ?_
  refine zi_iload_n dL_law_1010 rfl rfl ?_
  refine zi_iconst (v := 1) dL_law_1011 (by decide) ?_
  refine zi_iadd dL_law_1012 ?_
  refine zi_sload dL_law_1013 o1 ?_
  refine zi_callV (d := d + 40) (h := zh b I L) (N := mX11_from) (i := 0) (av := [.int (G.2.2.2.2.2.2.1 (x + 1).toNatClampNeg)]) (st := []) (R1 := (some (.int v), zh b' I1 L1)) dL_law_1014 okX11_from u_766 u_767 u_768 zc11 rfl (Nat.le_of_ble_eq_true rfl) arX11_from rfl (Nat.le_of_ble_eq_true rfl) c1 zR0.w ?_
  show zA G (d + 41) mL_law 1017 [some (.ref 2000), some (.ref 0), some (.ref 56), some (.int x)] [.int v] (zh b' I1 L1) _
  refine zi_aload_n dL_law_1017 rfl rfl ?_
  refine zi_aload_n dL_law_1018 rfl rfl ?_
  refine zi_iload_n dL_law_1019 rfl rfl ?_
  refine zi_iconst (v := 1) dL_law_1020 (by decide) ?_
  refine zi_iadd dL_law_1021 ?_
  refine zi_sload dL_law_1022 o1 ?_
  refine zi_callV (d := d + 40) (h := zh b' I1 L1) (N := mX12_from) (i := 56) (av := [.int (G.2.2.2.2.2.2.1 (x + 1).toNatClampNeg)]) (st := [.int v]) (R1 := (some (.int v), zh b' I2 L2)) dL_law_1023 okX12_from u_1162 u_1163 u_1164 zc12 rfl (Nat.le_of_ble_eq_true rfl) arX12_from rfl (Nat.le_of_ble_eq_true rfl) c2 zR0.w ?_
  show zA G (d + 41) mL_law 1026 [some (.ref 2000), some (.ref 0), some (.ref 56), some (.int x)] [.int v, .int v] (zh b' I2 L2) _
  exact zi_icmp_eq (tgt := 1091) dL_law_1026 (by decide) (fun _ => K) (fun q => absurd rfl q)
theorem lc_30 {G : zG} {d b : Nat} {I : Nat → Nat → Int32} {L : Nat → Nat → Int64} {σ : zσ} {x : Int32} (hc : zCl b I L σ) (hr : zRf I L σ) (hi : zIv σ) (o1 : vp_in (x + 1) G.2.2.2.2.2.1) (o2 : vp_in (x + 2) G.2.2.2.2.2.1) (o3 : vp_in (x + 3) G.2.2.2.2.2.1) (o4 : vp_in (x + 4) G.2.2.2.2.2.1) (K : ∀ (b' : Nat) (I' : Nat → Nat → Int32) (L' : Nat → Nat → Int64) (σ' : zσ), zCl b' I' L' σ' → zRf I' L' σ' → zIv σ' → zLz G d 1091 x b' I' L') : zLz G d 1031 x b I L := by
  obtain ⟨r, b', I1, L1, I2, L2, σ', c1, c2, h1, h2, h3, h4⟩ := p_status (G.2.2.2.2.2.2.1 (x + 1).toNatClampNeg) d b I L σ hc hr hi
  obtain ⟨v, rfl⟩ := h4.int rfl
  obtain ⟨bf, If, Lf, K⟩ := K b' I2 L2 σ' h1 h2 h3
  refine ⟨bf, If, Lf, ?_⟩
  refine zi_aload_n dL_law_1031 rfl rfl ?_
  refine zi_aload_n dL_law_1032 rfl rfl ?_
  refine zi_iload_n dL_law_1033 rfl rfl ?_
  refine zi_iconst (v := 1) dL_law_1034 (by decide) ?_
  refine zi_iadd dL_law_1035 ?_
  refine zi_sload dL_law_1036 o1 ?_
  refine zi_callV (d := d + 40) (h := zh b I L) (N := mX11_status) (i := 0) (av := [.int (G.2.2.2.2.2.2.1 (x + 1).toNatClampNeg)]) (st := []) (R1 := (some (.int v), zh b' I1 L1)) dL_law_1037 okX11_status u_774 u_775 u_776 zc11 rfl (Nat.le_of_ble_eq_true rfl) arX11_status rfl (Nat.le_of_ble_eq_true rfl) c1 zR0.w ?_
  show zA G (d + 41) mL_law 1040 [some (.ref 2000), some (.ref 0), some (.ref 56), some (.int x)] [.int v] (zh b' I1 L1) _
  refine zi_aload_n dL_law_1040 rfl rfl ?_
  refine zi_aload_n dL_law_1041 rfl rfl ?_
  refine zi_iload_n dL_law_1042 rfl rfl ?_
  refine zi_iconst (v := 1) dL_law_1043 (by decide) ?_
  refine zi_iadd dL_law_1044 ?_
  refine zi_sload dL_law_1045 o1 ?_
  refine zi_callV (d := d + 40) (h := zh b' I1 L1) (N := mX12_status) (i := 56) (av := [.int (G.2.2.2.2.2.2.1 (x + 1).toNatClampNeg)]) (st := [.int v]) (R1 := (some (.int v), zh b' I2 L2)) dL_law_1046 okX12_status u_1166 u_1167 u_1168 zc12 rfl (Nat.le_of_ble_eq_true rfl) arX12_status rfl (Nat.le_of_ble_eq_true rfl) c2 zR0.w ?_
  show zA G (d + 41) mL_law 1049 [some (.ref 2000), some (.ref 0), some (.ref 56), some (.int x)] [.int v, .int v] (zh b' I2 L2) _
  exact zi_icmp_eq (tgt := 1091) dL_law_1049 (by decide) (fun _ => K) (fun q => absurd rfl q)
theorem lc_31 {G : zG} {d b : Nat} {I : Nat → Nat → Int32} {L : Nat → Nat → Int64} {σ : zσ} {x : Int32} (hc : zCl b I L σ) (hr : zRf I L σ) (hi : zIv σ) (o1 : vp_in (x + 1) G.2.2.2.2.2.1) (o2 : vp_in (x + 2) G.2.2.2.2.2.1) (o3 : vp_in (x + 3) G.2.2.2.2.2.1) (o4 : vp_in (x + 4) G.2.2.2.2.2.1) (K : ∀ (b' : Nat) (I' : Nat → Nat → Int32) (L' : Nat → Nat → Int64) (σ' : zσ), zCl b' I' L' σ' → zRf I' L' σ' → zIv σ' → zLz G d 1091 x b' I' L') : zLz G d 1054 x b I L := by
  obtain ⟨r, b', I1, L1, I2, L2, σ', c1, c2, h1, h2, h3, h4⟩ := p_count (G.2.2.2.2.2.2.1 (x + 1).toNatClampNeg) d b I L σ hc hr hi
  obtain ⟨v, rfl⟩ := h4.int rfl
  obtain ⟨bf, If, Lf, K⟩ := K b' I2 L2 σ' h1 h2 h3
  refine ⟨bf, If, Lf, ?_⟩
  refine zi_aload_n dL_law_1054 rfl rfl ?_
  refine zi_aload_n dL_law_1055 rfl rfl ?_
  refine zi_iload_n dL_law_1056 rfl rfl ?_
  refine zi_iconst (v := 1) dL_law_1057 (by decide) ?_
  refine zi_iadd dL_law_1058 ?_
  refine zi_sload dL_law_1059 o1 ?_
  refine zi_callV (d := d + 40) (h := zh b I L) (N := mX11_count) (i := 0) (av := [.int (G.2.2.2.2.2.2.1 (x + 1).toNatClampNeg)]) (st := []) (R1 := (some (.int v), zh b' I1 L1)) dL_law_1060 okX11_count u_778 u_779 u_780 zc11 rfl (Nat.le_of_ble_eq_true rfl) arX11_count rfl (Nat.le_of_ble_eq_true rfl) c1 zR0.w ?_
  show zA G (d + 41) mL_law 1063 [some (.ref 2000), some (.ref 0), some (.ref 56), some (.int x)] [.int v] (zh b' I1 L1) _
  refine zi_aload_n dL_law_1063 rfl rfl ?_
  refine zi_aload_n dL_law_1064 rfl rfl ?_
  refine zi_iload_n dL_law_1065 rfl rfl ?_
  refine zi_iconst (v := 1) dL_law_1066 (by decide) ?_
  refine zi_iadd dL_law_1067 ?_
  refine zi_sload dL_law_1068 o1 ?_
  refine zi_callV (d := d + 40) (h := zh b' I1 L1) (N := mX12_count) (i := 56) (av := [.int (G.2.2.2.2.2.2.1 (x + 1).toNatClampNeg)]) (st := [.int v]) (R1 := (some (.int v), zh b' I2 L2)) dL_law_1069 okX12_count u_1170 u_1171 u_1172 zc12 rfl (Nat.le_of_ble_eq_true rfl) arX12_count rfl (Nat.le_of_ble_eq_true rfl) c2 zR0.w ?_
  show zA G (d + 41) mL_law 1072 [some (.ref 2000), some (.ref 0), some (.ref 56), some (.int x)] [.int v, .int v] (zh b' I2 L2) _
  exact zi_icmp_eq (tgt := 1091) dL_law_1072 (by decide) (fun _ => K) (fun q => absurd rfl q)
theorem lc_32 {G : zG} {d b : Nat} {I : Nat → Nat → Int32} {L : Nat → Nat → Int64} {σ : zσ} {x : Int32} (hc : zCl b I L σ) (hr : zRf I L σ) (hi : zIv σ) (o1 : vp_in (x + 1) G.2.2.2.2.2.1) (o2 : vp_in (x + 2) G.2.2.2.2.2.1) (o3 : vp_in (x + 3) G.2.2.2.2.2.1) (o4 : vp_in (x + 4) G.2.2.2.2.2.1) (K : ∀ (b' : Nat) (I' : Nat → Nat → Int32) (L' : Nat → Nat → Int64) (σ' : zσ), zCl b' I' L' σ' → zRf I' L' σ' → zIv σ' → zLz G d 1091 x b' I' L') : zLz G d 1077 x b I L := by
  obtain ⟨r, b', I1, L1, I2, L2, σ', c1, c2, h1, h2, h3, h4⟩ := p_digest  d b I L σ hc hr hi
  obtain ⟨v, rfl⟩ := h4.long rfl
  obtain ⟨bf, If, Lf, K⟩ := K b' I2 L2 σ' h1 h2 h3
  refine ⟨bf, If, Lf, ?_⟩
  refine zi_aload_n dL_law_1077 rfl rfl ?_
  refine zi_callV (d := d + 40) (h := zh b I L) (N := mX11_digest) (i := 0) (av := []) (st := []) (R1 := (some (.long v), zh b' I1 L1)) dL_law_1078 okX11_digest u_786 u_787 u_788 zc11 rfl (Nat.le_of_ble_eq_true rfl) arX11_digest rfl (Nat.le_of_ble_eq_true rfl) c1 zR0.w ?_
  show zA G (d + 41) mL_law 1081 [some (.ref 2000), some (.ref 0), some (.ref 56), some (.int x)] [.long v] (zh b' I1 L1) _
  refine zi_aload_n dL_law_1081 rfl rfl ?_
  refine zi_callV (d := d + 40) (h := zh b' I1 L1) (N := mX12_digest) (i := 56) (av := []) (st := [.long v]) (R1 := (some (.long v), zh b' I2 L2)) dL_law_1082 okX12_digest u_1178 u_1179 u_1180 zc12 rfl (Nat.le_of_ble_eq_true rfl) arX12_digest rfl (Nat.le_of_ble_eq_true rfl) c2 zR0.w ?_
  show zA G (d + 41) mL_law 1085 [some (.ref 2000), some (.ref 0), some (.ref 56), some (.int x)] [.long v, .long v] (zh b' I2 L2) _
  refine zi_lcmp dL_law_1085 ?_
  exact zi_if_eq (tgt := 1091) dL_law_1086 (by decide) (fun _ => K) (fun q => absurd (zcmp_self v) q)
