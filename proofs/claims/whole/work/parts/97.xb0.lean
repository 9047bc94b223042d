/-! ===== the law: its cases ===== -/
theorem rdX {t : Nat} {σ : Mm} {L i k : Nat} {xs : Nat → Int32} {kk : Int32} (hS : Sg t σ) (hX : mX σ = (L, xs)) (hk : kk = nI k) (hi : i + k < L) (hL : L ≤ 3072) : rdI σ 2000000 (nI i + kk) = some (xs (i + k)) := by
  unfold rdI
  rw [sc_none hS (by decide), hk, nI_add, hX]
  show (if _ then _ else _) = _
  rw [nI_clamp (by omega)]
  exact if_pos ⟨rfl, inb_nI hi (by omega)⟩
/-- the same of two longs -/
def PrT (j k : Nat) (as : List Value) (t : Nat) (σ : Mm) : Prop := ∃ (v : Int64) (σ1 σ2 : Mm) (t' : Nat) (D' H' : Nat → Nat → Nat), Cl j (.ref 0 :: as) σ (some (.long v), σ1) ∧ Sg t' σ1 ∧ Cl k (.ref 59 :: as) σ1 (some (.long v), σ2) ∧ Inv t' σ2 D' H'
theorem PrL.st {t : Nat} {σ : Mm} {D H : Nat → Nat → Nat} {j k : Nat} {as : List Value} (h : Inv t σ D H) (hp : PrL j k as σ) : PrT j k as t σ := by
  obtain ⟨v, σ1, σ2, h1, f1, h2, f2⟩ := hp
  exact ⟨v, σ1, σ2, t, D, H, h1, f1.sg h.1.sg, h2, h.fr (f1.tr f2)⟩
theorem w_224 {t : Nat} {σ : Mm} {D H : Nat → Nat → Nat} {L i : Nat} {xs : Nat → Int32} {z5 z6 : Value} {P : Mm → Prop} (hI : Inv t σ D H) (h9 : S9 σ) (hX : mX σ = (L, xs)) (hi : i + 6 ≤ L) (hL : L ≤ 3072) (hp : PrS 101 151 [.int (xs (i + 1)), .int (xs (i + 2)), .int (xs (i + 3)), .int (xs (i + 4)), .int (xs (i + 5))] t σ) (hk : ∀ t' σ' D' H', Inv t' σ' D' H' → S9 σ' → mX σ' = (L, xs) → mU σ' = mU σ → ∃ σf, Ev 273 1455 [.ref 2000000, .ref 0, .ref 59, .ref 99, .int (nI i), z5, z6] [] σ' (some (.int 1), σf) ∧ P σf) : ∃ σf, Ev 273 224 [.ref 2000000, .ref 0, .ref 59, .ref 99, .int (nI i), z5, z6] [] σ (some (.int 1), σf) ∧ P σf := by
  obtain ⟨v, σ1, σ2, t', D', H', c1, s1, c2, I2⟩ := hp
  have S0 := hI.1.sg
  have u1 := cl_mu (by decide) c1 h9 s1
  have u2 := cl_mu (by decide) c2 u1.1 I2.1.sg
  have X1 : mX σ1 = (L, xs) := u1.2.2.trans hX
  obtain ⟨σf, e, p⟩ := hk _ _ _ _ I2 u2.1 (u2.2.2.trans X1) (u2.2.1.trans u1.2.1)
  refine ⟨σf, ?_, p⟩
  refine e_aload_n d_273_224 rfl rfl ?_
  refine e_aload_n d_273_225 rfl rfl ?_
  refine e_iload d_273_226 rfl rfl ?_
  refine e_iconst d_273_228 ci_1 rfl ?_
  refine e_iadd d_273_229 rfl ?_
  refine e_iaload (v := xs (i + 1)) d_273_230 (rdX S0 hX rfl (by omega) (by omega)) rfl ?_
  refine e_aload_n d_273_231 rfl rfl ?_
  refine e_iload d_273_232 rfl rfl ?_
  refine e_iconst d_273_234 ci_2 rfl ?_
  refine e_iadd d_273_235 rfl ?_
  refine e_iaload (v := xs (i + 2)) d_273_236 (rdX S0 hX rfl (by omega) (by omega)) rfl ?_
  refine e_aload_n d_273_237 rfl rfl ?_
  refine e_iload d_273_238 rfl rfl ?_
  refine e_iconst d_273_240 ci_3 rfl ?_
  refine e_iadd d_273_241 rfl ?_
  refine e_iaload (v := xs (i + 3)) d_273_242 (rdX S0 hX rfl (by omega) (by omega)) rfl ?_
  refine e_aload_n d_273_243 rfl rfl ?_
  refine e_iload d_273_244 rfl rfl ?_
  refine e_iconst d_273_246 ci_4 rfl ?_
  refine e_iadd d_273_247 rfl ?_
  refine e_iaload (v := xs (i + 4)) d_273_248 (rdX S0 hX rfl (by omega) (by omega)) rfl ?_
  refine e_aload_n d_273_249 rfl rfl ?_
  refine e_iload d_273_250 rfl rfl ?_
  refine e_iconst d_273_252 ci_5 rfl ?_
  refine e_iadd d_273_253 rfl ?_
  refine e_iaload (v := xs (i + 5)) d_273_254 (rdX S0 hX rfl (by omega) (by omega)) rfl ?_
  refine e_vcall (w1 := (some (.int v), σ1)) d_273_255 kc_273_255 rfl ⟨Nat.le_of_ble_eq_true rfl, xx_273.symm⟩ rfl c1 ?_
  show Ev 273 258 [.ref 2000000, .ref 0, .ref 59, .ref 99, .int (nI i), z5, z6] [.int v] σ1 (some (.int 1), σf)
  refine e_aload_n d_273_258 rfl rfl ?_
  refine e_aload_n d_273_259 rfl rfl ?_
  refine e_iload d_273_260 rfl rfl ?_
  refine e_iconst d_273_262 ci_1 rfl ?_
  refine e_iadd d_273_263 rfl ?_
  refine e_iaload (v := xs (i + 1)) d_273_264 (rdX s1 X1 rfl (by omega) (by omega)) rfl ?_
  refine e_aload_n d_273_265 rfl rfl ?_
  refine e_iload d_273_266 rfl rfl ?_
  refine e_iconst d_273_268 ci_2 rfl ?_
  refine e_iadd d_273_269 rfl ?_
  refine e_iaload (v := xs (i + 2)) d_273_270 (rdX s1 X1 rfl (by omega) (by omega)) rfl ?_
  refine e_aload_n d_273_271 rfl rfl ?_
  refine e_iload d_273_272 rfl rfl ?_
  refine e_iconst d_273_274 ci_3 rfl ?_
  refine e_iadd d_273_275 rfl ?_
  refine e_iaload (v := xs (i + 3)) d_273_276 (rdX s1 X1 rfl (by omega) (by omega)) rfl ?_
  refine e_aload_n d_273_277 rfl rfl ?_
  refine e_iload d_273_278 rfl rfl ?_
  refine e_iconst d_273_280 ci_4 rfl ?_
  refine e_iadd d_273_281 rfl ?_
  refine e_iaload (v := xs (i + 4)) d_273_282 (rdX s1 X1 rfl (by omega) (by omega)) rfl ?_
  refine e_aload_n d_273_283 rfl rfl ?_
  refine e_iload d_273_284 rfl rfl ?_
  refine e_iconst d_273_286 ci_5 rfl ?_
  refine e_iadd d_273_287 rfl ?_
  refine e_iaload (v := xs (i + 5)) d_273_288 (rdX s1 X1 rfl (by omega) (by omega)) rfl ?_
  refine e_vcall (w1 := (some (.int v), σ2)) d_273_289 kc_273_289 rfl ⟨Nat.le_of_ble_eq_true rfl, xx_273.symm⟩ rfl c2 ?_
  show Ev 273 292 [.ref 2000000, .ref 0, .ref 59, .ref 99, .int (nI i), z5, z6] [.int v, .int v] σ2 (some (.int 1), σf)
  exact e_icmp_eq (t := 1455) d_273_292 (by decide) rfl (fun _ => e) (fun hc => absurd rfl hc)
theorem w_297 {t : Nat} {σ : Mm} {D H : Nat → Nat → Nat} {L i : Nat} {xs : Nat → Int32} {z5 z6 : Value} {P : Mm → Prop} (hI : Inv t σ D H) (h9 : S9 σ) (hX : mX σ = (L, xs)) (hi : i + 6 ≤ L) (hL : L ≤ 3072) (hp : PrS 102 178 [.int (xs (i + 1))] t σ) (hk : ∀ t' σ' D' H', Inv t' σ' D' H' → S9 σ' → mX σ' = (L, xs) → mU σ' = mU σ → ∃ σf, Ev 273 1455 [.ref 2000000, .ref 0, .ref 59, .ref 99, .int (nI i), z5, z6] [] σ' (some (.int 1), σf) ∧ P σf) : ∃ σf, Ev 273 297 [.ref 2000000, .ref 0, .ref 59, .ref 99, .int (nI i), z5, z6] [] σ (some (.int 1), σf) ∧ P σf := by
  obtain ⟨v, σ1, σ2, t', D', H', c1, s1, c2, I2⟩ := hp
  have S0 := hI.1.sg
  have u1 := cl_mu (by decide) c1 h9 s1
  have u2 := cl_mu (by decide) c2 u1.1 I2.1.sg
  have X1 : mX σ1 = (L, xs) := u1.2.2.trans hX
  obtain ⟨σf, e, p⟩ := hk _ _ _ _ I2 u2.1 (u2.2.2.trans X1) (u2.2.1.trans u1.2.1)
  refine ⟨σf, ?_, p⟩
  refine e_aload_n d_273_297 rfl rfl ?_
  refine e_aload_n d_273_298 rfl rfl ?_
  refine e_iload d_273_299 rfl rfl ?_
  refine e_iconst d_273_301 ci_1 rfl ?_
  refine e_iadd d_273_302 rfl ?_
  refine e_iaload (v := xs (i + 1)) d_273_303 (rdX S0 hX rfl (by omega) (by omega)) rfl ?_
  refine e_vcall (w1 := (some (.int v), σ1)) d_273_304 kc_273_304 rfl ⟨Nat.le_of_ble_eq_true rfl, xx_273.symm⟩ rfl c1 ?_
  show Ev 273 307 [.ref 2000000, .ref 0, .ref 59, .ref 99, .int (nI i), z5, z6] [.int v] σ1 (some (.int 1), σf)
  refine e_aload_n d_273_307 rfl rfl ?_
  refine e_aload_n d_273_308 rfl rfl ?_
  refine e_iload d_273_309 rfl rfl ?_
  refine e_iconst d_273_311 ci_1 rfl ?_
  refine e_iadd d_273_312 rfl ?_
  refine e_iaload (v := xs (i + 1)) d_273_313 (rdX s1 X1 rfl (by omega) (by omega)) rfl ?_
  refine e_vcall (w1 := (some (.int v), σ2)) d_273_314 kc_273_314 rfl ⟨Nat.le_of_ble_eq_true rfl, xx_273.symm⟩ rfl c2 ?_
  show Ev 273 317 [.ref 2000000, .ref 0, .ref 59, .ref 99, .int (nI i), z5, z6] [.int v, .int v] σ2 (some (.int 1), σf)
  exact e_icmp_eq (t := 1455) d_273_317 (by decide) rfl (fun _ => e) (fun hc => absurd rfl hc)
theorem w_322 {t : Nat} {σ : Mm} {D H : Nat → Nat → Nat} {L i : Nat} {xs : Nat → Int32} {z5 z6 : Value} {P : Mm → Prop} (hI : Inv t σ D H) (h9 : S9 σ) (hX : mX σ = (L, xs)) (hi : i + 6 ≤ L) (hL : L ≤ 3072) (hp : PrS 103 179 [.int (xs (i + 1))] t σ) (hk : ∀ t' σ' D' H', Inv t' σ' D' H' → S9 σ' → mX σ' = (L, xs) → mU σ' = mU σ → ∃ σf, Ev 273 1455 [.ref 2000000, .ref 0, .ref 59, .ref 99, .int (nI i), z5, z6] [] σ' (some (.int 1), σf) ∧ P σf) : ∃ σf, Ev 273 322 [.ref 2000000, .ref 0, .ref 59, .ref 99, .int (nI i), z5, z6] [] σ (some (.int 1), σf) ∧ P σf := by
  obtain ⟨v, σ1, σ2, t', D', H', c1, s1, c2, I2⟩ := hp
  have S0 := hI.1.sg
  have u1 := cl_mu (by decide) c1 h9 s1
  have u2 := cl_mu (by decide) c2 u1.1 I2.1.sg
  have X1 : mX σ1 = (L, xs) := u1.2.2.trans hX
  obtain ⟨σf, e, p⟩ := hk _ _ _ _ I2 u2.1 (u2.2.2.trans X1) (u2.2.1.trans u1.2.1)
  refine ⟨σf, ?_, p⟩
  refine e_aload_n d_273_322 rfl rfl ?_
  refine e_aload_n d_273_323 rfl rfl ?_
  refine e_iload d_273_324 rfl rfl ?_
  refine e_iconst d_273_326 ci_1 rfl ?_
  refine e_iadd d_273_327 rfl ?_
  refine e_iaload (v := xs (i + 1)) d_273_328 (rdX S0 hX rfl (by omega) (by omega)) rfl ?_
  refine e_vcall (w1 := (some (.int v), σ1)) d_273_329 kc_273_329 rfl ⟨Nat.le_of_ble_eq_true rfl, xx_273.symm⟩ rfl c1 ?_
  show Ev 273 332 [.ref 2000000, .ref 0, .ref 59, .ref 99, .int (nI i), z5, z6] [.int v] σ1 (some (.int 1), σf)
  refine e_aload_n d_273_332 rfl rfl ?_
  refine e_aload_n d_273_333 rfl rfl ?_
  refine e_iload d_273_334 rfl rfl ?_
  refine e_iconst d_273_336 ci_1 rfl ?_
  refine e_iadd d_273_337 rfl ?_
  refine e_iaload (v := xs (i + 1)) d_273_338 (rdX s1 X1 rfl (by omega) (by omega)) rfl ?_
  refine e_vcall (w1 := (some (.int v), σ2)) d_273_339 kc_273_339 rfl ⟨Nat.le_of_ble_eq_true rfl, xx_273.symm⟩ rfl c2 ?_
  show Ev 273 342 [.ref 2000000, .ref 0, .ref 59, .ref 99, .int (nI i), z5, z6] [.int v, .int v] σ2 (some (.int 1), σf)
  exact e_icmp_eq (t := 1455) d_273_342 (by decide) rfl (fun _ => e) (fun hc => absurd rfl hc)
theorem w_347 {t : Nat} {σ : Mm} {D H : Nat → Nat → Nat} {L i : Nat} {xs : Nat → Int32} {z5 z6 : Value} {P : Mm → Prop} (hI : Inv t σ D H) (h9 : S9 σ) (hX : mX σ = (L, xs)) (hi : i + 6 ≤ L) (hL : L ≤ 3072) (hp : PrS 104 180 [.int (xs (i + 1)), .int (xs (i + 2))] t σ) (hk : ∀ t' σ' D' H', Inv t' σ' D' H' → S9 σ' → mX σ' = (L, xs) → mU σ' = mU σ → ∃ σf, Ev 273 1455 [.ref 2000000, .ref 0, .ref 59, .ref 99, .int (nI i), z5, z6] [] σ' (some (.int 1), σf) ∧ P σf) : ∃ σf, Ev 273 347 [.ref 2000000, .ref 0, .ref 59, .ref 99, .int (nI i), z5, z6] [] σ (some (.int 1), σf) ∧ P σf := by
  obtain ⟨v, σ1, σ2, t', D', H', c1, s1, c2, I2⟩ := hp
  have S0 := hI.1.sg
  have u1 := cl_mu (by decide) c1 h9 s1
  have u2 := cl_mu (by decide) c2 u1.1 I2.1.sg
  have X1 : mX σ1 = (L, xs) := u1.2.2.trans hX
  obtain ⟨σf, e, p⟩ := hk _ _ _ _ I2 u2.1 (u2.2.2.trans X1) (u2.2.1.trans u1.2.1)
  refine ⟨σf, ?_, p⟩
  refine e_aload_n d_273_347 rfl rfl ?_
  refine e_aload_n d_273_348 rfl rfl ?_
  refine e_iload d_273_349 rfl rfl ?_
  refine e_iconst d_273_351 ci_1 rfl ?_
  refine e_iadd d_273_352 rfl ?_
  refine e_iaload (v := xs (i + 1)) d_273_353 (rdX S0 hX rfl (by omega) (by omega)) rfl ?_
  refine e_aload_n d_273_354 rfl rfl ?_
  refine e_iload d_273_355 rfl rfl ?_
  refine e_iconst d_273_357 ci_2 rfl ?_
  refine e_iadd d_273_358 rfl ?_
  refine e_iaload (v := xs (i + 2)) d_273_359 (rdX S0 hX rfl (by omega) (by omega)) rfl ?_
  refine e_vcall (w1 := (some (.int v), σ1)) d_273_360 kc_273_360 rfl ⟨Nat.le_of_ble_eq_true rfl, xx_273.symm⟩ rfl c1 ?_
  show Ev 273 363 [.ref 2000000, .ref 0, .ref 59, .ref 99, .int (nI i), z5, z6] [.int v] σ1 (some (.int 1), σf)
  refine e_aload_n d_273_363 rfl rfl ?_
  refine e_aload_n d_273_364 rfl rfl ?_
  refine e_iload d_273_365 rfl rfl ?_
  refine e_iconst d_273_367 ci_1 rfl ?_
  refine e_iadd d_273_368 rfl ?_
  refine e_iaload (v := xs (i + 1)) d_273_369 (rdX s1 X1 rfl (by omega) (by omega)) rfl ?_
  refine e_aload_n d_273_370 rfl rfl ?_
  refine e_iload d_273_371 rfl rfl ?_
  refine e_iconst d_273_373 ci_2 rfl ?_
  refine e_iadd d_273_374 rfl ?_
  refine e_iaload (v := xs (i + 2)) d_273_375 (rdX s1 X1 rfl (by omega) (by omega)) rfl ?_
  refine e_vcall (w1 := (some (.int v), σ2)) d_273_376 kc_273_376 rfl ⟨Nat.le_of_ble_eq_true rfl, xx_273.symm⟩ rfl c2 ?_
  show Ev 273 379 [.ref 2000000, .ref 0, .ref 59, .ref 99, .int (nI i), z5, z6] [.int v, .int v] σ2 (some (.int 1), σf)
  exact e_icmp_eq (t := 1455) d_273_379 (by decide) rfl (fun _ => e) (fun hc => absurd rfl hc)
theorem w_452 {t : Nat} {σ : Mm} {D H : Nat → Nat → Nat} {L i : Nat} {xs : Nat → Int32} {z5 z6 : Value} {P : Mm → Prop} (hI : Inv t σ D H) (h9 : S9 σ) (hX : mX σ = (L, xs)) (hi : i + 6 ≤ L) (hL : L ≤ 3072) (hp : PrS 105 217 [.int (xs (i + 1)), .int (xs (i + 2))] t σ) (hk : ∀ t' σ' D' H', Inv t' σ' D' H' → S9 σ' → mX σ' = (L, xs) → mU σ' = mU σ → ∃ σf, Ev 273 1455 [.ref 2000000, .ref 0, .ref 59, .ref 99, .int (nI i), z5, z6] [] σ' (some (.int 1), σf) ∧ P σf) : ∃ σf, Ev 273 452 [.ref 2000000, .ref 0, .ref 59, .ref 99, .int (nI i), z5, z6] [] σ (some (.int 1), σf) ∧ P σf := by
  obtain ⟨v, σ1, σ2, t', D', H', c1, s1, c2, I2⟩ := hp
  have S0 := hI.1.sg
  have u1 := cl_mu (by decide) c1 h9 s1
  have u2 := cl_mu (by decide) c2 u1.1 I2.1.sg
  have X1 : mX σ1 = (L, xs) := u1.2.2.trans hX
  obtain ⟨σf, e, p⟩ := hk _ _ _ _ I2 u2.1 (u2.2.2.trans X1) (u2.2.1.trans u1.2.1)
  refine ⟨σf, ?_, p⟩
  refine e_aload_n d_273_452 rfl rfl ?_
  refine e_aload_n d_273_453 rfl rfl ?_
  refine e_iload d_273_454 rfl rfl ?_
  refine e_iconst d_273_456 ci_1 rfl ?_
  refine e_iadd d_273_457 rfl ?_
  refine e_iaload (v := xs (i + 1)) d_273_458 (rdX S0 hX rfl (by omega) (by omega)) rfl ?_
  refine e_aload_n d_273_459 rfl rfl ?_
  refine e_iload d_273_460 rfl rfl ?_
  refine e_iconst d_273_462 ci_2 rfl ?_
  refine e_iadd d_273_463 rfl ?_
  refine e_iaload (v := xs (i + 2)) d_273_464 (rdX S0 hX rfl (by omega) (by omega)) rfl ?_
  refine e_vcall (w1 := (some (.int v), σ1)) d_273_465 kc_273_465 rfl ⟨Nat.le_of_ble_eq_true rfl, xx_273.symm⟩ rfl c1 ?_
  show Ev 273 468 [.ref 2000000, .ref 0, .ref 59, .ref 99, .int (nI i), z5, z6] [.int v] σ1 (some (.int 1), σf)
  refine e_aload_n d_273_468 rfl rfl ?_
  refine e_aload_n d_273_469 rfl rfl ?_
  refine e_iload d_273_470 rfl rfl ?_
  refine e_iconst d_273_472 ci_1 rfl ?_
  refine e_iadd d_273_473 rfl ?_
  refine e_iaload (v := xs (i + 1)) d_273_474 (rdX s1 X1 rfl (by omega) (by omega)) rfl ?_
  refine e_aload_n d_273_475 rfl rfl ?_
  refine e_iload d_273_476 rfl rfl ?_
  refine e_iconst d_273_478 ci_2 rfl ?_
  refine e_iadd d_273_479 rfl ?_
  refine e_iaload (v := xs (i + 2)) d_273_480 (rdX s1 X1 rfl (by omega) (by omega)) rfl ?_
  refine e_vcall (w1 := (some (.int v), σ2)) d_273_481 kc_273_481 rfl ⟨Nat.le_of_ble_eq_true rfl, xx_273.symm⟩ rfl c2 ?_
  show Ev 273 484 [.ref 2000000, .ref 0, .ref 59, .ref 99, .int (nI i), z5, z6] [.int v, .int v] σ2 (some (.int 1), σf)
  exact e_icmp_eq (t := 1455) d_273_484 (by decide) rfl (fun _ => e) (fun hc => absurd rfl hc)
theorem w_489 {t : Nat} {σ : Mm} {D H : Nat → Nat → Nat} {L i : Nat} {xs : Nat → Int32} {z5 z6 : Value} {P : Mm → Prop} (hI : Inv t σ D H) (h9 : S9 σ) (hX : mX σ = (L, xs)) (hi : i + 6 ≤ L) (hL : L ≤ 3072) (hp : PrS 106 218 [.int (xs (i + 1))] t σ) (hk : ∀ t' σ' D' H', Inv t' σ' D' H' → S9 σ' → mX σ' = (L, xs) → mU σ' = mU σ → ∃ σf, Ev 273 1455 [.ref 2000000, .ref 0, .ref 59, .ref 99, .int (nI i), z5, z6] [] σ' (some (.int 1), σf) ∧ P σf) : ∃ σf, Ev 273 489 [.ref 2000000, .ref 0, .ref 59, .ref 99, .int (nI i), z5, z6] [] σ (some (.int 1), σf) ∧ P σf := by
  obtain ⟨v, σ1, σ2, t', D', H', c1, s1, c2, I2⟩ := hp
  have S0 := hI.1.sg
  have u1 := cl_mu (by decide) c1 h9 s1
  have u2 := cl_mu (by decide) c2 u1.1 I2.1.sg
  have X1 : mX σ1 = (L, xs) := u1.2.2.trans hX
  obtain ⟨σf, e, p⟩ := hk _ _ _ _ I2 u2.1 (u2.2.2.trans X1) (u2.2.1.trans u1.2.1)
  refine ⟨σf, ?_, p⟩
  refine e_aload_n d_273_489 rfl rfl ?_
  refine e_aload_n d_273_490 rfl rfl ?_
  refine e_iload d_273_491 rfl rfl ?_
  refine e_iconst d_273_493 ci_1 rfl ?_
  refine e_iadd d_273_494 rfl ?_
  refine e_iaload (v := xs (i + 1)) d_273_495 (rdX S0 hX rfl (by omega) (by omega)) rfl ?_
  refine e_vcall (w1 := (some (.int v), σ1)) d_273_496 kc_273_496 rfl ⟨Nat.le_of_ble_eq_true rfl, xx_273.symm⟩ rfl c1 ?_
  show Ev 273 499 [.ref 2000000, .ref 0, .ref 59, .ref 99, .int (nI i), z5, z6] [.int v] σ1 (some (.int 1), σf)
  refine e_aload_n d_273_499 rfl rfl ?_
  refine e_aload_n d_273_500 rfl rfl ?_
  refine e_iload d_273_501 rfl rfl ?_
  refine e_iconst d_273_503 ci_1 rfl ?_
  refine e_iadd d_273_504 rfl ?_
  refine e_iaload (v := xs (i + 1)) d_273_505 (rdX s1 X1 rfl (by omega) (by omega)) rfl ?_
  refine e_vcall (w1 := (some (.int v), σ2)) d_273_506 kc_273_506 rfl ⟨Nat.le_of_ble_eq_true rfl, xx_273.symm⟩ rfl c2 ?_
  show Ev 273 509 [.ref 2000000, .ref 0, .ref 59, .ref 99, .int (nI i), z5, z6] [.int v, .int v] σ2 (some (.int 1), σf)
  exact e_icmp_eq (t := 1455) d_273_509 (by decide) rfl (fun _ => e) (fun hc => absurd rfl hc)
theorem w_514 {t : Nat} {σ : Mm} {D H : Nat → Nat → Nat} {L i : Nat} {xs : Nat → Int32} {z5 z6 : Value} {P : Mm → Prop} (hI : Inv t σ D H) (h9 : S9 σ) (hX : mX σ = (L, xs)) (hi : i + 6 ≤ L) (hL : L ≤ 3072) (hp : PrT 107 219 [.int (xs (i + 1)), .int (xs (i + 2))] t σ) (hk : ∀ t' σ' D' H', Inv t' σ' D' H' → S9 σ' → mX σ' = (L, xs) → mU σ' = mU σ → ∃ σf, Ev 273 1455 [.ref 2000000, .ref 0, .ref 59, .ref 99, .int (nI i), z5, z6] [] σ' (some (.int 1), σf) ∧ P σf) : ∃ σf, Ev 273 514 [.ref 2000000, .ref 0, .ref 59, .ref 99, .int (nI i), z5, z6] [] σ (some (.int 1), σf) ∧ P σf := by
  obtain ⟨v, σ1, σ2, t', D', H', c1, s1, c2, I2⟩ := hp
  have S0 := hI.1.sg
  have u1 := cl_mu (by decide) c1 h9 s1
  have u2 := cl_mu (by decide) c2 u1.1 I2.1.sg
  have X1 : mX σ1 = (L, xs) := u1.2.2.trans hX
  obtain ⟨σf, e, p⟩ := hk _ _ _ _ I2 u2.1 (u2.2.2.trans X1) (u2.2.1.trans u1.2.1)
  refine ⟨σf, ?_, p⟩
  refine e_aload_n d_273_514 rfl rfl ?_
  refine e_aload_n d_273_515 rfl rfl ?_
  refine e_iload d_273_516 rfl rfl ?_
  refine e_iconst d_273_518 ci_1 rfl ?_
  refine e_iadd d_273_519 rfl ?_
  refine e_iaload (v := xs (i + 1)) d_273_520 (rdX S0 hX rfl (by omega) (by omega)) rfl ?_
  refine e_aload_n d_273_521 rfl rfl ?_
  refine e_iload d_273_522 rfl rfl ?_
  refine e_iconst d_273_524 ci_2 rfl ?_
  refine e_iadd d_273_525 rfl ?_
  refine e_iaload (v := xs (i + 2)) d_273_526 (rdX S0 hX rfl (by omega) (by omega)) rfl ?_
  refine e_vcall (w1 := (some (.long v), σ1)) d_273_527 kc_273_527 rfl ⟨Nat.le_of_ble_eq_true rfl, xx_273.symm⟩ rfl c1 ?_
  show Ev 273 530 [.ref 2000000, .ref 0, .ref 59, .ref 99, .int (nI i), z5, z6] [.long v] σ1 (some (.int 1), σf)
  refine e_aload_n d_273_530 rfl rfl ?_
  refine e_aload_n d_273_531 rfl rfl ?_
  refine e_iload d_273_532 rfl rfl ?_
  refine e_iconst d_273_534 ci_1 rfl ?_
  refine e_iadd d_273_535 rfl ?_
  refine e_iaload (v := xs (i + 1)) d_273_536 (rdX s1 X1 rfl (by omega) (by omega)) rfl ?_
  refine e_aload_n d_273_537 rfl rfl ?_
  refine e_iload d_273_538 rfl rfl ?_
  refine e_iconst d_273_540 ci_2 rfl ?_
  refine e_iadd d_273_541 rfl ?_
  refine e_iaload (v := xs (i + 2)) d_273_542 (rdX s1 X1 rfl (by omega) (by omega)) rfl ?_
  refine e_vcall (w1 := (some (.long v), σ2)) d_273_543 kc_273_543 rfl ⟨Nat.le_of_ble_eq_true rfl, xx_273.symm⟩ rfl c2 ?_
  show Ev 273 546 [.ref 2000000, .ref 0, .ref 59, .ref 99, .int (nI i), z5, z6] [.long v, .long v] σ2 (some (.int 1), σf)
  exact e_lc_eq (t := 1455) d_273_546 d_273_547 rfl (by decide) rfl (fun _ => e) (fun hc => absurd rfl hc)
theorem w_552 {t : Nat} {σ : Mm} {D H : Nat → Nat → Nat} {L i : Nat} {xs : Nat → Int32} {z5 z6 : Value} {P : Mm → Prop} (hI : Inv t σ D H) (h9 : S9 σ) (hX : mX σ = (L, xs)) (hi : i + 6 ≤ L) (hL : L ≤ 3072) (hp : PrS 108 220 [.int (xs (i + 1))] t σ) (hk : ∀ t' σ' D' H', Inv t' σ' D' H' → S9 σ' → mX σ' = (L, xs) → mU σ' = mU σ → ∃ σf, Ev 273 1455 [.ref 2000000, .ref 0, .ref 59, .ref 99, .int (nI i), z5, z6] [] σ' (some (.int 1), σf) ∧ P σf) : ∃ σf, Ev 273 552 [.ref 2000000, .ref 0, .ref 59, .ref 99, .int (nI i), z5, z6] [] σ (some (.int 1), σf) ∧ P σf := by
  obtain ⟨v, σ1, σ2, t', D', H', c1, s1, c2, I2⟩ := hp
  have S0 := hI.1.sg
  have u1 := cl_mu (by decide) c1 h9 s1
  have u2 := cl_mu (by decide) c2 u1.1 I2.1.sg
  have X1 : mX σ1 = (L, xs) := u1.2.2.trans hX
  obtain ⟨σf, e, p⟩ := hk _ _ _ _ I2 u2.1 (u2.2.2.trans X1) (u2.2.1.trans u1.2.1)
  refine ⟨σf, ?_, p⟩
  refine e_aload_n d_273_552 rfl rfl ?_
  refine e_aload_n d_273_553 rfl rfl ?_
  refine e_iload d_273_554 rfl rfl ?_
  refine e_iconst d_273_556 ci_1 rfl ?_
  refine e_iadd d_273_557 rfl ?_
  refine e_iaload (v := xs (i + 1)) d_273_558 (rdX S0 hX rfl (by omega) (by omega)) rfl ?_
  refine e_vcall (w1 := (some (.int v), σ1)) d_273_559 kc_273_559 rfl ⟨Nat.le_of_ble_eq_true rfl, xx_273.symm⟩ rfl c1 ?_
  show Ev 273 562 [.ref 2000000, .ref 0, .ref 59, .ref 99, .int (nI i), z5, z6] [.int v] σ1 (some (.int 1), σf)
  refine e_aload_n d_273_562 rfl rfl ?_
  refine e_aload_n d_273_563 rfl rfl ?_
  refine e_iload d_273_564 rfl rfl ?_
  refine e_iconst d_273_566 ci_1 rfl ?_
  refine e_iadd d_273_567 rfl ?_
  refine e_iaload (v := xs (i + 1)) d_273_568 (rdX s1 X1 rfl (by omega) (by omega)) rfl ?_
  refine e_vcall (w1 := (some (.int v), σ2)) d_273_569 kc_273_569 rfl ⟨Nat.le_of_ble_eq_true rfl, xx_273.symm⟩ rfl c2 ?_
  show Ev 273 572 [.ref 2000000, .ref 0, .ref 59, .ref 99, .int (nI i), z5, z6] [.int v, .int v] σ2 (some (.int 1), σf)
  exact e_icmp_eq (t := 1455) d_273_572 (by decide) rfl (fun _ => e) (fun hc => absurd rfl hc)
theorem w_577 {t : Nat} {σ : Mm} {D H : Nat → Nat → Nat} {L i : Nat} {xs : Nat → Int32} {z5 z6 : Value} {P : Mm → Prop} (hI : Inv t σ D H) (h9 : S9 σ) (hX : mX σ = (L, xs)) (hi : i + 6 ≤ L) (hL : L ≤ 3072) (hp : PrS 109 221 [.int (xs (i + 1)), .int (xs (i + 2))] t σ) (hk : ∀ t' σ' D' H', Inv t' σ' D' H' → S9 σ' → mX σ' = (L, xs) → mU σ' = mU σ → ∃ σf, Ev 273 1455 [.ref 2000000, .ref 0, .ref 59, .ref 99, .int (nI i), z5, z6] [] σ' (some (.int 1), σf) ∧ P σf) : ∃ σf, Ev 273 577 [.ref 2000000, .ref 0, .ref 59, .ref 99, .int (nI i), z5, z6] [] σ (some (.int 1), σf) ∧ P σf := by
  obtain ⟨v, σ1, σ2, t', D', H', c1, s1, c2, I2⟩ := hp
  have S0 := hI.1.sg
  have u1 := cl_mu (by decide) c1 h9 s1
  have u2 := cl_mu (by decide) c2 u1.1 I2.1.sg
  have X1 : mX σ1 = (L, xs) := u1.2.2.trans hX
  obtain ⟨σf, e, p⟩ := hk _ _ _ _ I2 u2.1 (u2.2.2.trans X1) (u2.2.1.trans u1.2.1)
  refine ⟨σf, ?_, p⟩
  refine e_aload_n d_273_577 rfl rfl ?_
  refine e_aload_n d_273_578 rfl rfl ?_
  refine e_iload d_273_579 rfl rfl ?_
  refine e_iconst d_273_581 ci_1 rfl ?_
  refine e_iadd d_273_582 rfl ?_
  refine e_iaload (v := xs (i + 1)) d_273_583 (rdX S0 hX rfl (by omega) (by omega)) rfl ?_
  refine e_aload_n d_273_584 rfl rfl ?_
  refine e_iload d_273_585 rfl rfl ?_
  refine e_iconst d_273_587 ci_2 rfl ?_
  refine e_iadd d_273_588 rfl ?_
  refine e_iaload (v := xs (i + 2)) d_273_589 (rdX S0 hX rfl (by omega) (by omega)) rfl ?_
  refine e_vcall (w1 := (some (.int v), σ1)) d_273_590 kc_273_590 rfl ⟨Nat.le_of_ble_eq_true rfl, xx_273.symm⟩ rfl c1 ?_
  show Ev 273 593 [.ref 2000000, .ref 0, .ref 59, .ref 99, .int (nI i), z5, z6] [.int v] σ1 (some (.int 1), σf)
  refine e_aload_n d_273_593 rfl rfl ?_
  refine e_aload_n d_273_594 rfl rfl ?_
  refine e_iload d_273_595 rfl rfl ?_
  refine e_iconst d_273_597 ci_1 rfl ?_
  refine e_iadd d_273_598 rfl ?_
  refine e_iaload (v := xs (i + 1)) d_273_599 (rdX s1 X1 rfl (by omega) (by omega)) rfl ?_
  refine e_aload_n d_273_600 rfl rfl ?_
  refine e_iload d_273_601 rfl rfl ?_
  refine e_iconst d_273_603 ci_2 rfl ?_
  refine e_iadd d_273_604 rfl ?_
  refine e_iaload (v := xs (i + 2)) d_273_605 (rdX s1 X1 rfl (by omega) (by omega)) rfl ?_
  refine e_vcall (w1 := (some (.int v), σ2)) d_273_606 kc_273_606 rfl ⟨Nat.le_of_ble_eq_true rfl, xx_273.symm⟩ rfl c2 ?_
  show Ev 273 609 [.ref 2000000, .ref 0, .ref 59, .ref 99, .int (nI i), z5, z6] [.int v, .int v] σ2 (some (.int 1), σf)
  exact e_icmp_eq (t := 1455) d_273_609 (by decide) rfl (fun _ => e) (fun hc => absurd rfl hc)
theorem w_614 {t : Nat} {σ : Mm} {D H : Nat → Nat → Nat} {L i : Nat} {xs : Nat → Int32} {z5 z6 : Value} {P : Mm → Prop} (hI : Inv t σ D H) (h9 : S9 σ) (hX : mX σ = (L, xs)) (hi : i + 6 ≤ L) (hL : L ≤ 3072) (hp : PrS 110 222 [] t σ) (hk : ∀ t' σ' D' H', Inv t' σ' D' H' → S9 σ' → mX σ' = (L, xs) → mU σ' = mU σ → ∃ σf, Ev 273 1455 [.ref 2000000, .ref 0, .ref 59, .ref 99, .int (nI i), z5, z6] [] σ' (some (.int 1), σf) ∧ P σf) : ∃ σf, Ev 273 614 [.ref 2000000, .ref 0, .ref 59, .ref 99, .int (nI i), z5, z6] [] σ (some (.int 1), σf) ∧ P σf := by
  obtain ⟨v, σ1, σ2, t', D', H', c1, s1, c2, I2⟩ := hp
  have S0 := hI.1.sg
  have u1 := cl_mu (by decide) c1 h9 s1
  have u2 := cl_mu (by decide) c2 u1.1 I2.1.sg
  have X1 : mX σ1 = (L, xs) := u1.2.2.trans hX
  obtain ⟨σf, e, p⟩ := hk _ _ _ _ I2 u2.1 (u2.2.2.trans X1) (u2.2.1.trans u1.2.1)
  refine ⟨σf, ?_, p⟩
  refine e_aload_n d_273_614 rfl rfl ?_
  refine e_vcall (w1 := (some (.int v), σ1)) d_273_615 kc_273_615 rfl ⟨Nat.le_of_ble_eq_true rfl, xx_273.symm⟩ rfl c1 ?_
  show Ev 273 618 [.ref 2000000, .ref 0, .ref 59, .ref 99, .int (nI i), z5, z6] [.int v] σ1 (some (.int 1), σf)
  refine e_aload_n d_273_618 rfl rfl ?_
  refine e_vcall (w1 := (some (.int v), σ2)) d_273_619 kc_273_619 rfl ⟨Nat.le_of_ble_eq_true rfl, xx_273.symm⟩ rfl c2 ?_
  show Ev 273 622 [.ref 2000000, .ref 0, .ref 59, .ref 99, .int (nI i), z5, z6] [.int v, .int v] σ2 (some (.int 1), σf)
  exact e_icmp_eq (t := 1455) d_273_622 (by decide) rfl (fun _ => e) (fun hc => absurd rfl hc)
theorem w_627 {t : Nat} {σ : Mm} {D H : Nat → Nat → Nat} {L i : Nat} {xs : Nat → Int32} {z5 z6 : Value} {P : Mm → Prop} (hI : Inv t σ D H) (h9 : S9 σ) (hX : mX σ = (L, xs)) (hi : i + 6 ≤ L) (hL : L ≤ 3072) (hp : PrS 111 223 [.int (xs (i + 1))] t σ) (hk : ∀ t' σ' D' H', Inv t' σ' D' H' → S9 σ' → mX σ' = (L, xs) → mU σ' = mU σ → ∃ σf, Ev 273 1455 [.ref 2000000, .ref 0, .ref 59, .ref 99, .int (nI i), z5, z6] [] σ' (some (.int 1), σf) ∧ P σf) : ∃ σf, Ev 273 627 [.ref 2000000, .ref 0, .ref 59, .ref 99, .int (nI i), z5, z6] [] σ (some (.int 1), σf) ∧ P σf := by
  obtain ⟨v, σ1, σ2, t', D', H', c1, s1, c2, I2⟩ := hp
  have S0 := hI.1.sg
  have u1 := cl_mu (by decide) c1 h9 s1
  have u2 := cl_mu (by decide) c2 u1.1 I2.1.sg
  have X1 : mX σ1 = (L, xs) := u1.2.2.trans hX
  obtain ⟨σf, e, p⟩ := hk _ _ _ _ I2 u2.1 (u2.2.2.trans X1) (u2.2.1.trans u1.2.1)
  refine ⟨σf, ?_, p⟩
  refine e_aload_n d_273_627 rfl rfl ?_
  refine e_aload_n d_273_628 rfl rfl ?_
  refine e_iload d_273_629 rfl rfl ?_
  refine e_iconst d_273_631 ci_1 rfl ?_
  refine e_iadd d_273_632 rfl ?_
  refine e_iaload (v := xs (i + 1)) d_273_633 (rdX S0 hX rfl (by omega) (by omega)) rfl ?_
  refine e_vcall (w1 := (some (.int v), σ1)) d_273_634 kc_273_634 rfl ⟨Nat.le_of_ble_eq_true rfl, xx_273.symm⟩ rfl c1 ?_
  show Ev 273 637 [.ref 2000000, .ref 0, .ref 59, .ref 99, .int (nI i), z5, z6] [.int v] σ1 (some (.int 1), σf)
  refine e_aload_n d_273_637 rfl rfl ?_
  refine e_aload_n d_273_638 rfl rfl ?_
  refine e_iload d_273_639 rfl rfl ?_
  refine e_iconst d_273_641 ci_1 rfl ?_
  refine e_iadd d_273_642 rfl ?_
  refine e_iaload (v := xs (i + 1)) d_273_643 (rdX s1 X1 rfl (by omega) (by omega)) rfl ?_
  refine e_vcall (w1 := (some (.int v), σ2)) d_273_644 kc_273_644 rfl ⟨Nat.le_of_ble_eq_true rfl, xx_273.symm⟩ rfl c2 ?_
  show Ev 273 647 [.ref 2000000, .ref 0, .ref 59, .ref 99, .int (nI i), z5, z6] [.int v, .int v] σ2 (some (.int 1), σf)
  exact e_icmp_eq (t := 1455) d_273_647 (by decide) rfl (fun _ => e) (fun hc => absurd rfl hc)
theorem w_652 {t : Nat} {σ : Mm} {D H : Nat → Nat → Nat} {L i : Nat} {xs : Nat → Int32} {z5 z6 : Value} {P : Mm → Prop} (hI : Inv t σ D H) (h9 : S9 σ) (hX : mX σ = (L, xs)) (hi : i + 6 ≤ L) (hL : L ≤ 3072) (hp : PrS 112 224 [.int (xs (i + 1)), .int (xs (i + 2))] t σ) (hk : ∀ t' σ' D' H', Inv t' σ' D' H' → S9 σ' → mX σ' = (L, xs) → mU σ' = mU σ → ∃ σf, Ev 273 1455 [.ref 2000000, .ref 0, .ref 59, .ref 99, .int (nI i), z5, z6] [] σ' (some (.int 1), σf) ∧ P σf) : ∃ σf, Ev 273 652 [.ref 2000000, .ref 0, .ref 59, .ref 99, .int (nI i), z5, z6] [] σ (some (.int 1), σf) ∧ P σf := by
  obtain ⟨v, σ1, σ2, t', D', H', c1, s1, c2, I2⟩ := hp
  have S0 := hI.1.sg
  have u1 := cl_mu (by decide) c1 h9 s1
  have u2 := cl_mu (by decide) c2 u1.1 I2.1.sg
  have X1 : mX σ1 = (L, xs) := u1.2.2.trans hX
  obtain ⟨σf, e, p⟩ := hk _ _ _ _ I2 u2.1 (u2.2.2.trans X1) (u2.2.1.trans u1.2.1)
  refine ⟨σf, ?_, p⟩
  refine e_aload_n d_273_652 rfl rfl ?_
  refine e_aload_n d_273_653 rfl rfl ?_
  refine e_iload d_273_654 rfl rfl ?_
  refine e_iconst d_273_656 ci_1 rfl ?_
  refine e_iadd d_273_657 rfl ?_
  refine e_iaload (v := xs (i + 1)) d_273_658 (rdX S0 hX rfl (by omega) (by omega)) rfl ?_
  refine e_aload_n d_273_659 rfl rfl ?_
  refine e_iload d_273_660 rfl rfl ?_
  refine e_iconst d_273_662 ci_2 rfl ?_
  refine e_iadd d_273_663 rfl ?_
  refine e_iaload (v := xs (i + 2)) d_273_664 (rdX S0 hX rfl (by omega) (by omega)) rfl ?_
  refine e_vcall (w1 := (some (.int v), σ1)) d_273_665 kc_273_665 rfl ⟨Nat.le_of_ble_eq_true rfl, xx_273.symm⟩ rfl c1 ?_
  show Ev 273 668 [.ref 2000000, .ref 0, .ref 59, .ref 99, .int (nI i), z5, z6] [.int v] σ1 (some (.int 1), σf)
  refine e_aload_n d_273_668 rfl rfl ?_
  refine e_aload_n d_273_669 rfl rfl ?_
  refine e_iload d_273_670 rfl rfl ?_
  refine e_iconst d_273_672 ci_1 rfl ?_
  refine e_iadd d_273_673 rfl ?_
  refine e_iaload (v := xs (i + 1)) d_273_674 (rdX s1 X1 rfl (by omega) (by omega)) rfl ?_
  refine e_aload_n d_273_675 rfl rfl ?_
  refine e_iload d_273_676 rfl rfl ?_
  refine e_iconst d_273_678 ci_2 rfl ?_
  refine e_iadd d_273_679 rfl ?_
  refine e_iaload (v := xs (i + 2)) d_273_680 (rdX s1 X1 rfl (by omega) (by omega)) rfl ?_
  refine e_vcall (w1 := (some (.int v), σ2)) d_273_681 kc_273_681 rfl ⟨Nat.le_of_ble_eq_true rfl, xx_273.symm⟩ rfl c2 ?_
  show Ev 273 684 [.ref 2000000, .ref 0, .ref 59, .ref 99, .int (nI i), z5, z6] [.int v, .int v] σ2 (some (.int 1), σf)
  exact e_icmp_eq (t := 1455) d_273_684 (by decide) rfl (fun _ => e) (fun hc => absurd rfl hc)
theorem w_689 {t : Nat} {σ : Mm} {D H : Nat → Nat → Nat} {L i : Nat} {xs : Nat → Int32} {z5 z6 : Value} {P : Mm → Prop} (hI : Inv t σ D H) (h9 : S9 σ) (hX : mX σ = (L, xs)) (hi : i + 6 ≤ L) (hL : L ≤ 3072) (hp : PrS 113 225 [.int (xs (i + 1))] t σ) (hk : ∀ t' σ' D' H', Inv t' σ' D' H' → S9 σ' → mX σ' = (L, xs) → mU σ' = mU σ → ∃ σf, Ev 273 1455 [.ref 2000000, .ref 0, .ref 59, .ref 99, .int (nI i), z5, z6] [] σ' (some (.int 1), σf) ∧ P σf) : ∃ σf, Ev 273 689 [.ref 2000000, .ref 0, .ref 59, .ref 99, .int (nI i), z5, z6] [] σ (some (.int 1), σf) ∧ P σf := by
  obtain ⟨v, σ1, σ2, t', D', H', c1, s1, c2, I2⟩ := hp
  have S0 := hI.1.sg
  have u1 := cl_mu (by decide) c1 h9 s1
  have u2 := cl_mu (by decide) c2 u1.1 I2.1.sg
  have X1 : mX σ1 = (L, xs) := u1.2.2.trans hX
  obtain ⟨σf, e, p⟩ := hk _ _ _ _ I2 u2.1 (u2.2.2.trans X1) (u2.2.1.trans u1.2.1)
  refine ⟨σf, ?_, p⟩
  refine e_aload_n d_273_689 rfl rfl ?_
  refine e_aload_n d_273_690 rfl rfl ?_
  refine e_iload d_273_691 rfl rfl ?_
  refine e_iconst d_273_693 ci_1 rfl ?_
  refine e_iadd d_273_694 rfl ?_
  refine e_iaload (v := xs (i + 1)) d_273_695 (rdX S0 hX rfl (by omega) (by omega)) rfl ?_
  refine e_vcall (w1 := (some (.int v), σ1)) d_273_696 kc_273_696 rfl ⟨Nat.le_of_ble_eq_true rfl, xx_273.symm⟩ rfl c1 ?_
  show Ev 273 699 [.ref 2000000, .ref 0, .ref 59, .ref 99, .int (nI i), z5, z6] [.int v] σ1 (some (.int 1), σf)
  refine e_aload_n d_273_699 rfl rfl ?_
  refine e_aload_n d_273_700 rfl rfl ?_
  refine e_iload d_273_701 rfl rfl ?_
  refine e_iconst d_273_703 ci_1 rfl ?_
  refine e_iadd d_273_704 rfl ?_
  refine e_iaload (v := xs (i + 1)) d_273_705 (rdX s1 X1 rfl (by omega) (by omega)) rfl ?_
  refine e_vcall (w1 := (some (.int v), σ2)) d_273_706 kc_273_706 rfl ⟨Nat.le_of_ble_eq_true rfl, xx_273.symm⟩ rfl c2 ?_
  show Ev 273 709 [.ref 2000000, .ref 0, .ref 59, .ref 99, .int (nI i), z5, z6] [.int v, .int v] σ2 (some (.int 1), σf)
  exact e_icmp_eq (t := 1455) d_273_709 (by decide) rfl (fun _ => e) (fun hc => absurd rfl hc)
theorem w_714 {t : Nat} {σ : Mm} {D H : Nat → Nat → Nat} {L i : Nat} {xs : Nat → Int32} {z5 z6 : Value} {P : Mm → Prop} (hI : Inv t σ D H) (h9 : S9 σ) (hX : mX σ = (L, xs)) (hi : i + 6 ≤ L) (hL : L ≤ 3072) (hp : PrS 114 229 [.int (xs (i + 1))] t σ) (hk : ∀ t' σ' D' H', Inv t' σ' D' H' → S9 σ' → mX σ' = (L, xs) → mU σ' = mU σ → ∃ σf, Ev 273 1455 [.ref 2000000, .ref 0, .ref 59, .ref 99, .int (nI i), z5, z6] [] σ' (some (.int 1), σf) ∧ P σf) : ∃ σf, Ev 273 714 [.ref 2000000, .ref 0, .ref 59, .ref 99, .int (nI i), z5, z6] [] σ (some (.int 1), σf) ∧ P σf := by
  obtain ⟨v, σ1, σ2, t', D', H', c1, s1, c2, I2⟩ := hp
  have S0 := hI.1.sg
  have u1 := cl_mu (by decide) c1 h9 s1
  have u2 := cl_mu (by decide) c2 u1.1 I2.1.sg
  have X1 : mX σ1 = (L, xs) := u1.2.2.trans hX
  obtain ⟨σf, e, p⟩ := hk _ _ _ _ I2 u2.1 (u2.2.2.trans X1) (u2.2.1.trans u1.2.1)
  refine ⟨σf, ?_, p⟩
  refine e_aload_n d_273_714 rfl rfl ?_
  refine e_aload_n d_273_715 rfl rfl ?_
  refine e_iload d_273_716 rfl rfl ?_
  refine e_iconst d_273_718 ci_1 rfl ?_
  refine e_iadd d_273_719 rfl ?_
  refine e_iaload (v := xs (i + 1)) d_273_720 (rdX S0 hX rfl (by omega) (by omega)) rfl ?_
  refine e_vcall (w1 := (some (.int v), σ1)) d_273_721 kc_273_721 rfl ⟨Nat.le_of_ble_eq_true rfl, xx_273.symm⟩ rfl c1 ?_
  show Ev 273 724 [.ref 2000000, .ref 0, .ref 59, .ref 99, .int (nI i), z5, z6] [.int v] σ1 (some (.int 1), σf)
  refine e_aload_n d_273_724 rfl rfl ?_
  refine e_aload_n d_273_725 rfl rfl ?_
  refine e_iload d_273_726 rfl rfl ?_
  refine e_iconst d_273_728 ci_1 rfl ?_
  refine e_iadd d_273_729 rfl ?_
  refine e_iaload (v := xs (i + 1)) d_273_730 (rdX s1 X1 rfl (by omega) (by omega)) rfl ?_
  refine e_vcall (w1 := (some (.int v), σ2)) d_273_731 kc_273_731 rfl ⟨Nat.le_of_ble_eq_true rfl, xx_273.symm⟩ rfl c2 ?_
  show Ev 273 734 [.ref 2000000, .ref 0, .ref 59, .ref 99, .int (nI i), z5, z6] [.int v, .int v] σ2 (some (.int 1), σf)
  exact e_icmp_eq (t := 1455) d_273_734 (by decide) rfl (fun _ => e) (fun hc => absurd rfl hc)
theorem w_739 {t : Nat} {σ : Mm} {D H : Nat → Nat → Nat} {L i : Nat} {xs : Nat → Int32} {z5 z6 : Value} {P : Mm → Prop} (hI : Inv t σ D H) (h9 : S9 σ) (hX : mX σ = (L, xs)) (hi : i + 6 ≤ L) (hL : L ≤ 3072) (hp : PrS 115 231 [.int (xs (i + 1))] t σ) (hk : ∀ t' σ' D' H', Inv t' σ' D' H' → S9 σ' → mX σ' = (L, xs) → mU σ' = mU σ → ∃ σf, Ev 273 1455 [.ref 2000000, .ref 0, .ref 59, .ref 99, .int (nI i), z5, z6] [] σ' (some (.int 1), σf) ∧ P σf) : ∃ σf, Ev 273 739 [.ref 2000000, .ref 0, .ref 59, .ref 99, .int (nI i), z5, z6] [] σ (some (.int 1), σf) ∧ P σf := by
  obtain ⟨v, σ1, σ2, t', D', H', c1, s1, c2, I2⟩ := hp
  have S0 := hI.1.sg
  have u1 := cl_mu (by decide) c1 h9 s1
  have u2 := cl_mu (by decide) c2 u1.1 I2.1.sg
  have X1 : mX σ1 = (L, xs) := u1.2.2.trans hX
  obtain ⟨σf, e, p⟩ := hk _ _ _ _ I2 u2.1 (u2.2.2.trans X1) (u2.2.1.trans u1.2.1)
  refine ⟨σf, ?_, p⟩
  refine e_aload_n d_273_739 rfl rfl ?_
  refine e_aload_n d_273_740 rfl rfl ?_
  refine e_iload d_273_741 rfl rfl ?_
  refine e_iconst d_273_743 ci_1 rfl ?_
  refine e_iadd d_273_744 rfl ?_
  refine e_iaload (v := xs (i + 1)) d_273_745 (rdX S0 hX rfl (by omega) (by omega)) rfl ?_
  refine e_vcall (w1 := (some (.int v), σ1)) d_273_746 kc_273_746 rfl ⟨Nat.le_of_ble_eq_true rfl, xx_273.symm⟩ rfl c1 ?_
  show Ev 273 749 [.ref 2000000, .ref 0, .ref 59, .ref 99, .int (nI i), z5, z6] [.int v] σ1 (some (.int 1), σf)
  refine e_aload_n d_273_749 rfl rfl ?_
  refine e_aload_n d_273_750 rfl rfl ?_
  refine e_iload d_273_751 rfl rfl ?_
  refine e_iconst d_273_753 ci_1 rfl ?_
  refine e_iadd d_273_754 rfl ?_
  refine e_iaload (v := xs (i + 1)) d_273_755 (rdX s1 X1 rfl (by omega) (by omega)) rfl ?_
  refine e_vcall (w1 := (some (.int v), σ2)) d_273_756 kc_273_756 rfl ⟨Nat.le_of_ble_eq_true rfl, xx_273.symm⟩ rfl c2 ?_
  show Ev 273 759 [.ref 2000000, .ref 0, .ref 59, .ref 99, .int (nI i), z5, z6] [.int v, .int v] σ2 (some (.int 1), σf)
  exact e_icmp_eq (t := 1455) d_273_759 (by decide) rfl (fun _ => e) (fun hc => absurd rfl hc)
theorem w_764 {t : Nat} {σ : Mm} {D H : Nat → Nat → Nat} {L i : Nat} {xs : Nat → Int32} {z5 z6 : Value} {P : Mm → Prop} (hI : Inv t σ D H) (h9 : S9 σ) (hX : mX σ = (L, xs)) (hi : i + 6 ≤ L) (hL : L ≤ 3072) (hp : PrS 116 232 [.int (xs (i + 1)), .int (xs (i + 2))] t σ) (hk : ∀ t' σ' D' H', Inv t' σ' D' H' → S9 σ' → mX σ' = (L, xs) → mU σ' = mU σ → ∃ σf, Ev 273 1455 [.ref 2000000, .ref 0, .ref 59, .ref 99, .int (nI i), z5, z6] [] σ' (some (.int 1), σf) ∧ P σf) : ∃ σf, Ev 273 764 [.ref 2000000, .ref 0, .ref 59, .ref 99, .int (nI i), z5, z6] [] σ (some (.int 1), σf) ∧ P σf := by
  obtain ⟨v, σ1, σ2, t', D', H', c1, s1, c2, I2⟩ := hp
  have S0 := hI.1.sg
  have u1 := cl_mu (by decide) c1 h9 s1
  have u2 := cl_mu (by decide) c2 u1.1 I2.1.sg
  have X1 : mX σ1 = (L, xs) := u1.2.2.trans hX
  obtain ⟨σf, e, p⟩ := hk _ _ _ _ I2 u2.1 (u2.2.2.trans X1) (u2.2.1.trans u1.2.1)
  refine ⟨σf, ?_, p⟩
  refine e_aload_n d_273_764 rfl rfl ?_
  refine e_aload_n d_273_765 rfl rfl ?_
  refine e_iload d_273_766 rfl rfl ?_
  refine e_iconst d_273_768 ci_1 rfl ?_
  refine e_iadd d_273_769 rfl ?_
  refine e_iaload (v := xs (i + 1)) d_273_770 (rdX S0 hX rfl (by omega) (by omega)) rfl ?_
  refine e_aload_n d_273_771 rfl rfl ?_
  refine e_iload d_273_772 rfl rfl ?_
  refine e_iconst d_273_774 ci_2 rfl ?_
  refine e_iadd d_273_775 rfl ?_
  refine e_iaload (v := xs (i + 2)) d_273_776 (rdX S0 hX rfl (by omega) (by omega)) rfl ?_
  refine e_vcall (w1 := (some (.int v), σ1)) d_273_777 kc_273_777 rfl ⟨Nat.le_of_ble_eq_true rfl, xx_273.symm⟩ rfl c1 ?_
  show Ev 273 780 [.ref 2000000, .ref 0, .ref 59, .ref 99, .int (nI i), z5, z6] [.int v] σ1 (some (.int 1), σf)
  refine e_aload_n d_273_780 rfl rfl ?_
  refine e_aload_n d_273_781 rfl rfl ?_
  refine e_iload d_273_782 rfl rfl ?_
  refine e_iconst d_273_784 ci_1 rfl ?_
  refine e_iadd d_273_785 rfl ?_
  refine e_iaload (v := xs (i + 1)) d_273_786 (rdX s1 X1 rfl (by omega) (by omega)) rfl ?_
  refine e_aload_n d_273_787 rfl rfl ?_
  refine e_iload d_273_788 rfl rfl ?_
  refine e_iconst d_273_790 ci_2 rfl ?_
  refine e_iadd d_273_791 rfl ?_
  refine e_iaload (v := xs (i + 2)) d_273_792 (rdX s1 X1 rfl (by omega) (by omega)) rfl ?_
  refine e_vcall (w1 := (some (.int v), σ2)) d_273_793 kc_273_793 rfl ⟨Nat.le_of_ble_eq_true rfl, xx_273.symm⟩ rfl c2 ?_
  show Ev 273 796 [.ref 2000000, .ref 0, .ref 59, .ref 99, .int (nI i), z5, z6] [.int v, .int v] σ2 (some (.int 1), σf)
  exact e_icmp_eq (t := 1455) d_273_796 (by decide) rfl (fun _ => e) (fun hc => absurd rfl hc)
theorem w_801 {t : Nat} {σ : Mm} {D H : Nat → Nat → Nat} {L i : Nat} {xs : Nat → Int32} {z5 z6 : Value} {P : Mm → Prop} (hI : Inv t σ D H) (h9 : S9 σ) (hX : mX σ = (L, xs)) (hi : i + 6 ≤ L) (hL : L ≤ 3072) (hp : PrS 117 233 [.int (xs (i + 1)), .int (xs (i + 2))] t σ) (hk : ∀ t' σ' D' H', Inv t' σ' D' H' → S9 σ' → mX σ' = (L, xs) → mU σ' = mU σ → ∃ σf, Ev 273 1455 [.ref 2000000, .ref 0, .ref 59, .ref 99, .int (nI i), z5, z6] [] σ' (some (.int 1), σf) ∧ P σf) : ∃ σf, Ev 273 801 [.ref 2000000, .ref 0, .ref 59, .ref 99, .int (nI i), z5, z6] [] σ (some (.int 1), σf) ∧ P σf := by
  obtain ⟨v, σ1, σ2, t', D', H', c1, s1, c2, I2⟩ := hp
  have S0 := hI.1.sg
  have u1 := cl_mu (by decide) c1 h9 s1
  have u2 := cl_mu (by decide) c2 u1.1 I2.1.sg
  have X1 : mX σ1 = (L, xs) := u1.2.2.trans hX
  obtain ⟨σf, e, p⟩ := hk _ _ _ _ I2 u2.1 (u2.2.2.trans X1) (u2.2.1.trans u1.2.1)
  refine ⟨σf, ?_, p⟩
  refine e_aload_n d_273_801 rfl rfl ?_
  refine e_aload_n d_273_802 rfl rfl ?_
  refine e_iload d_273_803 rfl rfl ?_
  refine e_iconst d_273_805 ci_1 rfl ?_
  refine e_iadd d_273_806 rfl ?_
  refine e_iaload (v := xs (i + 1)) d_273_807 (rdX S0 hX rfl (by omega) (by omega)) rfl ?_
  refine e_aload_n d_273_808 rfl rfl ?_
  refine e_iload d_273_809 rfl rfl ?_
  refine e_iconst d_273_811 ci_2 rfl ?_
  refine e_iadd d_273_812 rfl ?_
  refine e_iaload (v := xs (i + 2)) d_273_813 (rdX S0 hX rfl (by omega) (by omega)) rfl ?_
  refine e_vcall (w1 := (some (.int v), σ1)) d_273_814 kc_273_814 rfl ⟨Nat.le_of_ble_eq_true rfl, xx_273.symm⟩ rfl c1 ?_
  show Ev 273 817 [.ref 2000000, .ref 0, .ref 59, .ref 99, .int (nI i), z5, z6] [.int v] σ1 (some (.int 1), σf)
  refine e_aload_n d_273_817 rfl rfl ?_
  refine e_aload_n d_273_818 rfl rfl ?_
  refine e_iload d_273_819 rfl rfl ?_
  refine e_iconst d_273_821 ci_1 rfl ?_
  refine e_iadd d_273_822 rfl ?_
  refine e_iaload (v := xs (i + 1)) d_273_823 (rdX s1 X1 rfl (by omega) (by omega)) rfl ?_
  refine e_aload_n d_273_824 rfl rfl ?_
  refine e_iload d_273_825 rfl rfl ?_
  refine e_iconst d_273_827 ci_2 rfl ?_
  refine e_iadd d_273_828 rfl ?_
  refine e_iaload (v := xs (i + 2)) d_273_829 (rdX s1 X1 rfl (by omega) (by omega)) rfl ?_
  refine e_vcall (w1 := (some (.int v), σ2)) d_273_830 kc_273_830 rfl ⟨Nat.le_of_ble_eq_true rfl, xx_273.symm⟩ rfl c2 ?_
  show Ev 273 833 [.ref 2000000, .ref 0, .ref 59, .ref 99, .int (nI i), z5, z6] [.int v, .int v] σ2 (some (.int 1), σf)
  exact e_icmp_eq (t := 1455) d_273_833 (by decide) rfl (fun _ => e) (fun hc => absurd rfl hc)
theorem w_838 {t : Nat} {σ : Mm} {D H : Nat → Nat → Nat} {L i : Nat} {xs : Nat → Int32} {z5 z6 : Value} {P : Mm → Prop} (hI : Inv t σ D H) (h9 : S9 σ) (hX : mX σ = (L, xs)) (hi : i + 6 ≤ L) (hL : L ≤ 3072) (hp : PrS 118 236 [] t σ) (hk : ∀ t' σ' D' H', Inv t' σ' D' H' → S9 σ' → mX σ' = (L, xs) → mU σ' = mU σ → ∃ σf, Ev 273 1455 [.ref 2000000, .ref 0, .ref 59, .ref 99, .int (nI i), z5, z6] [] σ' (some (.int 1), σf) ∧ P σf) : ∃ σf, Ev 273 838 [.ref 2000000, .ref 0, .ref 59, .ref 99, .int (nI i), z5, z6] [] σ (some (.int 1), σf) ∧ P σf := by
  obtain ⟨v, σ1, σ2, t', D', H', c1, s1, c2, I2⟩ := hp
  have S0 := hI.1.sg
  have u1 := cl_mu (by decide) c1 h9 s1
  have u2 := cl_mu (by decide) c2 u1.1 I2.1.sg
  have X1 : mX σ1 = (L, xs) := u1.2.2.trans hX
  obtain ⟨σf, e, p⟩ := hk _ _ _ _ I2 u2.1 (u2.2.2.trans X1) (u2.2.1.trans u1.2.1)
  refine ⟨σf, ?_, p⟩
  refine e_aload_n d_273_838 rfl rfl ?_
  refine e_vcall (w1 := (some (.int v), σ1)) d_273_839 kc_273_839 rfl ⟨Nat.le_of_ble_eq_true rfl, xx_273.symm⟩ rfl c1 ?_
  show Ev 273 842 [.ref 2000000, .ref 0, .ref 59, .ref 99, .int (nI i), z5, z6] [.int v] σ1 (some (.int 1), σf)
  refine e_aload_n d_273_842 rfl rfl ?_
  refine e_vcall (w1 := (some (.int v), σ2)) d_273_843 kc_273_843 rfl ⟨Nat.le_of_ble_eq_true rfl, xx_273.symm⟩ rfl c2 ?_
  show Ev 273 846 [.ref 2000000, .ref 0, .ref 59, .ref 99, .int (nI i), z5, z6] [.int v, .int v] σ2 (some (.int 1), σf)
  exact e_icmp_eq (t := 1455) d_273_846 (by decide) rfl (fun _ => e) (fun hc => absurd rfl hc)
theorem w_851 {t : Nat} {σ : Mm} {D H : Nat → Nat → Nat} {L i : Nat} {xs : Nat → Int32} {z5 z6 : Value} {P : Mm → Prop} (hI : Inv t σ D H) (h9 : S9 σ) (hX : mX σ = (L, xs)) (hi : i + 6 ≤ L) (hL : L ≤ 3072) (hp : PrS 119 239 [] t σ) (hk : ∀ t' σ' D' H', Inv t' σ' D' H' → S9 σ' → mX σ' = (L, xs) → mU σ' = mU σ → ∃ σf, Ev 273 1455 [.ref 2000000, .ref 0, .ref 59, .ref 99, .int (nI i), z5, z6] [] σ' (some (.int 1), σf) ∧ P σf) : ∃ σf, Ev 273 851 [.ref 2000000, .ref 0, .ref 59, .ref 99, .int (nI i), z5, z6] [] σ (some (.int 1), σf) ∧ P σf := by
  obtain ⟨v, σ1, σ2, t', D', H', c1, s1, c2, I2⟩ := hp
  have S0 := hI.1.sg
  have u1 := cl_mu (by decide) c1 h9 s1
  have u2 := cl_mu (by decide) c2 u1.1 I2.1.sg
  have X1 : mX σ1 = (L, xs) := u1.2.2.trans hX
  obtain ⟨σf, e, p⟩ := hk _ _ _ _ I2 u2.1 (u2.2.2.trans X1) (u2.2.1.trans u1.2.1)
  refine ⟨σf, ?_, p⟩
  refine e_aload_n d_273_851 rfl rfl ?_
  refine e_vcall (w1 := (some (.int v), σ1)) d_273_852 kc_273_852 rfl ⟨Nat.le_of_ble_eq_true rfl, xx_273.symm⟩ rfl c1 ?_
  show Ev 273 855 [.ref 2000000, .ref 0, .ref 59, .ref 99, .int (nI i), z5, z6] [.int v] σ1 (some (.int 1), σf)
  refine e_aload_n d_273_855 rfl rfl ?_
  refine e_vcall (w1 := (some (.int v), σ2)) d_273_856 kc_273_856 rfl ⟨Nat.le_of_ble_eq_true rfl, xx_273.symm⟩ rfl c2 ?_
  show Ev 273 859 [.ref 2000000, .ref 0, .ref 59, .ref 99, .int (nI i), z5, z6] [.int v, .int v] σ2 (some (.int 1), σf)
  exact e_icmp_eq (t := 1455) d_273_859 (by decide) rfl (fun _ => e) (fun hc => absurd rfl hc)
theorem w_864 {t : Nat} {σ : Mm} {D H : Nat → Nat → Nat} {L i : Nat} {xs : Nat → Int32} {z5 z6 : Value} {P : Mm → Prop} (hI : Inv t σ D H) (h9 : S9 σ) (hX : mX σ = (L, xs)) (hi : i + 6 ≤ L) (hL : L ≤ 3072) (hp : PrS 120 240 [.int (xs (i + 1))] t σ) (hk : ∀ t' σ' D' H', Inv t' σ' D' H' → S9 σ' → mX σ' = (L, xs) → mU σ' = mU σ → ∃ σf, Ev 273 1455 [.ref 2000000, .ref 0, .ref 59, .ref 99, .int (nI i), z5, z6] [] σ' (some (.int 1), σf) ∧ P σf) : ∃ σf, Ev 273 864 [.ref 2000000, .ref 0, .ref 59, .ref 99, .int (nI i), z5, z6] [] σ (some (.int 1), σf) ∧ P σf := by
  obtain ⟨v, σ1, σ2, t', D', H', c1, s1, c2, I2⟩ := hp
  have S0 := hI.1.sg
  have u1 := cl_mu (by decide) c1 h9 s1
  have u2 := cl_mu (by decide) c2 u1.1 I2.1.sg
  have X1 : mX σ1 = (L, xs) := u1.2.2.trans hX
  obtain ⟨σf, e, p⟩ := hk _ _ _ _ I2 u2.1 (u2.2.2.trans X1) (u2.2.1.trans u1.2.1)
  refine ⟨σf, ?_, p⟩
  refine e_aload_n d_273_864 rfl rfl ?_
  refine e_aload_n d_273_865 rfl rfl ?_
  refine e_iload d_273_866 rfl rfl ?_
  refine e_iconst d_273_868 ci_1 rfl ?_
  refine e_iadd d_273_869 rfl ?_
  refine e_iaload (v := xs (i + 1)) d_273_870 (rdX S0 hX rfl (by omega) (by omega)) rfl ?_
  refine e_vcall (w1 := (some (.int v), σ1)) d_273_871 kc_273_871 rfl ⟨Nat.le_of_ble_eq_true rfl, xx_273.symm⟩ rfl c1 ?_
  show Ev 273 874 [.ref 2000000, .ref 0, .ref 59, .ref 99, .int (nI i), z5, z6] [.int v] σ1 (some (.int 1), σf)
  refine e_aload_n d_273_874 rfl rfl ?_
  refine e_aload_n d_273_875 rfl rfl ?_
  refine e_iload d_273_876 rfl rfl ?_
  refine e_iconst d_273_878 ci_1 rfl ?_
  refine e_iadd d_273_879 rfl ?_
  refine e_iaload (v := xs (i + 1)) d_273_880 (rdX s1 X1 rfl (by omega) (by omega)) rfl ?_
  refine e_vcall (w1 := (some (.int v), σ2)) d_273_881 kc_273_881 rfl ⟨Nat.le_of_ble_eq_true rfl, xx_273.symm⟩ rfl c2 ?_
  show Ev 273 884 [.ref 2000000, .ref 0, .ref 59, .ref 99, .int (nI i), z5, z6] [.int v, .int v] σ2 (some (.int 1), σf)
  exact e_icmp_eq (t := 1455) d_273_884 (by decide) rfl (fun _ => e) (fun hc => absurd rfl hc)
theorem w_889 {t : Nat} {σ : Mm} {D H : Nat → Nat → Nat} {L i : Nat} {xs : Nat → Int32} {z5 z6 : Value} {P : Mm → Prop} (hI : Inv t σ D H) (h9 : S9 σ) (hX : mX σ = (L, xs)) (hi : i + 6 ≤ L) (hL : L ≤ 3072) (hp : PrS 121 241 [.int (xs (i + 1))] t σ) (hk : ∀ t' σ' D' H', Inv t' σ' D' H' → S9 σ' → mX σ' = (L, xs) → mU σ' = mU σ → ∃ σf, Ev 273 1455 [.ref 2000000, .ref 0, .ref 59, .ref 99, .int (nI i), z5, z6] [] σ' (some (.int 1), σf) ∧ P σf) : ∃ σf, Ev 273 889 [.ref 2000000, .ref 0, .ref 59, .ref 99, .int (nI i), z5, z6] [] σ (some (.int 1), σf) ∧ P σf := by
  obtain ⟨v, σ1, σ2, t', D', H', c1, s1, c2, I2⟩ := hp
  have S0 := hI.1.sg
  have u1 := cl_mu (by decide) c1 h9 s1
  have u2 := cl_mu (by decide) c2 u1.1 I2.1.sg
  have X1 : mX σ1 = (L, xs) := u1.2.2.trans hX
  obtain ⟨σf, e, p⟩ := hk _ _ _ _ I2 u2.1 (u2.2.2.trans X1) (u2.2.1.trans u1.2.1)
  refine ⟨σf, ?_, p⟩
  refine e_aload_n d_273_889 rfl rfl ?_
  refine e_aload_n d_273_890 rfl rfl ?_
  refine e_iload d_273_891 rfl rfl ?_
  refine e_iconst d_273_893 ci_1 rfl ?_
  refine e_iadd d_273_894 rfl ?_
  refine e_iaload (v := xs (i + 1)) d_273_895 (rdX S0 hX rfl (by omega) (by omega)) rfl ?_
  refine e_vcall (w1 := (some (.int v), σ1)) d_273_896 kc_273_896 rfl ⟨Nat.le_of_ble_eq_true rfl, xx_273.symm⟩ rfl c1 ?_
  show Ev 273 899 [.ref 2000000, .ref 0, .ref 59, .ref 99, .int (nI i), z5, z6] [.int v] σ1 (some (.int 1), σf)
  refine e_aload_n d_273_899 rfl rfl ?_
  refine e_aload_n d_273_900 rfl rfl ?_
  refine e_iload d_273_901 rfl rfl ?_
  refine e_iconst d_273_903 ci_1 rfl ?_
  refine e_iadd d_273_904 rfl ?_
  refine e_iaload (v := xs (i + 1)) d_273_905 (rdX s1 X1 rfl (by omega) (by omega)) rfl ?_
  refine e_vcall (w1 := (some (.int v), σ2)) d_273_906 kc_273_906 rfl ⟨Nat.le_of_ble_eq_true rfl, xx_273.symm⟩ rfl c2 ?_
  show Ev 273 909 [.ref 2000000, .ref 0, .ref 59, .ref 99, .int (nI i), z5, z6] [.int v, .int v] σ2 (some (.int 1), σf)
  exact e_icmp_eq (t := 1455) d_273_909 (by decide) rfl (fun _ => e) (fun hc => absurd rfl hc)
theorem w_914 {t : Nat} {σ : Mm} {D H : Nat → Nat → Nat} {L i : Nat} {xs : Nat → Int32} {z5 z6 : Value} {P : Mm → Prop} (hI : Inv t σ D H) (h9 : S9 σ) (hX : mX σ = (L, xs)) (hi : i + 6 ≤ L) (hL : L ≤ 3072) (hp : PrS 122 242 [.int (xs (i + 1))] t σ) (hk : ∀ t' σ' D' H', Inv t' σ' D' H' → S9 σ' → mX σ' = (L, xs) → mU σ' = mU σ → ∃ σf, Ev 273 1455 [.ref 2000000, .ref 0, .ref 59, .ref 99, .int (nI i), z5, z6] [] σ' (some (.int 1), σf) ∧ P σf) : ∃ σf, Ev 273 914 [.ref 2000000, .ref 0, .ref 59, .ref 99, .int (nI i), z5, z6] [] σ (some (.int 1), σf) ∧ P σf := by
  obtain ⟨v, σ1, σ2, t', D', H', c1, s1, c2, I2⟩ := hp
  have S0 := hI.1.sg
  have u1 := cl_mu (by decide) c1 h9 s1
  have u2 := cl_mu (by decide) c2 u1.1 I2.1.sg
  have X1 : mX σ1 = (L, xs) := u1.2.2.trans hX
  obtain ⟨σf, e, p⟩ := hk _ _ _ _ I2 u2.1 (u2.2.2.trans X1) (u2.2.1.trans u1.2.1)
  refine ⟨σf, ?_, p⟩
  refine e_aload_n d_273_914 rfl rfl ?_
  refine e_aload_n d_273_915 rfl rfl ?_
  refine e_iload d_273_916 rfl rfl ?_
  refine e_iconst d_273_918 ci_1 rfl ?_
  refine e_iadd d_273_919 rfl ?_
  refine e_iaload (v := xs (i + 1)) d_273_920 (rdX S0 hX rfl (by omega) (by omega)) rfl ?_
  refine e_vcall (w1 := (some (.int v), σ1)) d_273_921 kc_273_921 rfl ⟨Nat.le_of_ble_eq_true rfl, xx_273.symm⟩ rfl c1 ?_
  show Ev 273 924 [.ref 2000000, .ref 0, .ref 59, .ref 99, .int (nI i), z5, z6] [.int v] σ1 (some (.int 1), σf)
  refine e_aload_n d_273_924 rfl rfl ?_
  refine e_aload_n d_273_925 rfl rfl ?_
  refine e_iload d_273_926 rfl rfl ?_
  refine e_iconst d_273_928 ci_1 rfl ?_
  refine e_iadd d_273_929 rfl ?_
  refine e_iaload (v := xs (i + 1)) d_273_930 (rdX s1 X1 rfl (by omega) (by omega)) rfl ?_
  refine e_vcall (w1 := (some (.int v), σ2)) d_273_931 kc_273_931 rfl ⟨Nat.le_of_ble_eq_true rfl, xx_273.symm⟩ rfl c2 ?_
  show Ev 273 934 [.ref 2000000, .ref 0, .ref 59, .ref 99, .int (nI i), z5, z6] [.int v, .int v] σ2 (some (.int 1), σf)
  exact e_icmp_eq (t := 1455) d_273_934 (by decide) rfl (fun _ => e) (fun hc => absurd rfl hc)
theorem w_939 {t : Nat} {σ : Mm} {D H : Nat → Nat → Nat} {L i : Nat} {xs : Nat → Int32} {z5 z6 : Value} {P : Mm → Prop} (hI : Inv t σ D H) (h9 : S9 σ) (hX : mX σ = (L, xs)) (hi : i + 6 ≤ L) (hL : L ≤ 3072) (hp : PrS 123 243 [.int (xs (i + 1))] t σ) (hk : ∀ t' σ' D' H', Inv t' σ' D' H' → S9 σ' → mX σ' = (L, xs) → mU σ' = mU σ → ∃ σf, Ev 273 1455 [.ref 2000000, .ref 0, .ref 59, .ref 99, .int (nI i), z5, z6] [] σ' (some (.int 1), σf) ∧ P σf) : ∃ σf, Ev 273 939 [.ref 2000000, .ref 0, .ref 59, .ref 99, .int (nI i), z5, z6] [] σ (some (.int 1), σf) ∧ P σf := by
  obtain ⟨v, σ1, σ2, t', D', H', c1, s1, c2, I2⟩ := hp
  have S0 := hI.1.sg
  have u1 := cl_mu (by decide) c1 h9 s1
  have u2 := cl_mu (by decide) c2 u1.1 I2.1.sg
  have X1 : mX σ1 = (L, xs) := u1.2.2.trans hX
  obtain ⟨σf, e, p⟩ := hk _ _ _ _ I2 u2.1 (u2.2.2.trans X1) (u2.2.1.trans u1.2.1)
  refine ⟨σf, ?_, p⟩
  refine e_aload_n d_273_939 rfl rfl ?_
  refine e_aload_n d_273_940 rfl rfl ?_
  refine e_iload d_273_941 rfl rfl ?_
  refine e_iconst d_273_943 ci_1 rfl ?_
  refine e_iadd d_273_944 rfl ?_
  refine e_iaload (v := xs (i + 1)) d_273_945 (rdX S0 hX rfl (by omega) (by omega)) rfl ?_
  refine e_vcall (w1 := (some (.int v), σ1)) d_273_946 kc_273_946 rfl ⟨Nat.le_of_ble_eq_true rfl, xx_273.symm⟩ rfl c1 ?_
  show Ev 273 949 [.ref 2000000, .ref 0, .ref 59, .ref 99, .int (nI i), z5, z6] [.int v] σ1 (some (.int 1), σf)
  refine e_aload_n d_273_949 rfl rfl ?_
  refine e_aload_n d_273_950 rfl rfl ?_
  refine e_iload d_273_951 rfl rfl ?_
  refine e_iconst d_273_953 ci_1 rfl ?_
  refine e_iadd d_273_954 rfl ?_
  refine e_iaload (v := xs (i + 1)) d_273_955 (rdX s1 X1 rfl (by omega) (by omega)) rfl ?_
  refine e_vcall (w1 := (some (.int v), σ2)) d_273_956 kc_273_956 rfl ⟨Nat.le_of_ble_eq_true rfl, xx_273.symm⟩ rfl c2 ?_
  show Ev 273 959 [.ref 2000000, .ref 0, .ref 59, .ref 99, .int (nI i), z5, z6] [.int v, .int v] σ2 (some (.int 1), σf)
  exact e_icmp_eq (t := 1455) d_273_959 (by decide) rfl (fun _ => e) (fun hc => absurd rfl hc)
theorem w_964 {t : Nat} {σ : Mm} {D H : Nat → Nat → Nat} {L i : Nat} {xs : Nat → Int32} {z5 z6 : Value} {P : Mm → Prop} (hI : Inv t σ D H) (h9 : S9 σ) (hX : mX σ = (L, xs)) (hi : i + 6 ≤ L) (hL : L ≤ 3072) (hp : PrS 124 244 [] t σ) (hk : ∀ t' σ' D' H', Inv t' σ' D' H' → S9 σ' → mX σ' = (L, xs) → mU σ' = mU σ → ∃ σf, Ev 273 1455 [.ref 2000000, .ref 0, .ref 59, .ref 99, .int (nI i), z5, z6] [] σ' (some (.int 1), σf) ∧ P σf) : ∃ σf, Ev 273 964 [.ref 2000000, .ref 0, .ref 59, .ref 99, .int (nI i), z5, z6] [] σ (some (.int 1), σf) ∧ P σf := by
  obtain ⟨v, σ1, σ2, t', D', H', c1, s1, c2, I2⟩ := hp
  have S0 := hI.1.sg
  have u1 := cl_mu (by decide) c1 h9 s1
  have u2 := cl_mu (by decide) c2 u1.1 I2.1.sg
  have X1 : mX σ1 = (L, xs) := u1.2.2.trans hX
  obtain ⟨σf, e, p⟩ := hk _ _ _ _ I2 u2.1 (u2.2.2.trans X1) (u2.2.1.trans u1.2.1)
  refine ⟨σf, ?_, p⟩
  refine e_aload_n d_273_964 rfl rfl ?_
  refine e_vcall (w1 := (some (.int v), σ1)) d_273_965 kc_273_965 rfl ⟨Nat.le_of_ble_eq_true rfl, xx_273.symm⟩ rfl c1 ?_
  show Ev 273 968 [.ref 2000000, .ref 0, .ref 59, .ref 99, .int (nI i), z5, z6] [.int v] σ1 (some (.int 1), σf)
  refine e_aload_n d_273_968 rfl rfl ?_
  refine e_vcall (w1 := (some (.int v), σ2)) d_273_969 kc_273_969 rfl ⟨Nat.le_of_ble_eq_true rfl, xx_273.symm⟩ rfl c2 ?_
  show Ev 273 972 [.ref 2000000, .ref 0, .ref 59, .ref 99, .int (nI i), z5, z6] [.int v, .int v] σ2 (some (.int 1), σf)
  exact e_icmp_eq (t := 1455) d_273_972 (by decide) rfl (fun _ => e) (fun hc => absurd rfl hc)
theorem w_977 {t : Nat} {σ : Mm} {D H : Nat → Nat → Nat} {L i : Nat} {xs : Nat → Int32} {z5 z6 : Value} {P : Mm → Prop} (hI : Inv t σ D H) (h9 : S9 σ) (hX : mX σ = (L, xs)) (hi : i + 6 ≤ L) (hL : L ≤ 3072) (hp : PrS 125 246 [.int (xs (i + 1))] t σ) (hk : ∀ t' σ' D' H', Inv t' σ' D' H' → S9 σ' → mX σ' = (L, xs) → mU σ' = mU σ → ∃ σf, Ev 273 1455 [.ref 2000000, .ref 0, .ref 59, .ref 99, .int (nI i), z5, z6] [] σ' (some (.int 1), σf) ∧ P σf) : ∃ σf, Ev 273 977 [.ref 2000000, .ref 0, .ref 59, .ref 99, .int (nI i), z5, z6] [] σ (some (.int 1), σf) ∧ P σf := by
  obtain ⟨v, σ1, σ2, t', D', H', c1, s1, c2, I2⟩ := hp
  have S0 := hI.1.sg
  have u1 := cl_mu (by decide) c1 h9 s1
  have u2 := cl_mu (by decide) c2 u1.1 I2.1.sg
  have X1 : mX σ1 = (L, xs) := u1.2.2.trans hX
  obtain ⟨σf, e, p⟩ := hk _ _ _ _ I2 u2.1 (u2.2.2.trans X1) (u2.2.1.trans u1.2.1)
  refine ⟨σf, ?_, p⟩
  refine e_aload_n d_273_977 rfl rfl ?_
  refine e_aload_n d_273_978 rfl rfl ?_
  refine e_iload d_273_979 rfl rfl ?_
  refine e_iconst d_273_981 ci_1 rfl ?_
  refine e_iadd d_273_982 rfl ?_
  refine e_iaload (v := xs (i + 1)) d_273_983 (rdX S0 hX rfl (by omega) (by omega)) rfl ?_
  refine e_vcall (w1 := (some (.int v), σ1)) d_273_984 kc_273_984 rfl ⟨Nat.le_of_ble_eq_true rfl, xx_273.symm⟩ rfl c1 ?_
  show Ev 273 987 [.ref 2000000, .ref 0, .ref 59, .ref 99, .int (nI i), z5, z6] [.int v] σ1 (some (.int 1), σf)
  refine e_aload_n d_273_987 rfl rfl ?_
  refine e_aload_n d_273_988 rfl rfl ?_
  refine e_iload d_273_989 rfl rfl ?_
  refine e_iconst d_273_991 ci_1 rfl ?_
  refine e_iadd d_273_992 rfl ?_
  refine e_iaload (v := xs (i + 1)) d_273_993 (rdX s1 X1 rfl (by omega) (by omega)) rfl ?_
  refine e_vcall (w1 := (some (.int v), σ2)) d_273_994 kc_273_994 rfl ⟨Nat.le_of_ble_eq_true rfl, xx_273.symm⟩ rfl c2 ?_
  show Ev 273 997 [.ref 2000000, .ref 0, .ref 59, .ref 99, .int (nI i), z5, z6] [.int v, .int v] σ2 (some (.int 1), σf)
  exact e_icmp_eq (t := 1455) d_273_997 (by decide) rfl (fun _ => e) (fun hc => absurd rfl hc)
theorem w_1002 {t : Nat} {σ : Mm} {D H : Nat → Nat → Nat} {L i : Nat} {xs : Nat → Int32} {z5 z6 : Value} {P : Mm → Prop} (hI : Inv t σ D H) (h9 : S9 σ) (hX : mX σ = (L, xs)) (hi : i + 6 ≤ L) (hL : L ≤ 3072) (hp : PrS 126 247 [.int (xs (i + 1)), .int (xs (i + 2))] t σ) (hk : ∀ t' σ' D' H', Inv t' σ' D' H' → S9 σ' → mX σ' = (L, xs) → mU σ' = mU σ → ∃ σf, Ev 273 1455 [.ref 2000000, .ref 0, .ref 59, .ref 99, .int (nI i), z5, z6] [] σ' (some (.int 1), σf) ∧ P σf) : ∃ σf, Ev 273 1002 [.ref 2000000, .ref 0, .ref 59, .ref 99, .int (nI i), z5, z6] [] σ (some (.int 1), σf) ∧ P σf := by
  obtain ⟨v, σ1, σ2, t', D', H', c1, s1, c2, I2⟩ := hp
  have S0 := hI.1.sg
  have u1 := cl_mu (by decide) c1 h9 s1
  have u2 := cl_mu (by decide) c2 u1.1 I2.1.sg
  have X1 : mX σ1 = (L, xs) := u1.2.2.trans hX
  obtain ⟨σf, e, p⟩ := hk _ _ _ _ I2 u2.1 (u2.2.2.trans X1) (u2.2.1.trans u1.2.1)
  refine ⟨σf, ?_, p⟩
  refine e_aload_n d_273_1002 rfl rfl ?_
  refine e_aload_n d_273_1003 rfl rfl ?_
  refine e_iload d_273_1004 rfl rfl ?_
  refine e_iconst d_273_1006 ci_1 rfl ?_
  refine e_iadd d_273_1007 rfl ?_
  refine e_iaload (v := xs (i + 1)) d_273_1008 (rdX S0 hX rfl (by omega) (by omega)) rfl ?_
  refine e_aload_n d_273_1009 rfl rfl ?_
  refine e_iload d_273_1010 rfl rfl ?_
  refine e_iconst d_273_1012 ci_2 rfl ?_
  refine e_iadd d_273_1013 rfl ?_
  refine e_iaload (v := xs (i + 2)) d_273_1014 (rdX S0 hX rfl (by omega) (by omega)) rfl ?_
  refine e_vcall (w1 := (some (.int v), σ1)) d_273_1015 kc_273_1015 rfl ⟨Nat.le_of_ble_eq_true rfl, xx_273.symm⟩ rfl c1 ?_
  show Ev 273 1018 [.ref 2000000, .ref 0, .ref 59, .ref 99, .int (nI i), z5, z6] [.int v] σ1 (some (.int 1), σf)
  refine e_aload_n d_273_1018 rfl rfl ?_
  refine e_aload_n d_273_1019 rfl rfl ?_
  refine e_iload d_273_1020 rfl rfl ?_
  refine e_iconst d_273_1022 ci_1 rfl ?_
  refine e_iadd d_273_1023 rfl ?_
  refine e_iaload (v := xs (i + 1)) d_273_1024 (rdX s1 X1 rfl (by omega) (by omega)) rfl ?_
  refine e_aload_n d_273_1025 rfl rfl ?_
  refine e_iload d_273_1026 rfl rfl ?_
  refine e_iconst d_273_1028 ci_2 rfl ?_
  refine e_iadd d_273_1029 rfl ?_
  refine e_iaload (v := xs (i + 2)) d_273_1030 (rdX s1 X1 rfl (by omega) (by omega)) rfl ?_
  refine e_vcall (w1 := (some (.int v), σ2)) d_273_1031 kc_273_1031 rfl ⟨Nat.le_of_ble_eq_true rfl, xx_273.symm⟩ rfl c2 ?_
  show Ev 273 1034 [.ref 2000000, .ref 0, .ref 59, .ref 99, .int (nI i), z5, z6] [.int v, .int v] σ2 (some (.int 1), σf)
  exact e_icmp_eq (t := 1455) d_273_1034 (by decide) rfl (fun _ => e) (fun hc => absurd rfl hc)
theorem w_1039 {t : Nat} {σ : Mm} {D H : Nat → Nat → Nat} {L i : Nat} {xs : Nat → Int32} {z5 z6 : Value} {P : Mm → Prop} (hI : Inv t σ D H) (h9 : S9 σ) (hX : mX σ = (L, xs)) (hi : i + 6 ≤ L) (hL : L ≤ 3072) (hp : PrS 127 248 [.int (xs (i + 1))] t σ) (hk : ∀ t' σ' D' H', Inv t' σ' D' H' → S9 σ' → mX σ' = (L, xs) → mU σ' = mU σ → ∃ σf, Ev 273 1455 [.ref 2000000, .ref 0, .ref 59, .ref 99, .int (nI i), z5, z6] [] σ' (some (.int 1), σf) ∧ P σf) : ∃ σf, Ev 273 1039 [.ref 2000000, .ref 0, .ref 59, .ref 99, .int (nI i), z5, z6] [] σ (some (.int 1), σf) ∧ P σf := by
  obtain ⟨v, σ1, σ2, t', D', H', c1, s1, c2, I2⟩ := hp
  have S0 := hI.1.sg
  have u1 := cl_mu (by decide) c1 h9 s1
  have u2 := cl_mu (by decide) c2 u1.1 I2.1.sg
  have X1 : mX σ1 = (L, xs) := u1.2.2.trans hX
  obtain ⟨σf, e, p⟩ := hk _ _ _ _ I2 u2.1 (u2.2.2.trans X1) (u2.2.1.trans u1.2.1)
  refine ⟨σf, ?_, p⟩
  refine e_aload_n d_273_1039 rfl rfl ?_
  refine e_aload_n d_273_1040 rfl rfl ?_
  refine e_iload d_273_1041 rfl rfl ?_
  refine e_iconst d_273_1043 ci_1 rfl ?_
  refine e_iadd d_273_1044 rfl ?_
  refine e_iaload (v := xs (i + 1)) d_273_1045 (rdX S0 hX rfl (by omega) (by omega)) rfl ?_
  refine e_vcall (w1 := (some (.int v), σ1)) d_273_1046 kc_273_1046 rfl ⟨Nat.le_of_ble_eq_true rfl, xx_273.symm⟩ rfl c1 ?_
  show Ev 273 1049 [.ref 2000000, .ref 0, .ref 59, .ref 99, .int (nI i), z5, z6] [.int v] σ1 (some (.int 1), σf)
  refine e_aload_n d_273_1049 rfl rfl ?_
  refine e_aload_n d_273_1050 rfl rfl ?_
  refine e_iload d_273_1051 rfl rfl ?_
  refine e_iconst d_273_1053 ci_1 rfl ?_
  refine e_iadd d_273_1054 rfl ?_
  refine e_iaload (v := xs (i + 1)) d_273_1055 (rdX s1 X1 rfl (by omega) (by omega)) rfl ?_
  refine e_vcall (w1 := (some (.int v), σ2)) d_273_1056 kc_273_1056 rfl ⟨Nat.le_of_ble_eq_true rfl, xx_273.symm⟩ rfl c2 ?_
  show Ev 273 1059 [.ref 2000000, .ref 0, .ref 59, .ref 99, .int (nI i), z5, z6] [.int v, .int v] σ2 (some (.int 1), σf)
  exact e_icmp_eq (t := 1455) d_273_1059 (by decide) rfl (fun _ => e) (fun hc => absurd rfl hc)
theorem w_1064 {t : Nat} {σ : Mm} {D H : Nat → Nat → Nat} {L i : Nat} {xs : Nat → Int32} {z5 z6 : Value} {P : Mm → Prop} (hI : Inv t σ D H) (h9 : S9 σ) (hX : mX σ = (L, xs)) (hi : i + 6 ≤ L) (hL : L ≤ 3072) (hp : PrS 128 251 [.int (xs (i + 1))] t σ) (hk : ∀ t' σ' D' H', Inv t' σ' D' H' → S9 σ' → mX σ' = (L, xs) → mU σ' = mU σ → ∃ σf, Ev 273 1455 [.ref 2000000, .ref 0, .ref 59, .ref 99, .int (nI i), z5, z6] [] σ' (some (.int 1), σf) ∧ P σf) : ∃ σf, Ev 273 1064 [.ref 2000000, .ref 0, .ref 59, .ref 99, .int (nI i), z5, z6] [] σ (some (.int 1), σf) ∧ P σf := by
  obtain ⟨v, σ1, σ2, t', D', H', c1, s1, c2, I2⟩ := hp
  have S0 := hI.1.sg
  have u1 := cl_mu (by decide) c1 h9 s1
  have u2 := cl_mu (by decide) c2 u1.1 I2.1.sg
  have X1 : mX σ1 = (L, xs) := u1.2.2.trans hX
  obtain ⟨σf, e, p⟩ := hk _ _ _ _ I2 u2.1 (u2.2.2.trans X1) (u2.2.1.trans u1.2.1)
  refine ⟨σf, ?_, p⟩
  refine e_aload_n d_273_1064 rfl rfl ?_
  refine e_aload_n d_273_1065 rfl rfl ?_
  refine e_iload d_273_1066 rfl rfl ?_
  refine e_iconst d_273_1068 ci_1 rfl ?_
  refine e_iadd d_273_1069 rfl ?_
  refine e_iaload (v := xs (i + 1)) d_273_1070 (rdX S0 hX rfl (by omega) (by omega)) rfl ?_
  refine e_vcall (w1 := (some (.int v), σ1)) d_273_1071 kc_273_1071 rfl ⟨Nat.le_of_ble_eq_true rfl, xx_273.symm⟩ rfl c1 ?_
  show Ev 273 1074 [.ref 2000000, .ref 0, .ref 59, .ref 99, .int (nI i), z5, z6] [.int v] σ1 (some (.int 1), σf)
  refine e_aload_n d_273_1074 rfl rfl ?_
  refine e_aload_n d_273_1075 rfl rfl ?_
  refine e_iload d_273_1076 rfl rfl ?_
  refine e_iconst d_273_1078 ci_1 rfl ?_
  refine e_iadd d_273_1079 rfl ?_
  refine e_iaload (v := xs (i + 1)) d_273_1080 (rdX s1 X1 rfl (by omega) (by omega)) rfl ?_
  refine e_vcall (w1 := (some (.int v), σ2)) d_273_1081 kc_273_1081 rfl ⟨Nat.le_of_ble_eq_true rfl, xx_273.symm⟩ rfl c2 ?_
  show Ev 273 1084 [.ref 2000000, .ref 0, .ref 59, .ref 99, .int (nI i), z5, z6] [.int v, .int v] σ2 (some (.int 1), σf)
  exact e_icmp_eq (t := 1455) d_273_1084 (by decide) rfl (fun _ => e) (fun hc => absurd rfl hc)
theorem w_1089 {t : Nat} {σ : Mm} {D H : Nat → Nat → Nat} {L i : Nat} {xs : Nat → Int32} {z5 z6 : Value} {P : Mm → Prop} (hI : Inv t σ D H) (h9 : S9 σ) (hX : mX σ = (L, xs)) (hi : i + 6 ≤ L) (hL : L ≤ 3072) (hp : PrT 129 252 [.int (xs (i + 1)), .int (xs (i + 2))] t σ) (hk : ∀ t' σ' D' H', Inv t' σ' D' H' → S9 σ' → mX σ' = (L, xs) → mU σ' = mU σ → ∃ σf, Ev 273 1455 [.ref 2000000, .ref 0, .ref 59, .ref 99, .int (nI i), z5, z6] [] σ' (some (.int 1), σf) ∧ P σf) : ∃ σf, Ev 273 1089 [.ref 2000000, .ref 0, .ref 59, .ref 99, .int (nI i), z5, z6] [] σ (some (.int 1), σf) ∧ P σf := by
  obtain ⟨v, σ1, σ2, t', D', H', c1, s1, c2, I2⟩ := hp
  have S0 := hI.1.sg
  have u1 := cl_mu (by decide) c1 h9 s1
  have u2 := cl_mu (by decide) c2 u1.1 I2.1.sg
  have X1 : mX σ1 = (L, xs) := u1.2.2.trans hX
  obtain ⟨σf, e, p⟩ := hk _ _ _ _ I2 u2.1 (u2.2.2.trans X1) (u2.2.1.trans u1.2.1)
  refine ⟨σf, ?_, p⟩
  refine e_aload_n d_273_1089 rfl rfl ?_
  refine e_aload_n d_273_1090 rfl rfl ?_
  refine e_iload d_273_1091 rfl rfl ?_
  refine e_iconst d_273_1093 ci_1 rfl ?_
  refine e_iadd d_273_1094 rfl ?_
  refine e_iaload (v := xs (i + 1)) d_273_1095 (rdX S0 hX rfl (by omega) (by omega)) rfl ?_
  refine e_aload_n d_273_1096 rfl rfl ?_
  refine e_iload d_273_1097 rfl rfl ?_
  refine e_iconst d_273_1099 ci_2 rfl ?_
  refine e_iadd d_273_1100 rfl ?_
  refine e_iaload (v := xs (i + 2)) d_273_1101 (rdX S0 hX rfl (by omega) (by omega)) rfl ?_
  refine e_vcall (w1 := (some (.long v), σ1)) d_273_1102 kc_273_1102 rfl ⟨Nat.le_of_ble_eq_true rfl, xx_273.symm⟩ rfl c1 ?_
  show Ev 273 1105 [.ref 2000000, .ref 0, .ref 59, .ref 99, .int (nI i), z5, z6] [.long v] σ1 (some (.int 1), σf)
  refine e_aload_n d_273_1105 rfl rfl ?_
  refine e_aload_n d_273_1106 rfl rfl ?_
  refine e_iload d_273_1107 rfl rfl ?_
  refine e_iconst d_273_1109 ci_1 rfl ?_
  refine e_iadd d_273_1110 rfl ?_
  refine e_iaload (v := xs (i + 1)) d_273_1111 (rdX s1 X1 rfl (by omega) (by omega)) rfl ?_
  refine e_aload_n d_273_1112 rfl rfl ?_
  refine e_iload d_273_1113 rfl rfl ?_
  refine e_iconst d_273_1115 ci_2 rfl ?_
  refine e_iadd d_273_1116 rfl ?_
  refine e_iaload (v := xs (i + 2)) d_273_1117 (rdX s1 X1 rfl (by omega) (by omega)) rfl ?_
  refine e_vcall (w1 := (some (.long v), σ2)) d_273_1118 kc_273_1118 rfl ⟨Nat.le_of_ble_eq_true rfl, xx_273.symm⟩ rfl c2 ?_
  show Ev 273 1121 [.ref 2000000, .ref 0, .ref 59, .ref 99, .int (nI i), z5, z6] [.long v, .long v] σ2 (some (.int 1), σf)
  exact e_lc_eq (t := 1455) d_273_1121 d_273_1122 rfl (by decide) rfl (fun _ => e) (fun hc => absurd rfl hc)
theorem w_1127_y {t : Nat} {σ : Mm} {D H : Nat → Nat → Nat} {L i : Nat} {xs : Nat → Int32} {z5 z6 : Value} {P : Mm → Prop} (hI : Inv t σ D H) (h9 : S9 σ) (hX : mX σ = (L, xs)) (hi : i + 6 ≤ L) (hL : L ≤ 3072) (he : xs (i + 3) = 0) (hp : PrS 130 254 [.int (xs (i + 1)), .int (xs (i + 2)), .int 0] t σ) (hk : ∀ t' σ' D' H', Inv t' σ' D' H' → S9 σ' → mX σ' = (L, xs) → mU σ' = mU σ → ∃ σf, Ev 273 1455 [.ref 2000000, .ref 0, .ref 59, .ref 99, .int (nI i), z5, z6] [] σ' (some (.int 1), σf) ∧ P σf) : ∃ σf, Ev 273 1127 [.ref 2000000, .ref 0, .ref 59, .ref 99, .int (nI i), z5, z6] [] σ (some (.int 1), σf) ∧ P σf := by
  obtain ⟨v, σ1, σ2, t', D', H', c1, s1, c2, I2⟩ := hp
  have S0 := hI.1.sg
  have u1 := cl_mu (by decide) c1 h9 s1
  have u2 := cl_mu (by decide) c2 u1.1 I2.1.sg
  have X1 : mX σ1 = (L, xs) := u1.2.2.trans hX
  obtain ⟨σf, e, p⟩ := hk _ _ _ _ I2 u2.1 (u2.2.2.trans X1) (u2.2.1.trans u1.2.1)
  refine ⟨σf, ?_, p⟩
  refine e_aload_n d_273_1127 rfl rfl ?_
  refine e_aload_n d_273_1128 rfl rfl ?_
  refine e_iload d_273_1129 rfl rfl ?_
  refine e_iconst d_273_1131 ci_1 rfl ?_
  refine e_iadd d_273_1132 rfl ?_
  refine e_iaload (v := xs (i + 1)) d_273_1133 (rdX S0 hX rfl (by omega) (by omega)) rfl ?_
  refine e_aload_n d_273_1134 rfl rfl ?_
  refine e_iload d_273_1135 rfl rfl ?_
  refine e_iconst d_273_1137 ci_2 rfl ?_
  refine e_iadd d_273_1138 rfl ?_
  refine e_iaload (v := xs (i + 2)) d_273_1139 (rdX S0 hX rfl (by omega) (by omega)) rfl ?_
  refine e_aload_n d_273_1140 rfl rfl ?_
  refine e_iload d_273_1141 rfl rfl ?_
  refine e_iconst d_273_1143 ci_3 rfl ?_
  refine e_iadd d_273_1144 rfl ?_
  refine e_iaload (v := xs (i + 3)) d_273_1145 (rdX S0 hX rfl (by omega) (by omega)) rfl ?_
  refine e_if_eq (t := 1153) d_273_1146 (by decide) rfl (fun _ => ?_) (fun hc => absurd he hc)
  refine e_iconst d_273_1153 ci_0 rfl ?_
  refine e_vcall (w1 := (some (.int v), σ1)) d_273_1154 kc_273_1154 rfl ⟨Nat.le_of_ble_eq_true rfl, xx_273.symm⟩ rfl c1 ?_
  show Ev 273 1157 [.ref 2000000, .ref 0, .ref 59, .ref 99, .int (nI i), z5, z6] [.int v] σ1 (some (.int 1), σf)
  refine e_aload_n d_273_1157 rfl rfl ?_
  refine e_aload_n d_273_1158 rfl rfl ?_
  refine e_iload d_273_1159 rfl rfl ?_
  refine e_iconst d_273_1161 ci_1 rfl ?_
  refine e_iadd d_273_1162 rfl ?_
  refine e_iaload (v := xs (i + 1)) d_273_1163 (rdX s1 X1 rfl (by omega) (by omega)) rfl ?_
  refine e_aload_n d_273_1164 rfl rfl ?_
  refine e_iload d_273_1165 rfl rfl ?_
  refine e_iconst d_273_1167 ci_2 rfl ?_
  refine e_iadd d_273_1168 rfl ?_
  refine e_iaload (v := xs (i + 2)) d_273_1169 (rdX s1 X1 rfl (by omega) (by omega)) rfl ?_
  refine e_aload_n d_273_1170 rfl rfl ?_
  refine e_iload d_273_1171 rfl rfl ?_
  refine e_iconst d_273_1173 ci_3 rfl ?_
  refine e_iadd d_273_1174 rfl ?_
  refine e_iaload (v := xs (i + 3)) d_273_1175 (rdX s1 X1 rfl (by omega) (by omega)) rfl ?_
  refine e_if_eq (t := 1183) d_273_1176 (by decide) rfl (fun _ => ?_) (fun hc => absurd he hc)
  refine e_iconst d_273_1183 ci_0 rfl ?_
  refine e_vcall (w1 := (some (.int v), σ2)) d_273_1184 kc_273_1184 rfl ⟨Nat.le_of_ble_eq_true rfl, xx_273.symm⟩ rfl c2 ?_
  show Ev 273 1187 [.ref 2000000, .ref 0, .ref 59, .ref 99, .int (nI i), z5, z6] [.int v, .int v] σ2 (some (.int 1), σf)
  exact e_icmp_eq (t := 1455) d_273_1187 (by decide) rfl (fun _ => e) (fun hc => absurd rfl hc)
theorem w_1127_n {t : Nat} {σ : Mm} {D H : Nat → Nat → Nat} {L i : Nat} {xs : Nat → Int32} {z5 z6 : Value} {P : Mm → Prop} (hI : Inv t σ D H) (h9 : S9 σ) (hX : mX σ = (L, xs)) (hi : i + 6 ≤ L) (hL : L ≤ 3072) (he : ¬ xs (i + 3) = 0) (hp : PrS 130 254 [.int (xs (i + 1)), .int (xs (i + 2)), .int 1] t σ) (hk : ∀ t' σ' D' H', Inv t' σ' D' H' → S9 σ' → mX σ' = (L, xs) → mU σ' = mU σ → ∃ σf, Ev 273 1455 [.ref 2000000, .ref 0, .ref 59, .ref 99, .int (nI i), z5, z6] [] σ' (some (.int 1), σf) ∧ P σf) : ∃ σf, Ev 273 1127 [.ref 2000000, .ref 0, .ref 59, .ref 99, .int (nI i), z5, z6] [] σ (some (.int 1), σf) ∧ P σf := by
  obtain ⟨v, σ1, σ2, t', D', H', c1, s1, c2, I2⟩ := hp
  have S0 := hI.1.sg
  have u1 := cl_mu (by decide) c1 h9 s1
  have u2 := cl_mu (by decide) c2 u1.1 I2.1.sg
  have X1 : mX σ1 = (L, xs) := u1.2.2.trans hX
  obtain ⟨σf, e, p⟩ := hk _ _ _ _ I2 u2.1 (u2.2.2.trans X1) (u2.2.1.trans u1.2.1)
  refine ⟨σf, ?_, p⟩
  refine e_aload_n d_273_1127 rfl rfl ?_
  refine e_aload_n d_273_1128 rfl rfl ?_
  refine e_iload d_273_1129 rfl rfl ?_
  refine e_iconst d_273_1131 ci_1 rfl ?_
  refine e_iadd d_273_1132 rfl ?_
  refine e_iaload (v := xs (i + 1)) d_273_1133 (rdX S0 hX rfl (by omega) (by omega)) rfl ?_
  refine e_aload_n d_273_1134 rfl rfl ?_
  refine e_iload d_273_1135 rfl rfl ?_
  refine e_iconst d_273_1137 ci_2 rfl ?_
  refine e_iadd d_273_1138 rfl ?_
  refine e_iaload (v := xs (i + 2)) d_273_1139 (rdX S0 hX rfl (by omega) (by omega)) rfl ?_
  refine e_aload_n d_273_1140 rfl rfl ?_
  refine e_iload d_273_1141 rfl rfl ?_
  refine e_iconst d_273_1143 ci_3 rfl ?_
  refine e_iadd d_273_1144 rfl ?_
  refine e_iaload (v := xs (i + 3)) d_273_1145 (rdX S0 hX rfl (by omega) (by omega)) rfl ?_
  refine e_if_eq (t := 1153) d_273_1146 (by decide) rfl (fun hc => absurd hc he) (fun _ => ?_)
  refine e_iconst d_273_1149 ci_1 rfl ?_
  refine e_goto (t := 1154) d_273_1150 (by decide) ?_
  refine e_vcall (w1 := (some (.int v), σ1)) d_273_1154 kc_273_1154 rfl ⟨Nat.le_of_ble_eq_true rfl, xx_273.symm⟩ rfl c1 ?_
  show Ev 273 1157 [.ref 2000000, .ref 0, .ref 59, .ref 99, .int (nI i), z5, z6] [.int v] σ1 (some (.int 1), σf)
  refine e_aload_n d_273_1157 rfl rfl ?_
  refine e_aload_n d_273_1158 rfl rfl ?_
  refine e_iload d_273_1159 rfl rfl ?_
  refine e_iconst d_273_1161 ci_1 rfl ?_
  refine e_iadd d_273_1162 rfl ?_
  refine e_iaload (v := xs (i + 1)) d_273_1163 (rdX s1 X1 rfl (by omega) (by omega)) rfl ?_
  refine e_aload_n d_273_1164 rfl rfl ?_
  refine e_iload d_273_1165 rfl rfl ?_
  refine e_iconst d_273_1167 ci_2 rfl ?_
  refine e_iadd d_273_1168 rfl ?_
  refine e_iaload (v := xs (i + 2)) d_273_1169 (rdX s1 X1 rfl (by omega) (by omega)) rfl ?_
  refine e_aload_n d_273_1170 rfl rfl ?_
  refine e_iload d_273_1171 rfl rfl ?_
  refine e_iconst d_273_1173 ci_3 rfl ?_
  refine e_iadd d_273_1174 rfl ?_
  refine e_iaload (v := xs (i + 3)) d_273_1175 (rdX s1 X1 rfl (by omega) (by omega)) rfl ?_
  refine e_if_eq (t := 1183) d_273_1176 (by decide) rfl (fun hc => absurd hc he) (fun _ => ?_)
  refine e_iconst d_273_1179 ci_1 rfl ?_
  refine e_goto (t := 1184) d_273_1180 (by decide) ?_
  refine e_vcall (w1 := (some (.int v), σ2)) d_273_1184 kc_273_1184 rfl ⟨Nat.le_of_ble_eq_true rfl, xx_273.symm⟩ rfl c2 ?_
  show Ev 273 1187 [.ref 2000000, .ref 0, .ref 59, .ref 99, .int (nI i), z5, z6] [.int v, .int v] σ2 (some (.int 1), σf)
  exact e_icmp_eq (t := 1455) d_273_1187 (by decide) rfl (fun _ => e) (fun hc => absurd rfl hc)
theorem w_1192 {t : Nat} {σ : Mm} {D H : Nat → Nat → Nat} {L i : Nat} {xs : Nat → Int32} {z5 z6 : Value} {P : Mm → Prop} (hI : Inv t σ D H) (h9 : S9 σ) (hX : mX σ = (L, xs)) (hi : i + 6 ≤ L) (hL : L ≤ 3072) (hp : PrS 131 255 [.int (xs (i + 1))] t σ) (hk : ∀ t' σ' D' H', Inv t' σ' D' H' → S9 σ' → mX σ' = (L, xs) → mU σ' = mU σ → ∃ σf, Ev 273 1455 [.ref 2000000, .ref 0, .ref 59, .ref 99, .int (nI i), z5, z6] [] σ' (some (.int 1), σf) ∧ P σf) : ∃ σf, Ev 273 1192 [.ref 2000000, .ref 0, .ref 59, .ref 99, .int (nI i), z5, z6] [] σ (some (.int 1), σf) ∧ P σf := by
  obtain ⟨v, σ1, σ2, t', D', H', c1, s1, c2, I2⟩ := hp
  have S0 := hI.1.sg
  have u1 := cl_mu (by decide) c1 h9 s1
  have u2 := cl_mu (by decide) c2 u1.1 I2.1.sg
  have X1 : mX σ1 = (L, xs) := u1.2.2.trans hX
  obtain ⟨σf, e, p⟩ := hk _ _ _ _ I2 u2.1 (u2.2.2.trans X1) (u2.2.1.trans u1.2.1)
  refine ⟨σf, ?_, p⟩
  refine e_aload_n d_273_1192 rfl rfl ?_
  refine e_aload_n d_273_1193 rfl rfl ?_
  refine e_iload d_273_1194 rfl rfl ?_
  refine e_iconst d_273_1196 ci_1 rfl ?_
  refine e_iadd d_273_1197 rfl ?_
  refine e_iaload (v := xs (i + 1)) d_273_1198 (rdX S0 hX rfl (by omega) (by omega)) rfl ?_
  refine e_vcall (w1 := (some (.int v), σ1)) d_273_1199 kc_273_1199 rfl ⟨Nat.le_of_ble_eq_true rfl, xx_273.symm⟩ rfl c1 ?_
  show Ev 273 1202 [.ref 2000000, .ref 0, .ref 59, .ref 99, .int (nI i), z5, z6] [.int v] σ1 (some (.int 1), σf)
  refine e_aload_n d_273_1202 rfl rfl ?_
  refine e_aload_n d_273_1203 rfl rfl ?_
  refine e_iload d_273_1204 rfl rfl ?_
  refine e_iconst d_273_1206 ci_1 rfl ?_
  refine e_iadd d_273_1207 rfl ?_
  refine e_iaload (v := xs (i + 1)) d_273_1208 (rdX s1 X1 rfl (by omega) (by omega)) rfl ?_
  refine e_vcall (w1 := (some (.int v), σ2)) d_273_1209 kc_273_1209 rfl ⟨Nat.le_of_ble_eq_true rfl, xx_273.symm⟩ rfl c2 ?_
  show Ev 273 1212 [.ref 2000000, .ref 0, .ref 59, .ref 99, .int (nI i), z5, z6] [.int v, .int v] σ2 (some (.int 1), σf)
  exact e_icmp_eq (t := 1455) d_273_1212 (by decide) rfl (fun _ => e) (fun hc => absurd rfl hc)
theorem w_1217 {t : Nat} {σ : Mm} {D H : Nat → Nat → Nat} {L i : Nat} {xs : Nat → Int32} {z5 z6 : Value} {P : Mm → Prop} (hI : Inv t σ D H) (h9 : S9 σ) (hX : mX σ = (L, xs)) (hi : i + 6 ≤ L) (hL : L ≤ 3072) (hp : PrS 132 256 [.int (xs (i + 1))] t σ) (hk : ∀ t' σ' D' H', Inv t' σ' D' H' → S9 σ' → mX σ' = (L, xs) → mU σ' = mU σ → ∃ σf, Ev 273 1455 [.ref 2000000, .ref 0, .ref 59, .ref 99, .int (nI i), z5, z6] [] σ' (some (.int 1), σf) ∧ P σf) : ∃ σf, Ev 273 1217 [.ref 2000000, .ref 0, .ref 59, .ref 99, .int (nI i), z5, z6] [] σ (some (.int 1), σf) ∧ P σf := by
  obtain ⟨v, σ1, σ2, t', D', H', c1, s1, c2, I2⟩ := hp
  have S0 := hI.1.sg
  have u1 := cl_mu (by decide) c1 h9 s1
  have u2 := cl_mu (by decide) c2 u1.1 I2.1.sg
  have X1 : mX σ1 = (L, xs) := u1.2.2.trans hX
  obtain ⟨σf, e, p⟩ := hk _ _ _ _ I2 u2.1 (u2.2.2.trans X1) (u2.2.1.trans u1.2.1)
  refine ⟨σf, ?_, p⟩
  refine e_aload_n d_273_1217 rfl rfl ?_
  refine e_aload_n d_273_1218 rfl rfl ?_
  refine e_iload d_273_1219 rfl rfl ?_
  refine e_iconst d_273_1221 ci_1 rfl ?_
  refine e_iadd d_273_1222 rfl ?_
  refine e_iaload (v := xs (i + 1)) d_273_1223 (rdX S0 hX rfl (by omega) (by omega)) rfl ?_
  refine e_vcall (w1 := (some (.int v), σ1)) d_273_1224 kc_273_1224 rfl ⟨Nat.le_of_ble_eq_true rfl, xx_273.symm⟩ rfl c1 ?_
  show Ev 273 1227 [.ref 2000000, .ref 0, .ref 59, .ref 99, .int (nI i), z5, z6] [.int v] σ1 (some (.int 1), σf)
  refine e_aload_n d_273_1227 rfl rfl ?_
  refine e_aload_n d_273_1228 rfl rfl ?_
  refine e_iload d_273_1229 rfl rfl ?_
  refine e_iconst d_273_1231 ci_1 rfl ?_
  refine e_iadd d_273_1232 rfl ?_
  refine e_iaload (v := xs (i + 1)) d_273_1233 (rdX s1 X1 rfl (by omega) (by omega)) rfl ?_
  refine e_vcall (w1 := (some (.int v), σ2)) d_273_1234 kc_273_1234 rfl ⟨Nat.le_of_ble_eq_true rfl, xx_273.symm⟩ rfl c2 ?_
  show Ev 273 1237 [.ref 2000000, .ref 0, .ref 59, .ref 99, .int (nI i), z5, z6] [.int v, .int v] σ2 (some (.int 1), σf)
  exact e_icmp_eq (t := 1455) d_273_1237 (by decide) rfl (fun _ => e) (fun hc => absurd rfl hc)
theorem w_1242 {t : Nat} {σ : Mm} {D H : Nat → Nat → Nat} {L i : Nat} {xs : Nat → Int32} {z5 z6 : Value} {P : Mm → Prop} (hI : Inv t σ D H) (h9 : S9 σ) (hX : mX σ = (L, xs)) (hi : i + 6 ≤ L) (hL : L ≤ 3072) (hp : PrS 133 261 [] t σ) (hk : ∀ t' σ' D' H', Inv t' σ' D' H' → S9 σ' → mX σ' = (L, xs) → mU σ' = mU σ → ∃ σf, Ev 273 1455 [.ref 2000000, .ref 0, .ref 59, .ref 99, .int (nI i), z5, z6] [] σ' (some (.int 1), σf) ∧ P σf) : ∃ σf, Ev 273 1242 [.ref 2000000, .ref 0, .ref 59, .ref 99, .int (nI i), z5, z6] [] σ (some (.int 1), σf) ∧ P σf := by
  obtain ⟨v, σ1, σ2, t', D', H', c1, s1, c2, I2⟩ := hp
  have S0 := hI.1.sg
  have u1 := cl_mu (by decide) c1 h9 s1
  have u2 := cl_mu (by decide) c2 u1.1 I2.1.sg
  have X1 : mX σ1 = (L, xs) := u1.2.2.trans hX
  obtain ⟨σf, e, p⟩ := hk _ _ _ _ I2 u2.1 (u2.2.2.trans X1) (u2.2.1.trans u1.2.1)
  refine ⟨σf, ?_, p⟩
  refine e_aload_n d_273_1242 rfl rfl ?_
  refine e_vcall (w1 := (some (.int v), σ1)) d_273_1243 kc_273_1243 rfl ⟨Nat.le_of_ble_eq_true rfl, xx_273.symm⟩ rfl c1 ?_
  show Ev 273 1246 [.ref 2000000, .ref 0, .ref 59, .ref 99, .int (nI i), z5, z6] [.int v] σ1 (some (.int 1), σf)
  refine e_aload_n d_273_1246 rfl rfl ?_
  refine e_vcall (w1 := (some (.int v), σ2)) d_273_1247 kc_273_1247 rfl ⟨Nat.le_of_ble_eq_true rfl, xx_273.symm⟩ rfl c2 ?_
  show Ev 273 1250 [.ref 2000000, .ref 0, .ref 59, .ref 99, .int (nI i), z5, z6] [.int v, .int v] σ2 (some (.int 1), σf)
  exact e_icmp_eq (t := 1455) d_273_1250 (by decide) rfl (fun _ => e) (fun hc => absurd rfl hc)
theorem w_1255 {t : Nat} {σ : Mm} {D H : Nat → Nat → Nat} {L i : Nat} {xs : Nat → Int32} {z5 z6 : Value} {P : Mm → Prop} (hI : Inv t σ D H) (h9 : S9 σ) (hX : mX σ = (L, xs)) (hi : i + 6 ≤ L) (hL : L ≤ 3072) (hp : PrS 134 262 [.int (xs (i + 1))] t σ) (hk : ∀ t' σ' D' H', Inv t' σ' D' H' → S9 σ' → mX σ' = (L, xs) → mU σ' = mU σ → ∃ σf, Ev 273 1455 [.ref 2000000, .ref 0, .ref 59, .ref 99, .int (nI i), z5, z6] [] σ' (some (.int 1), σf) ∧ P σf) : ∃ σf, Ev 273 1255 [.ref 2000000, .ref 0, .ref 59, .ref 99, .int (nI i), z5, z6] [] σ (some (.int 1), σf) ∧ P σf := by
  obtain ⟨v, σ1, σ2, t', D', H', c1, s1, c2, I2⟩ := hp
  have S0 := hI.1.sg
  have u1 := cl_mu (by decide) c1 h9 s1
  have u2 := cl_mu (by decide) c2 u1.1 I2.1.sg
  have X1 : mX σ1 = (L, xs) := u1.2.2.trans hX
  obtain ⟨σf, e, p⟩ := hk _ _ _ _ I2 u2.1 (u2.2.2.trans X1) (u2.2.1.trans u1.2.1)
  refine ⟨σf, ?_, p⟩
  refine e_aload_n d_273_1255 rfl rfl ?_
  refine e_aload_n d_273_1256 rfl rfl ?_
  refine e_iload d_273_1257 rfl rfl ?_
  refine e_iconst d_273_1259 ci_1 rfl ?_
  refine e_iadd d_273_1260 rfl ?_
  refine e_iaload (v := xs (i + 1)) d_273_1261 (rdX S0 hX rfl (by omega) (by omega)) rfl ?_
  refine e_vcall (w1 := (some (.int v), σ1)) d_273_1262 kc_273_1262 rfl ⟨Nat.le_of_ble_eq_true rfl, xx_273.symm⟩ rfl c1 ?_
  show Ev 273 1265 [.ref 2000000, .ref 0, .ref 59, .ref 99, .int (nI i), z5, z6] [.int v] σ1 (some (.int 1), σf)
  refine e_aload_n d_273_1265 rfl rfl ?_
  refine e_aload_n d_273_1266 rfl rfl ?_
  refine e_iload d_273_1267 rfl rfl ?_
  refine e_iconst d_273_1269 ci_1 rfl ?_
  refine e_iadd d_273_1270 rfl ?_
  refine e_iaload (v := xs (i + 1)) d_273_1271 (rdX s1 X1 rfl (by omega) (by omega)) rfl ?_
  refine e_vcall (w1 := (some (.int v), σ2)) d_273_1272 kc_273_1272 rfl ⟨Nat.le_of_ble_eq_true rfl, xx_273.symm⟩ rfl c2 ?_
  show Ev 273 1275 [.ref 2000000, .ref 0, .ref 59, .ref 99, .int (nI i), z5, z6] [.int v, .int v] σ2 (some (.int 1), σf)
  exact e_icmp_eq (t := 1455) d_273_1275 (by decide) rfl (fun _ => e) (fun hc => absurd rfl hc)
theorem w_1280 {t : Nat} {σ : Mm} {D H : Nat → Nat → Nat} {L i : Nat} {xs : Nat → Int32} {z5 z6 : Value} {P : Mm → Prop} (hI : Inv t σ D H) (h9 : S9 σ) (hX : mX σ = (L, xs)) (hi : i + 6 ≤ L) (hL : L ≤ 3072) (hp : PrS 135 263 [] t σ) (hk : ∀ t' σ' D' H', Inv t' σ' D' H' → S9 σ' → mX σ' = (L, xs) → mU σ' = mU σ → ∃ σf, Ev 273 1455 [.ref 2000000, .ref 0, .ref 59, .ref 99, .int (nI i), z5, z6] [] σ' (some (.int 1), σf) ∧ P σf) : ∃ σf, Ev 273 1280 [.ref 2000000, .ref 0, .ref 59, .ref 99, .int (nI i), z5, z6] [] σ (some (.int 1), σf) ∧ P σf := by
  obtain ⟨v, σ1, σ2, t', D', H', c1, s1, c2, I2⟩ := hp
  have S0 := hI.1.sg
  have u1 := cl_mu (by decide) c1 h9 s1
  have u2 := cl_mu (by decide) c2 u1.1 I2.1.sg
  have X1 : mX σ1 = (L, xs) := u1.2.2.trans hX
  obtain ⟨σf, e, p⟩ := hk _ _ _ _ I2 u2.1 (u2.2.2.trans X1) (u2.2.1.trans u1.2.1)
  refine ⟨σf, ?_, p⟩
  refine e_aload_n d_273_1280 rfl rfl ?_
  refine e_vcall (w1 := (some (.int v), σ1)) d_273_1281 kc_273_1281 rfl ⟨Nat.le_of_ble_eq_true rfl, xx_273.symm⟩ rfl c1 ?_
  show Ev 273 1284 [.ref 2000000, .ref 0, .ref 59, .ref 99, .int (nI i), z5, z6] [.int v] σ1 (some (.int 1), σf)
  refine e_aload_n d_273_1284 rfl rfl ?_
  refine e_vcall (w1 := (some (.int v), σ2)) d_273_1285 kc_273_1285 rfl ⟨Nat.le_of_ble_eq_true rfl, xx_273.symm⟩ rfl c2 ?_
  show Ev 273 1288 [.ref 2000000, .ref 0, .ref 59, .ref 99, .int (nI i), z5, z6] [.int v, .int v] σ2 (some (.int 1), σf)
  exact e_icmp_eq (t := 1455) d_273_1288 (by decide) rfl (fun _ => e) (fun hc => absurd rfl hc)
theorem w_1293 {t : Nat} {σ : Mm} {D H : Nat → Nat → Nat} {L i : Nat} {xs : Nat → Int32} {z5 z6 : Value} {P : Mm → Prop} (hI : Inv t σ D H) (h9 : S9 σ) (hX : mX σ = (L, xs)) (hi : i + 6 ≤ L) (hL : L ≤ 3072) (hp : PrS 136 264 [.int (xs (i + 1)), .int (xs (i + 2)), .int (xs (i + 3))] t σ) (hk : ∀ t' σ' D' H', Inv t' σ' D' H' → S9 σ' → mX σ' = (L, xs) → mU σ' = mU σ → ∃ σf, Ev 273 1455 [.ref 2000000, .ref 0, .ref 59, .ref 99, .int (nI i), z5, z6] [] σ' (some (.int 1), σf) ∧ P σf) : ∃ σf, Ev 273 1293 [.ref 2000000, .ref 0, .ref 59, .ref 99, .int (nI i), z5, z6] [] σ (some (.int 1), σf) ∧ P σf := by
  obtain ⟨v, σ1, σ2, t', D', H', c1, s1, c2, I2⟩ := hp
  have S0 := hI.1.sg
  have u1 := cl_mu (by decide) c1 h9 s1
  have u2 := cl_mu (by decide) c2 u1.1 I2.1.sg
  have X1 : mX σ1 = (L, xs) := u1.2.2.trans hX
  obtain ⟨σf, e, p⟩ := hk _ _ _ _ I2 u2.1 (u2.2.2.trans X1) (u2.2.1.trans u1.2.1)
  refine ⟨σf, ?_, p⟩
  refine e_aload_n d_273_1293 rfl rfl ?_
  refine e_aload_n d_273_1294 rfl rfl ?_
  refine e_iload d_273_1295 rfl rfl ?_
  refine e_iconst d_273_1297 ci_1 rfl ?_
  refine e_iadd d_273_1298 rfl ?_
  refine e_iaload (v := xs (i + 1)) d_273_1299 (rdX S0 hX rfl (by omega) (by omega)) rfl ?_
  refine e_aload_n d_273_1300 rfl rfl ?_
  refine e_iload d_273_1301 rfl rfl ?_
  refine e_iconst d_273_1303 ci_2 rfl ?_
  refine e_iadd d_273_1304 rfl ?_
  refine e_iaload (v := xs (i + 2)) d_273_1305 (rdX S0 hX rfl (by omega) (by omega)) rfl ?_
  refine e_aload_n d_273_1306 rfl rfl ?_
  refine e_iload d_273_1307 rfl rfl ?_
  refine e_iconst d_273_1309 ci_3 rfl ?_
  refine e_iadd d_273_1310 rfl ?_
  refine e_iaload (v := xs (i + 3)) d_273_1311 (rdX S0 hX rfl (by omega) (by omega)) rfl ?_
  refine e_vcall (w1 := (some (.int v), σ1)) d_273_1312 kc_273_1312 rfl ⟨Nat.le_of_ble_eq_true rfl, xx_273.symm⟩ rfl c1 ?_
  show Ev 273 1315 [.ref 2000000, .ref 0, .ref 59, .ref 99, .int (nI i), z5, z6] [.int v] σ1 (some (.int 1), σf)
  refine e_aload_n d_273_1315 rfl rfl ?_
  refine e_aload_n d_273_1316 rfl rfl ?_
  refine e_iload d_273_1317 rfl rfl ?_
  refine e_iconst d_273_1319 ci_1 rfl ?_
  refine e_iadd d_273_1320 rfl ?_
  refine e_iaload (v := xs (i + 1)) d_273_1321 (rdX s1 X1 rfl (by omega) (by omega)) rfl ?_
  refine e_aload_n d_273_1322 rfl rfl ?_
  refine e_iload d_273_1323 rfl rfl ?_
  refine e_iconst d_273_1325 ci_2 rfl ?_
  refine e_iadd d_273_1326 rfl ?_
  refine e_iaload (v := xs (i + 2)) d_273_1327 (rdX s1 X1 rfl (by omega) (by omega)) rfl ?_
  refine e_aload_n d_273_1328 rfl rfl ?_
  refine e_iload d_273_1329 rfl rfl ?_
  refine e_iconst d_273_1331 ci_3 rfl ?_
  refine e_iadd d_273_1332 rfl ?_
  refine e_iaload (v := xs (i + 3)) d_273_1333 (rdX s1 X1 rfl (by omega) (by omega)) rfl ?_
  refine e_vcall (w1 := (some (.int v), σ2)) d_273_1334 kc_273_1334 rfl ⟨Nat.le_of_ble_eq_true rfl, xx_273.symm⟩ rfl c2 ?_
  show Ev 273 1337 [.ref 2000000, .ref 0, .ref 59, .ref 99, .int (nI i), z5, z6] [.int v, .int v] σ2 (some (.int 1), σf)
  exact e_icmp_eq (t := 1455) d_273_1337 (by decide) rfl (fun _ => e) (fun hc => absurd rfl hc)
theorem w_1342 {t : Nat} {σ : Mm} {D H : Nat → Nat → Nat} {L i : Nat} {xs : Nat → Int32} {z5 z6 : Value} {P : Mm → Prop} (hI : Inv t σ D H) (h9 : S9 σ) (hX : mX σ = (L, xs)) (hi : i + 6 ≤ L) (hL : L ≤ 3072) (hp : PrS 137 265 [.int (xs (i + 1)), .int (xs (i + 2)), .int (xs (i + 3))] t σ) (hk : ∀ t' σ' D' H', Inv t' σ' D' H' → S9 σ' → mX σ' = (L, xs) → mU σ' = mU σ → ∃ σf, Ev 273 1455 [.ref 2000000, .ref 0, .ref 59, .ref 99, .int (nI i), z5, z6] [] σ' (some (.int 1), σf) ∧ P σf) : ∃ σf, Ev 273 1342 [.ref 2000000, .ref 0, .ref 59, .ref 99, .int (nI i), z5, z6] [] σ (some (.int 1), σf) ∧ P σf := by
  obtain ⟨v, σ1, σ2, t', D', H', c1, s1, c2, I2⟩ := hp
  have S0 := hI.1.sg
  have u1 := cl_mu (by decide) c1 h9 s1
  have u2 := cl_mu (by decide) c2 u1.1 I2.1.sg
  have X1 : mX σ1 = (L, xs) := u1.2.2.trans hX
  obtain ⟨σf, e, p⟩ := hk _ _ _ _ I2 u2.1 (u2.2.2.trans X1) (u2.2.1.trans u1.2.1)
  refine ⟨σf, ?_, p⟩
  refine e_aload_n d_273_1342 rfl rfl ?_
  refine e_aload_n d_273_1343 rfl rfl ?_
  refine e_iload d_273_1344 rfl rfl ?_
  refine e_iconst d_273_1346 ci_1 rfl ?_
  refine e_iadd d_273_1347 rfl ?_
  refine e_iaload (v := xs (i + 1)) d_273_1348 (rdX S0 hX rfl (by omega) (by omega)) rfl ?_
  refine e_aload_n d_273_1349 rfl rfl ?_
  refine e_iload d_273_1350 rfl rfl ?_
  refine e_iconst d_273_1352 ci_2 rfl ?_
  refine e_iadd d_273_1353 rfl ?_
  refine e_iaload (v := xs (i + 2)) d_273_1354 (rdX S0 hX rfl (by omega) (by omega)) rfl ?_
  refine e_aload_n d_273_1355 rfl rfl ?_
  refine e_iload d_273_1356 rfl rfl ?_
  refine e_iconst d_273_1358 ci_3 rfl ?_
  refine e_iadd d_273_1359 rfl ?_
  refine e_iaload (v := xs (i + 3)) d_273_1360 (rdX S0 hX rfl (by omega) (by omega)) rfl ?_
  refine e_vcall (w1 := (some (.int v), σ1)) d_273_1361 kc_273_1361 rfl ⟨Nat.le_of_ble_eq_true rfl, xx_273.symm⟩ rfl c1 ?_
  show Ev 273 1364 [.ref 2000000, .ref 0, .ref 59, .ref 99, .int (nI i), z5, z6] [.int v] σ1 (some (.int 1), σf)
  refine e_aload_n d_273_1364 rfl rfl ?_
  refine e_aload_n d_273_1365 rfl rfl ?_
  refine e_iload d_273_1366 rfl rfl ?_
  refine e_iconst d_273_1368 ci_1 rfl ?_
  refine e_iadd d_273_1369 rfl ?_
  refine e_iaload (v := xs (i + 1)) d_273_1370 (rdX s1 X1 rfl (by omega) (by omega)) rfl ?_
  refine e_aload_n d_273_1371 rfl rfl ?_
  refine e_iload d_273_1372 rfl rfl ?_
  refine e_iconst d_273_1374 ci_2 rfl ?_
  refine e_iadd d_273_1375 rfl ?_
  refine e_iaload (v := xs (i + 2)) d_273_1376 (rdX s1 X1 rfl (by omega) (by omega)) rfl ?_
  refine e_aload_n d_273_1377 rfl rfl ?_
  refine e_iload d_273_1378 rfl rfl ?_
  refine e_iconst d_273_1380 ci_3 rfl ?_
  refine e_iadd d_273_1381 rfl ?_
  refine e_iaload (v := xs (i + 3)) d_273_1382 (rdX s1 X1 rfl (by omega) (by omega)) rfl ?_
  refine e_vcall (w1 := (some (.int v), σ2)) d_273_1383 kc_273_1383 rfl ⟨Nat.le_of_ble_eq_true rfl, xx_273.symm⟩ rfl c2 ?_
  show Ev 273 1386 [.ref 2000000, .ref 0, .ref 59, .ref 99, .int (nI i), z5, z6] [.int v, .int v] σ2 (some (.int 1), σf)
  exact e_icmp_eq (t := 1455) d_273_1386 (by decide) rfl (fun _ => e) (fun hc => absurd rfl hc)
theorem w_1391 {t : Nat} {σ : Mm} {D H : Nat → Nat → Nat} {L i : Nat} {xs : Nat → Int32} {z5 z6 : Value} {P : Mm → Prop} (hI : Inv t σ D H) (h9 : S9 σ) (hX : mX σ = (L, xs)) (hi : i + 6 ≤ L) (hL : L ≤ 3072) (hp : PrS 138 269 [] t σ) (hk : ∀ t' σ' D' H', Inv t' σ' D' H' → S9 σ' → mX σ' = (L, xs) → mU σ' = mU σ → ∃ σf, Ev 273 1455 [.ref 2000000, .ref 0, .ref 59, .ref 99, .int (nI i), z5, z6] [] σ' (some (.int 1), σf) ∧ P σf) : ∃ σf, Ev 273 1391 [.ref 2000000, .ref 0, .ref 59, .ref 99, .int (nI i), z5, z6] [] σ (some (.int 1), σf) ∧ P σf := by
  obtain ⟨v, σ1, σ2, t', D', H', c1, s1, c2, I2⟩ := hp
  have S0 := hI.1.sg
  have u1 := cl_mu (by decide) c1 h9 s1
  have u2 := cl_mu (by decide) c2 u1.1 I2.1.sg
  have X1 : mX σ1 = (L, xs) := u1.2.2.trans hX
  obtain ⟨σf, e, p⟩ := hk _ _ _ _ I2 u2.1 (u2.2.2.trans X1) (u2.2.1.trans u1.2.1)
  refine ⟨σf, ?_, p⟩
  refine e_aload_n d_273_1391 rfl rfl ?_
  refine e_vcall (w1 := (some (.int v), σ1)) d_273_1392 kc_273_1392 rfl ⟨Nat.le_of_ble_eq_true rfl, xx_273.symm⟩ rfl c1 ?_
  show Ev 273 1395 [.ref 2000000, .ref 0, .ref 59, .ref 99, .int (nI i), z5, z6] [.int v] σ1 (some (.int 1), σf)
  refine e_aload_n d_273_1395 rfl rfl ?_
  refine e_vcall (w1 := (some (.int v), σ2)) d_273_1396 kc_273_1396 rfl ⟨Nat.le_of_ble_eq_true rfl, xx_273.symm⟩ rfl c2 ?_
  show Ev 273 1399 [.ref 2000000, .ref 0, .ref 59, .ref 99, .int (nI i), z5, z6] [.int v, .int v] σ2 (some (.int 1), σf)
  exact e_icmp_eq (t := 1455) d_273_1399 (by decide) rfl (fun _ => e) (fun hc => absurd rfl hc)
theorem w_1404 {t : Nat} {σ : Mm} {D H : Nat → Nat → Nat} {L i : Nat} {xs : Nat → Int32} {z5 z6 : Value} {P : Mm → Prop} (hI : Inv t σ D H) (h9 : S9 σ) (hX : mX σ = (L, xs)) (hi : i + 6 ≤ L) (hL : L ≤ 3072) (hp : PrS 139 270 [] t σ) (hk : ∀ t' σ' D' H', Inv t' σ' D' H' → S9 σ' → mX σ' = (L, xs) → mU σ' = mU σ → ∃ σf, Ev 273 1455 [.ref 2000000, .ref 0, .ref 59, .ref 99, .int (nI i), z5, z6] [] σ' (some (.int 1), σf) ∧ P σf) : ∃ σf, Ev 273 1404 [.ref 2000000, .ref 0, .ref 59, .ref 99, .int (nI i), z5, z6] [] σ (some (.int 1), σf) ∧ P σf := by
  obtain ⟨v, σ1, σ2, t', D', H', c1, s1, c2, I2⟩ := hp
  have S0 := hI.1.sg
  have u1 := cl_mu (by decide) c1 h9 s1
  have u2 := cl_mu (by decide) c2 u1.1 I2.1.sg
  have X1 : mX σ1 = (L, xs) := u1.2.2.trans hX
  obtain ⟨σf, e, p⟩ := hk _ _ _ _ I2 u2.1 (u2.2.2.trans X1) (u2.2.1.trans u1.2.1)
  refine ⟨σf, ?_, p⟩
  refine e_aload_n d_273_1404 rfl rfl ?_
  refine e_vcall (w1 := (some (.int v), σ1)) d_273_1405 kc_273_1405 rfl ⟨Nat.le_of_ble_eq_true rfl, xx_273.symm⟩ rfl c1 ?_
  show Ev 273 1408 [.ref 2000000, .ref 0, .ref 59, .ref 99, .int (nI i), z5, z6] [.int v] σ1 (some (.int 1), σf)
  refine e_aload_n d_273_1408 rfl rfl ?_
  refine e_vcall (w1 := (some (.int v), σ2)) d_273_1409 kc_273_1409 rfl ⟨Nat.le_of_ble_eq_true rfl, xx_273.symm⟩ rfl c2 ?_
  show Ev 273 1412 [.ref 2000000, .ref 0, .ref 59, .ref 99, .int (nI i), z5, z6] [.int v, .int v] σ2 (some (.int 1), σf)
  exact e_icmp_eq (t := 1455) d_273_1412 (by decide) rfl (fun _ => e) (fun hc => absurd rfl hc)
theorem w_1417 {t : Nat} {σ : Mm} {D H : Nat → Nat → Nat} {L i : Nat} {xs : Nat → Int32} {z5 z6 : Value} {P : Mm → Prop} (hI : Inv t σ D H) (h9 : S9 σ) (hX : mX σ = (L, xs)) (hi : i + 6 ≤ L) (hL : L ≤ 3072) (hp : PrS 140 271 [] t σ) (hk : ∀ t' σ' D' H', Inv t' σ' D' H' → S9 σ' → mX σ' = (L, xs) → mU σ' = mU σ → ∃ σf, Ev 273 1455 [.ref 2000000, .ref 0, .ref 59, .ref 99, .int (nI i), z5, z6] [] σ' (some (.int 1), σf) ∧ P σf) : ∃ σf, Ev 273 1417 [.ref 2000000, .ref 0, .ref 59, .ref 99, .int (nI i), z5, z6] [] σ (some (.int 1), σf) ∧ P σf := by
  obtain ⟨v, σ1, σ2, t', D', H', c1, s1, c2, I2⟩ := hp
  have S0 := hI.1.sg
  have u1 := cl_mu (by decide) c1 h9 s1
  have u2 := cl_mu (by decide) c2 u1.1 I2.1.sg
  have X1 : mX σ1 = (L, xs) := u1.2.2.trans hX
  obtain ⟨σf, e, p⟩ := hk _ _ _ _ I2 u2.1 (u2.2.2.trans X1) (u2.2.1.trans u1.2.1)
  refine ⟨σf, ?_, p⟩
  refine e_aload_n d_273_1417 rfl rfl ?_
  refine e_vcall (w1 := (some (.int v), σ1)) d_273_1418 kc_273_1418 rfl ⟨Nat.le_of_ble_eq_true rfl, xx_273.symm⟩ rfl c1 ?_
  show Ev 273 1421 [.ref 2000000, .ref 0, .ref 59, .ref 99, .int (nI i), z5, z6] [.int v] σ1 (some (.int 1), σf)
  refine e_aload_n d_273_1421 rfl rfl ?_
  refine e_vcall (w1 := (some (.int v), σ2)) d_273_1422 kc_273_1422 rfl ⟨Nat.le_of_ble_eq_true rfl, xx_273.symm⟩ rfl c2 ?_
  show Ev 273 1425 [.ref 2000000, .ref 0, .ref 59, .ref 99, .int (nI i), z5, z6] [.int v, .int v] σ2 (some (.int 1), σf)
  exact e_icmp_eq (t := 1455) d_273_1425 (by decide) rfl (fun _ => e) (fun hc => absurd rfl hc)
theorem w_1430 {t : Nat} {σ : Mm} {D H : Nat → Nat → Nat} {L i : Nat} {xs : Nat → Int32} {z5 z6 : Value} {P : Mm → Prop} (hI : Inv t σ D H) (h9 : S9 σ) (hX : mX σ = (L, xs)) (hi : i + 6 ≤ L) (hL : L ≤ 3072) (hp : PrS 141 272 [.int (xs (i + 1))] t σ) (hk : ∀ t' σ' D' H', Inv t' σ' D' H' → S9 σ' → mX σ' = (L, xs) → mU σ' = mU σ → ∃ σf, Ev 273 1455 [.ref 2000000, .ref 0, .ref 59, .ref 99, .int (nI i), z5, z6] [] σ' (some (.int 1), σf) ∧ P σf) : ∃ σf, Ev 273 1430 [.ref 2000000, .ref 0, .ref 59, .ref 99, .int (nI i), z5, z6] [] σ (some (.int 1), σf) ∧ P σf := by
  obtain ⟨v, σ1, σ2, t', D', H', c1, s1, c2, I2⟩ := hp
  have S0 := hI.1.sg
  have u1 := cl_mu (by decide) c1 h9 s1
  have u2 := cl_mu (by decide) c2 u1.1 I2.1.sg
  have X1 : mX σ1 = (L, xs) := u1.2.2.trans hX
  obtain ⟨σf, e, p⟩ := hk _ _ _ _ I2 u2.1 (u2.2.2.trans X1) (u2.2.1.trans u1.2.1)
  refine ⟨σf, ?_, p⟩
  refine e_aload_n d_273_1430 rfl rfl ?_
  refine e_aload_n d_273_1431 rfl rfl ?_
  refine e_iload d_273_1432 rfl rfl ?_
  refine e_iconst d_273_1434 ci_1 rfl ?_
  refine e_iadd d_273_1435 rfl ?_
  refine e_iaload (v := xs (i + 1)) d_273_1436 (rdX S0 hX rfl (by omega) (by omega)) rfl ?_
  refine e_vcall (w1 := (some (.int v), σ1)) d_273_1437 kc_273_1437 rfl ⟨Nat.le_of_ble_eq_true rfl, xx_273.symm⟩ rfl c1 ?_
  show Ev 273 1440 [.ref 2000000, .ref 0, .ref 59, .ref 99, .int (nI i), z5, z6] [.int v] σ1 (some (.int 1), σf)
  refine e_aload_n d_273_1440 rfl rfl ?_
  refine e_aload_n d_273_1441 rfl rfl ?_
  refine e_iload d_273_1442 rfl rfl ?_
  refine e_iconst d_273_1444 ci_1 rfl ?_
  refine e_iadd d_273_1445 rfl ?_
  refine e_iaload (v := xs (i + 1)) d_273_1446 (rdX s1 X1 rfl (by omega) (by omega)) rfl ?_
  refine e_vcall (w1 := (some (.int v), σ2)) d_273_1447 kc_273_1447 rfl ⟨Nat.le_of_ble_eq_true rfl, xx_273.symm⟩ rfl c2 ?_
  show Ev 273 1450 [.ref 2000000, .ref 0, .ref 59, .ref 99, .int (nI i), z5, z6] [.int v, .int v] σ2 (some (.int 1), σf)
  exact e_icmp_eq (t := 1455) d_273_1450 (by decide) rfl (fun _ => e) (fun hc => absurd rfl hc)
