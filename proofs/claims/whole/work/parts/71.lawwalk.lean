-- the law: its walk
section LW
variable {N : Nat} {xs : Nat → Int32}
abbrev GL (N : Nat) (xs : Nat → Int32) (n pc : Nat) (L : List (Nat × Value)) (S : List Value) (w : Mm) : Prop := GoX (XS N xs) 200 M_L_law 0 NF n pc L S w (fun r _ => r = some (.int 1))
abbrev LL (x : Int32) : List (Nat × Value) := [(3, .int x), (2, .ref 154), (1, .ref 0), (0, .ref 100060)]
theorem ib_k {x k : Int32} (hN : N ≤ 3072) (h : 0 ≤ x.toInt ∧ x.toInt + 6 ≤ N) (hk : 0 ≤ k.toInt ∧ k.toInt ≤ 5) : ib (x + k) N := by
  have e : (x + k).toInt = x.toInt + k.toInt := by
    rw [Int32.toInt_add]
    exact Int.bmod_eq_of_le (by omega) (by omega)
  unfold ib
  rw [e]
  omega
theorem x_arg {pc q1 q2 q3 q4 q : Nat} {x k : Int32} {a : Int} {S : List Value} {w : Mm} (hd1 : zd M_L_law pc (.aload_n 0) 1 q1) (hd2 : zd M_L_law q1 (.iload_n 3) 1 q2) (hd3 : zd M_L_law q2 (.iconst a) 1 q3) (hk : Int32.ofInt a = k) (hd4 : zd M_L_law q3 .iadd 1 q4) (hd5 : zd M_L_law q4 .iaload 1 q) (hi : ib (x + k) N) (kk : GL N xs NF q (LL x) (.int (xs (ix (x + k))) :: S) w) : GL N xs NF pc (LL x) S w := by
  refine x_aload_n 3 hd1 rfl rfl ?_
  refine x_iload_n 0 hd2 rfl rfl ?_
  refine x_iconst k hd3 hk ?_
  refine x_iadd hd4 ?_
  exact x_sci hd5 hi kk
theorem and31 (z : Int32) : ∃ k : Nat, k < 32 ∧ z &&& 31 = nI k := by
  have h1 : (z &&& 31).toBitVec.toNat ≤ 31 := by
    rw [Int32.toBitVec_and, BitVec.toNat_and]
    exact Nat.and_le_right
  refine ⟨(z &&& 31).toBitVec.toNat, by omega, ?_⟩
  apply Int32.toBitVec_inj.mp
  apply BitVec.eq_of_toNat_eq
  generalize (z &&& 31).toBitVec.toNat = k at h1
  have h2 : ∀ k ∈ List.range 32, k = (nI k).toBitVec.toNat := by decide
  exact h2 k (List.mem_range.mpr (by omega))
theorem l_clock {x : Int32} {v : Vv} (hN : N ≤ 3072) (h : INV v) (hb : 0 ≤ x.toInt ∧ x.toInt + 6 ≤ N) (hk : ∀ w, INV w → GL N xs NF 1117 (LL x) [] (em w)) : GL N xs NF 176 (LL x) [] (em v) := by
  have h0 := i_clock (a := xs (ix (x + 1))) (b := xs (ix (x + 2))) (Q := fun (r r' : Int32) w => GL N xs NF 204 (LL x) [.int r', .int r] (em w)) h (fun r w hw => x_icmp_eq (tgt := 1117) e_L_law_204 rfl (fun _ => hk w hw) (fun q => absurd rfl q))
  refine x_aload_n 2 e_L_law_176 rfl rfl ?_
  refine x_arg (k := 1) e_L_law_177 e_L_law_178 e_L_law_179 (by decide) e_L_law_180 e_L_law_181 (ib_k hN hb (by decide)) ?_
  refine x_arg (k := 2) e_L_law_182 e_L_law_183 e_L_law_184 (by decide) e_L_law_185 e_L_law_186 (ib_k hN hb (by decide)) ?_
  refine x_callVI (d' := 2) (ci := 9) (r := (RX9, TX9, 11)) (As := [.int (xs (ix (x + 1))), .int (xs (ix (x + 2)))]) (rest := []) e_L_law_187 zm_P_clock lV_L_13 sh_0 rfl rfl rfl rfl (Nat.le_of_ble_eq_true rfl) (by decide) (cp_mono h0 ?_)
  rintro _ v1 ⟨r, rfl, h1⟩
  refine ⟨r, rfl, ?_⟩
  refine x_aload_n 1 e_L_law_190 rfl rfl ?_
  refine x_arg (k := 1) e_L_law_191 e_L_law_192 e_L_law_193 (by decide) e_L_law_194 e_L_law_195 (ib_k hN hb (by decide)) ?_
  refine x_arg (k := 2) e_L_law_196 e_L_law_197 e_L_law_198 (by decide) e_L_law_199 e_L_law_200 (ib_k hN hb (by decide)) ?_
  refine x_callVI (d' := 2) (ci := 10) (r := (RX10, TX10, 49)) (As := [.int (xs (ix (x + 1))), .int (xs (ix (x + 2)))]) (rest := [.int r]) e_L_law_201 zm_M_clock lV_L_17 sh_154 rfl rfl rfl rfl (Nat.le_of_ble_eq_true rfl) (by decide) (cp_mono h1 ?_)
  rintro _ v2 ⟨r', rfl, h2⟩
  exact ⟨r', rfl, h2⟩
theorem l_doer {x : Int32} {v : Vv} (hN : N ≤ 3072) (h : INV v) (hb : 0 ≤ x.toInt ∧ x.toInt + 6 ≤ N) (hk : ∀ w, INV w → GL N xs NF 1117 (LL x) [] (em w)) : GL N xs NF 209 (LL x) [] (em v) := by
  have h0 := i_doer (a := xs (ix (x + 1))) (b := xs (ix (x + 2))) (c := xs (ix (x + 3))) (Q := fun (r r' : Int32) w => GL N xs NF 247 (LL x) [.int r', .int r] (em w)) h (fun r w hw => x_icmp_eq (tgt := 1117) e_L_law_247 rfl (fun _ => hk w hw) (fun q => absurd rfl q))
  refine x_aload_n 2 e_L_law_209 rfl rfl ?_
  refine x_arg (k := 1) e_L_law_210 e_L_law_211 e_L_law_212 (by decide) e_L_law_213 e_L_law_214 (ib_k hN hb (by decide)) ?_
  refine x_arg (k := 2) e_L_law_215 e_L_law_216 e_L_law_217 (by decide) e_L_law_218 e_L_law_219 (ib_k hN hb (by decide)) ?_
  refine x_arg (k := 3) e_L_law_220 e_L_law_221 e_L_law_222 (by decide) e_L_law_223 e_L_law_224 (ib_k hN hb (by decide)) ?_
  refine x_callVI (d' := 2) (ci := 9) (r := (RX9, TX9, 11)) (As := [.int (xs (ix (x + 1))), .int (xs (ix (x + 2))), .int (xs (ix (x + 3)))]) (rest := []) e_L_law_225 zm_P_doer lV_L_18 sh_0 rfl rfl rfl rfl (Nat.le_of_ble_eq_true rfl) (by decide) (cp_mono h0 ?_)
  rintro _ v1 ⟨r, rfl, h1⟩
  refine ⟨r, rfl, ?_⟩
  refine x_aload_n 1 e_L_law_228 rfl rfl ?_
  refine x_arg (k := 1) e_L_law_229 e_L_law_230 e_L_law_231 (by decide) e_L_law_232 e_L_law_233 (ib_k hN hb (by decide)) ?_
  refine x_arg (k := 2) e_L_law_234 e_L_law_235 e_L_law_236 (by decide) e_L_law_237 e_L_law_238 (ib_k hN hb (by decide)) ?_
  refine x_arg (k := 3) e_L_law_239 e_L_law_240 e_L_law_241 (by decide) e_L_law_242 e_L_law_243 (ib_k hN hb (by decide)) ?_
  refine x_callVI (d' := 2) (ci := 10) (r := (RX10, TX10, 49)) (As := [.int (xs (ix (x + 1))), .int (xs (ix (x + 2))), .int (xs (ix (x + 3)))]) (rest := [.int r]) e_L_law_244 zm_M_doer lV_L_22 sh_154 rfl rfl rfl rfl (Nat.le_of_ble_eq_true rfl) (by decide) (cp_mono h1 ?_)
  rintro _ v2 ⟨r', rfl, h2⟩
  exact ⟨r', rfl, h2⟩
theorem l_set {x : Int32} {v : Vv} (hN : N ≤ 3072) (h : INV v) (hb : 0 ≤ x.toInt ∧ x.toInt + 6 ≤ N) (hk : ∀ w, INV w → GL N xs NF 1117 (LL x) [] (em w)) : GL N xs NF 252 (LL x) [] (em v) := by
  have h0 := i_set (a := xs (ix (x + 1))) (b := xs (ix (x + 2))) (c := xs (ix (x + 3))) (Q := fun (r r' : Int32) w => GL N xs NF 290 (LL x) [.int r', .int r] (em w)) h (fun r w hw => x_icmp_eq (tgt := 1117) e_L_law_290 rfl (fun _ => hk w hw) (fun q => absurd rfl q))
  refine x_aload_n 2 e_L_law_252 rfl rfl ?_
  refine x_arg (k := 1) e_L_law_253 e_L_law_254 e_L_law_255 (by decide) e_L_law_256 e_L_law_257 (ib_k hN hb (by decide)) ?_
  refine x_arg (k := 2) e_L_law_258 e_L_law_259 e_L_law_260 (by decide) e_L_law_261 e_L_law_262 (ib_k hN hb (by decide)) ?_
  refine x_arg (k := 3) e_L_law_263 e_L_law_264 e_L_law_265 (by decide) e_L_law_266 e_L_law_267 (ib_k hN hb (by decide)) ?_
  refine x_callVI (d' := 3) (ci := 9) (r := (RX9, TX9, 11)) (As := [.int (xs (ix (x + 1))), .int (xs (ix (x + 2))), .int (xs (ix (x + 3)))]) (rest := []) e_L_law_268 zm_P_set lV_L_23 sh_0 rfl rfl rfl rfl (Nat.le_of_ble_eq_true rfl) (by decide) (cp_mono h0 ?_)
  rintro _ v1 ⟨r, rfl, h1⟩
  refine ⟨r, rfl, ?_⟩
  refine x_aload_n 1 e_L_law_271 rfl rfl ?_
  refine x_arg (k := 1) e_L_law_272 e_L_law_273 e_L_law_274 (by decide) e_L_law_275 e_L_law_276 (ib_k hN hb (by decide)) ?_
  refine x_arg (k := 2) e_L_law_277 e_L_law_278 e_L_law_279 (by decide) e_L_law_280 e_L_law_281 (ib_k hN hb (by decide)) ?_
  refine x_arg (k := 3) e_L_law_282 e_L_law_283 e_L_law_284 (by decide) e_L_law_285 e_L_law_286 (ib_k hN hb (by decide)) ?_
  refine x_callVI (d' := 45) (ci := 10) (r := (RX10, TX10, 49)) (As := [.int (xs (ix (x + 1))), .int (xs (ix (x + 2))), .int (xs (ix (x + 3)))]) (rest := [.int r]) e_L_law_287 zm_M_set lV_L_26 sh_154 rfl rfl rfl rfl (Nat.le_of_ble_eq_true rfl) (by decide) (cp_mono h1 ?_)
  rintro _ v2 ⟨r', rfl, h2⟩
  exact ⟨r', rfl, h2⟩
theorem l_told {x : Int32} {v : Vv} (hN : N ≤ 3072) (h : INV v) (hb : 0 ≤ x.toInt ∧ x.toInt + 6 ≤ N) (hk : ∀ w, INV w → GL N xs NF 1117 (LL x) [] (em w)) : GL N xs NF 295 (LL x) [] (em v) := by
  have h0 := i_told (a := xs (ix (x + 1))) (b := xs (ix (x + 2))) (Q := fun (r r' : Int32) w => GL N xs NF 323 (LL x) [.int r', .int r] (em w)) h (fun r w hw => x_icmp_eq (tgt := 1117) e_L_law_323 rfl (fun _ => hk w hw) (fun q => absurd rfl q))
  refine x_aload_n 2 e_L_law_295 rfl rfl ?_
  refine x_arg (k := 1) e_L_law_296 e_L_law_297 e_L_law_298 (by decide) e_L_law_299 e_L_law_300 (ib_k hN hb (by decide)) ?_
  refine x_arg (k := 2) e_L_law_301 e_L_law_302 e_L_law_303 (by decide) e_L_law_304 e_L_law_305 (ib_k hN hb (by decide)) ?_
  refine x_callVI (d' := 7) (ci := 9) (r := (RX9, TX9, 11)) (As := [.int (xs (ix (x + 1))), .int (xs (ix (x + 2)))]) (rest := []) e_L_law_306 zm_P_told lV_L_27 sh_0 rfl rfl rfl rfl (Nat.le_of_ble_eq_true rfl) (by decide) (cp_mono h0 ?_)
  rintro _ v1 ⟨r, rfl, h1⟩
  refine ⟨r, rfl, ?_⟩
  refine x_aload_n 1 e_L_law_309 rfl rfl ?_
  refine x_arg (k := 1) e_L_law_310 e_L_law_311 e_L_law_312 (by decide) e_L_law_313 e_L_law_314 (ib_k hN hb (by decide)) ?_
  refine x_arg (k := 2) e_L_law_315 e_L_law_316 e_L_law_317 (by decide) e_L_law_318 e_L_law_319 (ib_k hN hb (by decide)) ?_
  refine x_callVI (d' := 44) (ci := 10) (r := (RX10, TX10, 49)) (As := [.int (xs (ix (x + 1))), .int (xs (ix (x + 2)))]) (rest := [.int r]) e_L_law_320 zm_M_told lV_L_30 sh_154 rfl rfl rfl rfl (Nat.le_of_ble_eq_true rfl) (by decide) (cp_mono h1 ?_)
  rintro _ v2 ⟨r', rfl, h2⟩
  exact ⟨r', rfl, h2⟩
theorem l_feed {x : Int32} {v : Vv} (hN : N ≤ 3072) (h : INV v) (hb : 0 ≤ x.toInt ∧ x.toInt + 6 ≤ N) (hk : ∀ w, INV w → GL N xs NF 1117 (LL x) [] (em w)) : GL N xs NF 328 (LL x) [] (em v) := by
  have h0 := i_feed (a := xs (ix (x + 1))) (Q := fun (r r' : Int32) w => GL N xs NF 346 (LL x) [.int r', .int r] (em w)) h (fun r w hw => x_icmp_eq (tgt := 1117) e_L_law_346 rfl (fun _ => hk w hw) (fun q => absurd rfl q))
  refine x_aload_n 2 e_L_law_328 rfl rfl ?_
  refine x_arg (k := 1) e_L_law_329 e_L_law_330 e_L_law_331 (by decide) e_L_law_332 e_L_law_333 (ib_k hN hb (by decide)) ?_
  refine x_callVI (d' := 1) (ci := 9) (r := (RX9, TX9, 11)) (As := [.int (xs (ix (x + 1)))]) (rest := []) e_L_law_334 zm_P_feed lV_L_31 sh_0 rfl rfl rfl rfl (Nat.le_of_ble_eq_true rfl) (by decide) (cp_mono h0 ?_)
  rintro _ v1 ⟨r, rfl, h1⟩
  refine ⟨r, rfl, ?_⟩
  refine x_aload_n 1 e_L_law_337 rfl rfl ?_
  refine x_arg (k := 1) e_L_law_338 e_L_law_339 e_L_law_340 (by decide) e_L_law_341 e_L_law_342 (ib_k hN hb (by decide)) ?_
  refine x_callVI (d' := 2) (ci := 10) (r := (RX10, TX10, 49)) (As := [.int (xs (ix (x + 1)))]) (rest := [.int r]) e_L_law_343 zm_M_feed lV_L_35 sh_154 rfl rfl rfl rfl (Nat.le_of_ble_eq_true rfl) (by decide) (cp_mono h1 ?_)
  rintro _ v2 ⟨r', rfl, h2⟩
  exact ⟨r', rfl, h2⟩
theorem l_text {x : Int32} {v : Vv} (hN : N ≤ 3072) (h : INV v) (hb : 0 ≤ x.toInt ∧ x.toInt + 6 ≤ N) (hk : ∀ w, INV w → GL N xs NF 1117 (LL x) [] (em w)) : GL N xs NF 351 (LL x) [] (em v) := by
  have h0 := i_text  (Q := fun (r r' : Int32) w => GL N xs NF 359 (LL x) [.int r', .int r] (em w)) h (fun r w hw => x_icmp_eq (tgt := 1117) e_L_law_359 rfl (fun _ => hk w hw) (fun q => absurd rfl q))
  refine x_aload_n 2 e_L_law_351 rfl rfl ?_
  refine x_callVI (d' := 103) (ci := 9) (r := (RX9, TX9, 11)) (As := []) (rest := []) e_L_law_352 zm_P_text lV_L_36 sh_0 rfl rfl rfl rfl (Nat.le_of_ble_eq_true rfl) (by decide) (cp_mono h0 ?_)
  rintro _ v1 ⟨r, rfl, h1⟩
  refine ⟨r, rfl, ?_⟩
  refine x_aload_n 1 e_L_law_355 rfl rfl ?_
  refine x_callVI (d' := 43) (ci := 10) (r := (RX10, TX10, 49)) (As := []) (rest := [.int r]) e_L_law_356 zm_M_text lV_L_40 sh_154 rfl rfl rfl rfl (Nat.le_of_ble_eq_true rfl) (by decide) (cp_mono h1 ?_)
  rintro _ v2 ⟨r', rfl, h2⟩
  exact ⟨r', rfl, h2⟩
theorem l_force {x : Int32} {v : Vv} (hN : N ≤ 3072) (h : INV v) (hb : 0 ≤ x.toInt ∧ x.toInt + 6 ≤ N) (hk : ∀ w, INV w → GL N xs NF 1117 (LL x) [] (em w)) : GL N xs NF 364 (LL x) [] (em v) := by
  have h0 := i_force (a := xs (ix (x + 1))) (Q := fun (r r' : Int32) w => GL N xs NF 382 (LL x) [.int r', .int r] (em w)) h (fun r w hw => x_icmp_eq (tgt := 1117) e_L_law_382 rfl (fun _ => hk w hw) (fun q => absurd rfl q))
  refine x_aload_n 2 e_L_law_364 rfl rfl ?_
  refine x_arg (k := 1) e_L_law_365 e_L_law_366 e_L_law_367 (by decide) e_L_law_368 e_L_law_369 (ib_k hN hb (by decide)) ?_
  refine x_callVI (d' := 1) (ci := 9) (r := (RX9, TX9, 11)) (As := [.int (xs (ix (x + 1)))]) (rest := []) e_L_law_370 zm_P_force lV_L_41 sh_0 rfl rfl rfl rfl (Nat.le_of_ble_eq_true rfl) (by decide) (cp_mono h0 ?_)
  rintro _ v1 ⟨r, rfl, h1⟩
  refine ⟨r, rfl, ?_⟩
  refine x_aload_n 1 e_L_law_373 rfl rfl ?_
  refine x_arg (k := 1) e_L_law_374 e_L_law_375 e_L_law_376 (by decide) e_L_law_377 e_L_law_378 (ib_k hN hb (by decide)) ?_
  refine x_callVI (d' := 2) (ci := 10) (r := (RX10, TX10, 49)) (As := [.int (xs (ix (x + 1)))]) (rest := [.int r]) e_L_law_379 zm_M_force lV_L_44 sh_154 rfl rfl rfl rfl (Nat.le_of_ble_eq_true rfl) (by decide) (cp_mono h1 ?_)
  rintro _ v2 ⟨r', rfl, h2⟩
  exact ⟨r', rfl, h2⟩
theorem l_at {x : Int32} {v : Vv} (hN : N ≤ 3072) (h : INV v) (hb : 0 ≤ x.toInt ∧ x.toInt + 6 ≤ N) (hk : ∀ w, INV w → GL N xs NF 1117 (LL x) [] (em w)) : GL N xs NF 387 (LL x) [] (em v) := by
  have h0 := i_at (a := xs (ix (x + 1))) (b := xs (ix (x + 2))) (c := xs (ix (x + 3))) (Q := fun (r r' : Int32) w => GL N xs NF 425 (LL x) [.int r', .int r] (em w)) h (fun r w hw => x_icmp_eq (tgt := 1117) e_L_law_425 rfl (fun _ => hk w hw) (fun q => absurd rfl q))
  refine x_aload_n 2 e_L_law_387 rfl rfl ?_
  refine x_arg (k := 1) e_L_law_388 e_L_law_389 e_L_law_390 (by decide) e_L_law_391 e_L_law_392 (ib_k hN hb (by decide)) ?_
  refine x_arg (k := 2) e_L_law_393 e_L_law_394 e_L_law_395 (by decide) e_L_law_396 e_L_law_397 (ib_k hN hb (by decide)) ?_
  refine x_arg (k := 3) e_L_law_398 e_L_law_399 e_L_law_400 (by decide) e_L_law_401 e_L_law_402 (ib_k hN hb (by decide)) ?_
  refine x_callVI (d' := 7) (ci := 9) (r := (RX9, TX9, 11)) (As := [.int (xs (ix (x + 1))), .int (xs (ix (x + 2))), .int (xs (ix (x + 3)))]) (rest := []) e_L_law_403 zm_P_at lV_L_45 sh_0 rfl rfl rfl rfl (Nat.le_of_ble_eq_true rfl) (by decide) (cp_mono h0 ?_)
  rintro _ v1 ⟨r, rfl, h1⟩
  refine ⟨r, rfl, ?_⟩
  refine x_aload_n 1 e_L_law_406 rfl rfl ?_
  refine x_arg (k := 1) e_L_law_407 e_L_law_408 e_L_law_409 (by decide) e_L_law_410 e_L_law_411 (ib_k hN hb (by decide)) ?_
  refine x_arg (k := 2) e_L_law_412 e_L_law_413 e_L_law_414 (by decide) e_L_law_415 e_L_law_416 (ib_k hN hb (by decide)) ?_
  refine x_arg (k := 3) e_L_law_417 e_L_law_418 e_L_law_419 (by decide) e_L_law_420 e_L_law_421 (ib_k hN hb (by decide)) ?_
  refine x_callVI (d' := 47) (ci := 10) (r := (RX10, TX10, 49)) (As := [.int (xs (ix (x + 1))), .int (xs (ix (x + 2))), .int (xs (ix (x + 3)))]) (rest := [.int r]) e_L_law_422 zm_M_at lV_L_48 sh_154 rfl rfl rfl rfl (Nat.le_of_ble_eq_true rfl) (by decide) (cp_mono h1 ?_)
  rintro _ v2 ⟨r', rfl, h2⟩
  exact ⟨r', rfl, h2⟩
theorem l_right {x : Int32} {v : Vv} (hN : N ≤ 3072) (h : INV v) (hb : 0 ≤ x.toInt ∧ x.toInt + 6 ≤ N) (hk : ∀ w, INV w → GL N xs NF 1117 (LL x) [] (em w)) : GL N xs NF 430 (LL x) [] (em v) := by
  have h0 := i_right (a := xs (ix (x + 1))) (b := xs (ix (x + 2))) (Q := fun (r r' : Int32) w => GL N xs NF 458 (LL x) [.int r', .int r] (em w)) h (fun r w hw => x_icmp_eq (tgt := 1117) e_L_law_458 rfl (fun _ => hk w hw) (fun q => absurd rfl q))
  refine x_aload_n 2 e_L_law_430 rfl rfl ?_
  refine x_arg (k := 1) e_L_law_431 e_L_law_432 e_L_law_433 (by decide) e_L_law_434 e_L_law_435 (ib_k hN hb (by decide)) ?_
  refine x_arg (k := 2) e_L_law_436 e_L_law_437 e_L_law_438 (by decide) e_L_law_439 e_L_law_440 (ib_k hN hb (by decide)) ?_
  refine x_callVI (d' := 7) (ci := 9) (r := (RX9, TX9, 11)) (As := [.int (xs (ix (x + 1))), .int (xs (ix (x + 2)))]) (rest := []) e_L_law_441 zm_P_right lV_L_49 sh_0 rfl rfl rfl rfl (Nat.le_of_ble_eq_true rfl) (by decide) (cp_mono h0 ?_)
  rintro _ v1 ⟨r, rfl, h1⟩
  refine ⟨r, rfl, ?_⟩
  refine x_aload_n 1 e_L_law_444 rfl rfl ?_
  refine x_arg (k := 1) e_L_law_445 e_L_law_446 e_L_law_447 (by decide) e_L_law_448 e_L_law_449 (ib_k hN hb (by decide)) ?_
  refine x_arg (k := 2) e_L_law_450 e_L_law_451 e_L_law_452 (by decide) e_L_law_453 e_L_law_454 (ib_k hN hb (by decide)) ?_
  refine x_callVI (d' := 47) (ci := 10) (r := (RX10, TX10, 49)) (As := [.int (xs (ix (x + 1))), .int (xs (ix (x + 2)))]) (rest := [.int r]) e_L_law_455 zm_M_right lV_L_52 sh_154 rfl rfl rfl rfl (Nat.le_of_ble_eq_true rfl) (by decide) (cp_mono h1 ?_)
  rintro _ v2 ⟨r', rfl, h2⟩
  exact ⟨r', rfl, h2⟩
theorem l_world {x : Int32} {v : Vv} (hN : N ≤ 3072) (h : INV v) (hb : 0 ≤ x.toInt ∧ x.toInt + 6 ≤ N) (hk : ∀ w, INV w → GL N xs NF 1117 (LL x) [] (em w)) : GL N xs NF 463 (LL x) [] (em v) := by
  have h0 := i_world (a := xs (ix (x + 1))) (QL := fun (r r' : Int64) w => GL N xs NF 481 (LL x) [.long r', .long r] (em w)) h (fun r w hw => x_lcmp e_L_law_481 (x_if_eq (tgt := 1117) e_L_law_482 rfl (fun _ => hk w hw) (fun q => absurd ((lg_cmp_eq0 _ _).mpr rfl) q)))
  refine x_aload_n 2 e_L_law_463 rfl rfl ?_
  refine x_arg (k := 1) e_L_law_464 e_L_law_465 e_L_law_466 (by decide) e_L_law_467 e_L_law_468 (ib_k hN hb (by decide)) ?_
  refine x_callVJ (d' := 7) (ci := 9) (r := (RX9, TX9, 11)) (As := [.int (xs (ix (x + 1)))]) (rest := []) e_L_law_469 zm_P_world lV_L_53 sh_0 rfl rfl rfl rfl (Nat.le_of_ble_eq_true rfl) (by decide) (cp_mono h0 ?_)
  rintro _ v1 ⟨r, rfl, h1⟩
  refine ⟨r, rfl, ?_⟩
  refine x_aload_n 1 e_L_law_472 rfl rfl ?_
  refine x_arg (k := 1) e_L_law_473 e_L_law_474 e_L_law_475 (by decide) e_L_law_476 e_L_law_477 (ib_k hN hb (by decide)) ?_
  refine x_callVJ (d' := 48) (ci := 10) (r := (RX10, TX10, 49)) (As := [.int (xs (ix (x + 1)))]) (rest := [.long r]) e_L_law_478 zm_M_world lV_L_57 sh_154 rfl rfl rfl rfl (Nat.le_of_ble_eq_true rfl) (by decide) (cp_mono h1 ?_)
  rintro _ v2 ⟨r', rfl, h2⟩
  exact ⟨r', rfl, h2⟩
theorem l_odds {x : Int32} {v : Vv} (hN : N ≤ 3072) (h : INV v) (hb : 0 ≤ x.toInt ∧ x.toInt + 6 ≤ N) (hk : ∀ w, INV w → GL N xs NF 1117 (LL x) [] (em w)) : GL N xs NF 487 (LL x) [] (em v) := by
  have h0 := i_odds (a := xs (ix (x + 1))) (b := xs (ix (x + 2))) (QL := fun (r r' : Int64) w => GL N xs NF 515 (LL x) [.long r', .long r] (em w)) h (fun r w hw => x_lcmp e_L_law_515 (x_if_eq (tgt := 1117) e_L_law_516 rfl (fun _ => hk w hw) (fun q => absurd ((lg_cmp_eq0 _ _).mpr rfl) q)))
  refine x_aload_n 2 e_L_law_487 rfl rfl ?_
  refine x_arg (k := 1) e_L_law_488 e_L_law_489 e_L_law_490 (by decide) e_L_law_491 e_L_law_492 (ib_k hN hb (by decide)) ?_
  refine x_arg (k := 2) e_L_law_493 e_L_law_494 e_L_law_495 (by decide) e_L_law_496 e_L_law_497 (ib_k hN hb (by decide)) ?_
  refine x_callVJ (d' := 7) (ci := 9) (r := (RX9, TX9, 11)) (As := [.int (xs (ix (x + 1))), .int (xs (ix (x + 2)))]) (rest := []) e_L_law_498 zm_P_odds lV_L_58 sh_0 rfl rfl rfl rfl (Nat.le_of_ble_eq_true rfl) (by decide) (cp_mono h0 ?_)
  rintro _ v1 ⟨r, rfl, h1⟩
  refine ⟨r, rfl, ?_⟩
  refine x_aload_n 1 e_L_law_501 rfl rfl ?_
  refine x_arg (k := 1) e_L_law_502 e_L_law_503 e_L_law_504 (by decide) e_L_law_505 e_L_law_506 (ib_k hN hb (by decide)) ?_
  refine x_arg (k := 2) e_L_law_507 e_L_law_508 e_L_law_509 (by decide) e_L_law_510 e_L_law_511 (ib_k hN hb (by decide)) ?_
  refine x_callVJ (d' := 48) (ci := 10) (r := (RX10, TX10, 49)) (As := [.int (xs (ix (x + 1))), .int (xs (ix (x + 2)))]) (rest := [.long r]) e_L_law_512 zm_M_odds lV_L_62 sh_154 rfl rfl rfl rfl (Nat.le_of_ble_eq_true rfl) (by decide) (cp_mono h1 ?_)
  rintro _ v2 ⟨r', rfl, h2⟩
  exact ⟨r', rfl, h2⟩
theorem l_time {x : Int32} {v : Vv} (hN : N ≤ 3072) (h : INV v) (hb : 0 ≤ x.toInt ∧ x.toInt + 6 ≤ N) (hk : ∀ w, INV w → GL N xs NF 1117 (LL x) [] (em w)) : GL N xs NF 521 (LL x) [] (em v) := by
  have h0 := i_time (a := xs (ix (x + 1))) (Q := fun (r r' : Int32) w => GL N xs NF 539 (LL x) [.int r', .int r] (em w)) h (fun r w hw => x_icmp_eq (tgt := 1117) e_L_law_539 rfl (fun _ => hk w hw) (fun q => absurd rfl q))
  refine x_aload_n 2 e_L_law_521 rfl rfl ?_
  refine x_arg (k := 1) e_L_law_522 e_L_law_523 e_L_law_524 (by decide) e_L_law_525 e_L_law_526 (ib_k hN hb (by decide)) ?_
  refine x_callVI (d' := 7) (ci := 9) (r := (RX9, TX9, 11)) (As := [.int (xs (ix (x + 1)))]) (rest := []) e_L_law_527 zm_P_time lV_L_63 sh_0 rfl rfl rfl rfl (Nat.le_of_ble_eq_true rfl) (by decide) (cp_mono h0 ?_)
  rintro _ v1 ⟨r, rfl, h1⟩
  refine ⟨r, rfl, ?_⟩
  refine x_aload_n 1 e_L_law_530 rfl rfl ?_
  refine x_arg (k := 1) e_L_law_531 e_L_law_532 e_L_law_533 (by decide) e_L_law_534 e_L_law_535 (ib_k hN hb (by decide)) ?_
  refine x_callVI (d' := 48) (ci := 10) (r := (RX10, TX10, 49)) (As := [.int (xs (ix (x + 1)))]) (rest := [.int r]) e_L_law_536 zm_M_time lV_L_66 sh_154 rfl rfl rfl rfl (Nat.le_of_ble_eq_true rfl) (by decide) (cp_mono h1 ?_)
  rintro _ v2 ⟨r', rfl, h2⟩
  exact ⟨r', rfl, h2⟩
theorem l_sure {x : Int32} {v : Vv} (hN : N ≤ 3072) (h : INV v) (hb : 0 ≤ x.toInt ∧ x.toInt + 6 ≤ N) (hk : ∀ w, INV w → GL N xs NF 1117 (LL x) [] (em w)) : GL N xs NF 544 (LL x) [] (em v) := by
  have h0 := i_sure (a := xs (ix (x + 1))) (QL := fun (r r' : Int64) w => GL N xs NF 562 (LL x) [.long r', .long r] (em w)) h (fun r w hw => x_lcmp e_L_law_562 (x_if_eq (tgt := 1117) e_L_law_563 rfl (fun _ => hk w hw) (fun q => absurd ((lg_cmp_eq0 _ _).mpr rfl) q)))
  refine x_aload_n 2 e_L_law_544 rfl rfl ?_
  refine x_arg (k := 1) e_L_law_545 e_L_law_546 e_L_law_547 (by decide) e_L_law_548 e_L_law_549 (ib_k hN hb (by decide)) ?_
  refine x_callVJ (d' := 7) (ci := 9) (r := (RX9, TX9, 11)) (As := [.int (xs (ix (x + 1)))]) (rest := []) e_L_law_550 zm_P_sure lV_L_67 sh_0 rfl rfl rfl rfl (Nat.le_of_ble_eq_true rfl) (by decide) (cp_mono h0 ?_)
  rintro _ v1 ⟨r, rfl, h1⟩
  refine ⟨r, rfl, ?_⟩
  refine x_aload_n 1 e_L_law_553 rfl rfl ?_
  refine x_arg (k := 1) e_L_law_554 e_L_law_555 e_L_law_556 (by decide) e_L_law_557 e_L_law_558 (ib_k hN hb (by decide)) ?_
  refine x_callVJ (d' := 48) (ci := 10) (r := (RX10, TX10, 49)) (As := [.int (xs (ix (x + 1)))]) (rest := [.long r]) e_L_law_559 zm_M_sure lV_L_70 sh_154 rfl rfl rfl rfl (Nat.le_of_ble_eq_true rfl) (by decide) (cp_mono h1 ?_)
  rintro _ v2 ⟨r', rfl, h2⟩
  exact ⟨r', rfl, h2⟩
theorem l_look {x : Int32} {v : Vv} (hN : N ≤ 3072) (h : INV v) (hb : 0 ≤ x.toInt ∧ x.toInt + 6 ≤ N) (hk : ∀ w, INV w → GL N xs NF 1117 (LL x) [] (em w)) : GL N xs NF 568 (LL x) [] (em v) := by
  have h0 := i_look  (Q := fun (r r' : Int32) w => GL N xs NF 576 (LL x) [.int r', .int r] (em w)) h (fun r w hw => x_icmp_eq (tgt := 1117) e_L_law_576 rfl (fun _ => hk w hw) (fun q => absurd rfl q))
  refine x_aload_n 2 e_L_law_568 rfl rfl ?_
  refine x_callVI (d' := 7) (ci := 9) (r := (RX9, TX9, 11)) (As := []) (rest := []) e_L_law_569 zm_P_look lV_L_71 sh_0 rfl rfl rfl rfl (Nat.le_of_ble_eq_true rfl) (by decide) (cp_mono h0 ?_)
  rintro _ v1 ⟨r, rfl, h1⟩
  refine ⟨r, rfl, ?_⟩
  refine x_aload_n 1 e_L_law_572 rfl rfl ?_
  refine x_callVI (d' := 48) (ci := 10) (r := (RX10, TX10, 49)) (As := []) (rest := [.int r]) e_L_law_573 zm_M_look lV_L_74 sh_154 rfl rfl rfl rfl (Nat.le_of_ble_eq_true rfl) (by decide) (cp_mono h1 ?_)
  rintro _ v2 ⟨r', rfl, h2⟩
  exact ⟨r', rfl, h2⟩
theorem l_fewest {x : Int32} {v : Vv} (hN : N ≤ 3072) (h : INV v) (hb : 0 ≤ x.toInt ∧ x.toInt + 6 ≤ N) (hk : ∀ w, INV w → GL N xs NF 1117 (LL x) [] (em w)) : GL N xs NF 581 (LL x) [] (em v) := by
  have h0 := i_fewest  (Q := fun (r r' : Int32) w => GL N xs NF 589 (LL x) [.int r', .int r] (em w)) h (fun r w hw => x_icmp_eq (tgt := 1117) e_L_law_589 rfl (fun _ => hk w hw) (fun q => absurd rfl q))
  refine x_aload_n 2 e_L_law_581 rfl rfl ?_
  refine x_callVI (d' := 7) (ci := 9) (r := (RX9, TX9, 11)) (As := []) (rest := []) e_L_law_582 zm_P_fewest lV_L_75 sh_0 rfl rfl rfl rfl (Nat.le_of_ble_eq_true rfl) (by decide) (cp_mono h0 ?_)
  rintro _ v1 ⟨r, rfl, h1⟩
  refine ⟨r, rfl, ?_⟩
  refine x_aload_n 1 e_L_law_585 rfl rfl ?_
  refine x_callVI (d' := 48) (ci := 10) (r := (RX10, TX10, 49)) (As := []) (rest := [.int r]) e_L_law_586 zm_M_fewest lV_L_78 sh_154 rfl rfl rfl rfl (Nat.le_of_ble_eq_true rfl) (by decide) (cp_mono h1 ?_)
  rintro _ v2 ⟨r', rfl, h2⟩
  exact ⟨r', rfl, h2⟩
theorem l_ask {x : Int32} {v : Vv} (hN : N ≤ 3072) (h : INV v) (hb : 0 ≤ x.toInt ∧ x.toInt + 6 ≤ N) (hk : ∀ w, INV w → GL N xs NF 1117 (LL x) [] (em w)) : GL N xs NF 594 (LL x) [] (em v) := by
  have h0 := i_ask  (Q := fun (r r' : Int32) w => GL N xs NF 602 (LL x) [.int r', .int r] (em w)) h (fun r w hw => x_icmp_eq (tgt := 1117) e_L_law_602 rfl (fun _ => hk w hw) (fun q => absurd rfl q))
  refine x_aload_n 2 e_L_law_594 rfl rfl ?_
  refine x_callVI (d' := 7) (ci := 9) (r := (RX9, TX9, 11)) (As := []) (rest := []) e_L_law_595 zm_P_ask lV_L_79 sh_0 rfl rfl rfl rfl (Nat.le_of_ble_eq_true rfl) (by decide) (cp_mono h0 ?_)
  rintro _ v1 ⟨r, rfl, h1⟩
  refine ⟨r, rfl, ?_⟩
  refine x_aload_n 1 e_L_law_598 rfl rfl ?_
  refine x_callVI (d' := 48) (ci := 10) (r := (RX10, TX10, 49)) (As := []) (rest := [.int r]) e_L_law_599 zm_M_ask lV_L_82 sh_154 rfl rfl rfl rfl (Nat.le_of_ble_eq_true rfl) (by decide) (cp_mono h1 ?_)
  rintro _ v2 ⟨r', rfl, h2⟩
  exact ⟨r', rfl, h2⟩
theorem l_say {x : Int32} {v : Vv} (hN : N ≤ 3072) (h : INV v) (hb : 0 ≤ x.toInt ∧ x.toInt + 6 ≤ N) (hk : ∀ w, INV w → GL N xs NF 1117 (LL x) [] (em w)) : GL N xs NF 607 (LL x) [] (em v) := by
  have h0 := i_say (a := xs (ix (x + 1))) (Q := fun (r r' : Int32) w => GL N xs NF 625 (LL x) [.int r', .int r] (em w)) h (fun r w hw => x_icmp_eq (tgt := 1117) e_L_law_625 rfl (fun _ => hk w hw) (fun q => absurd rfl q))
  refine x_aload_n 2 e_L_law_607 rfl rfl ?_
  refine x_arg (k := 1) e_L_law_608 e_L_law_609 e_L_law_610 (by decide) e_L_law_611 e_L_law_612 (ib_k hN hb (by decide)) ?_
  refine x_callVI (d' := 7) (ci := 9) (r := (RX9, TX9, 11)) (As := [.int (xs (ix (x + 1)))]) (rest := []) e_L_law_613 zm_P_say lV_L_83 sh_0 rfl rfl rfl rfl (Nat.le_of_ble_eq_true rfl) (by decide) (cp_mono h0 ?_)
  rintro _ v1 ⟨r, rfl, h1⟩
  refine ⟨r, rfl, ?_⟩
  refine x_aload_n 1 e_L_law_616 rfl rfl ?_
  refine x_arg (k := 1) e_L_law_617 e_L_law_618 e_L_law_619 (by decide) e_L_law_620 e_L_law_621 (ib_k hN hb (by decide)) ?_
  refine x_callVI (d' := 48) (ci := 10) (r := (RX10, TX10, 49)) (As := [.int (xs (ix (x + 1)))]) (rest := [.int r]) e_L_law_622 zm_M_say lV_L_86 sh_154 rfl rfl rfl rfl (Nat.le_of_ble_eq_true rfl) (by decide) (cp_mono h1 ?_)
  rintro _ v2 ⟨r', rfl, h2⟩
  exact ⟨r', rfl, h2⟩
theorem l_bad {x : Int32} {v : Vv} (hN : N ≤ 3072) (h : INV v) (hb : 0 ≤ x.toInt ∧ x.toInt + 6 ≤ N) (hk : ∀ w, INV w → GL N xs NF 1117 (LL x) [] (em w)) : GL N xs NF 630 (LL x) [] (em v) := by
  have h0 := i_bad (a := xs (ix (x + 1))) (QL := fun (r r' : Int64) w => GL N xs NF 648 (LL x) [.long r', .long r] (em w)) h (fun r w hw => x_lcmp e_L_law_648 (x_if_eq (tgt := 1117) e_L_law_649 rfl (fun _ => hk w hw) (fun q => absurd ((lg_cmp_eq0 _ _).mpr rfl) q)))
  refine x_aload_n 2 e_L_law_630 rfl rfl ?_
  refine x_arg (k := 1) e_L_law_631 e_L_law_632 e_L_law_633 (by decide) e_L_law_634 e_L_law_635 (ib_k hN hb (by decide)) ?_
  refine x_callVJ (d' := 7) (ci := 9) (r := (RX9, TX9, 11)) (As := [.int (xs (ix (x + 1)))]) (rest := []) e_L_law_636 zm_P_bad lV_L_87 sh_0 rfl rfl rfl rfl (Nat.le_of_ble_eq_true rfl) (by decide) (cp_mono h0 ?_)
  rintro _ v1 ⟨r, rfl, h1⟩
  refine ⟨r, rfl, ?_⟩
  refine x_aload_n 1 e_L_law_639 rfl rfl ?_
  refine x_arg (k := 1) e_L_law_640 e_L_law_641 e_L_law_642 (by decide) e_L_law_643 e_L_law_644 (ib_k hN hb (by decide)) ?_
  refine x_callVJ (d' := 48) (ci := 10) (r := (RX10, TX10, 49)) (As := [.int (xs (ix (x + 1)))]) (rest := [.long r]) e_L_law_645 zm_M_bad lV_L_90 sh_154 rfl rfl rfl rfl (Nat.le_of_ble_eq_true rfl) (by decide) (cp_mono h1 ?_)
  rintro _ v2 ⟨r', rfl, h2⟩
  exact ⟨r', rfl, h2⟩
theorem l_late {x : Int32} {v : Vv} (hN : N ≤ 3072) (h : INV v) (hb : 0 ≤ x.toInt ∧ x.toInt + 6 ≤ N) (hk : ∀ w, INV w → GL N xs NF 1117 (LL x) [] (em w)) : GL N xs NF 654 (LL x) [] (em v) := by
  have h0 := i_late (a := xs (ix (x + 1))) (Q := fun (r r' : Int32) w => GL N xs NF 672 (LL x) [.int r', .int r] (em w)) h (fun r w hw => x_icmp_eq (tgt := 1117) e_L_law_672 rfl (fun _ => hk w hw) (fun q => absurd rfl q))
  refine x_aload_n 2 e_L_law_654 rfl rfl ?_
  refine x_arg (k := 1) e_L_law_655 e_L_law_656 e_L_law_657 (by decide) e_L_law_658 e_L_law_659 (ib_k hN hb (by decide)) ?_
  refine x_callVI (d' := 7) (ci := 9) (r := (RX9, TX9, 11)) (As := [.int (xs (ix (x + 1)))]) (rest := []) e_L_law_660 zm_P_late lV_L_91 sh_0 rfl rfl rfl rfl (Nat.le_of_ble_eq_true rfl) (by decide) (cp_mono h0 ?_)
  rintro _ v1 ⟨r, rfl, h1⟩
  refine ⟨r, rfl, ?_⟩
  refine x_aload_n 1 e_L_law_663 rfl rfl ?_
  refine x_arg (k := 1) e_L_law_664 e_L_law_665 e_L_law_666 (by decide) e_L_law_667 e_L_law_668 (ib_k hN hb (by decide)) ?_
  refine x_callVI (d' := 48) (ci := 10) (r := (RX10, TX10, 49)) (As := [.int (xs (ix (x + 1)))]) (rest := [.int r]) e_L_law_669 zm_M_late lV_L_94 sh_154 rfl rfl rfl rfl (Nat.le_of_ble_eq_true rfl) (by decide) (cp_mono h1 ?_)
  rintro _ v2 ⟨r', rfl, h2⟩
  exact ⟨r', rfl, h2⟩
theorem l_live {x : Int32} {v : Vv} (hN : N ≤ 3072) (h : INV v) (hb : 0 ≤ x.toInt ∧ x.toInt + 6 ≤ N) (hk : ∀ w, INV w → GL N xs NF 1117 (LL x) [] (em w)) : GL N xs NF 677 (LL x) [] (em v) := by
  have h0 := i_live (a := xs (ix (x + 1))) (Q := fun (r r' : Int32) w => GL N xs NF 695 (LL x) [.int r', .int r] (em w)) h (fun r w hw => x_icmp_eq (tgt := 1117) e_L_law_695 rfl (fun _ => hk w hw) (fun q => absurd rfl q))
  refine x_aload_n 2 e_L_law_677 rfl rfl ?_
  refine x_arg (k := 1) e_L_law_678 e_L_law_679 e_L_law_680 (by decide) e_L_law_681 e_L_law_682 (ib_k hN hb (by decide)) ?_
  refine x_callVI (d' := 7) (ci := 9) (r := (RX9, TX9, 11)) (As := [.int (xs (ix (x + 1)))]) (rest := []) e_L_law_683 zm_P_live lV_L_95 sh_0 rfl rfl rfl rfl (Nat.le_of_ble_eq_true rfl) (by decide) (cp_mono h0 ?_)
  rintro _ v1 ⟨r, rfl, h1⟩
  refine ⟨r, rfl, ?_⟩
  refine x_aload_n 1 e_L_law_686 rfl rfl ?_
  refine x_arg (k := 1) e_L_law_687 e_L_law_688 e_L_law_689 (by decide) e_L_law_690 e_L_law_691 (ib_k hN hb (by decide)) ?_
  refine x_callVI (d' := 47) (ci := 10) (r := (RX10, TX10, 49)) (As := [.int (xs (ix (x + 1)))]) (rest := [.int r]) e_L_law_692 zm_M_live lV_L_98 sh_154 rfl rfl rfl rfl (Nat.le_of_ble_eq_true rfl) (by decide) (cp_mono h1 ?_)
  rintro _ v2 ⟨r', rfl, h2⟩
  exact ⟨r', rfl, h2⟩
theorem l_tellsBack {x : Int32} {v : Vv} (hN : N ≤ 3072) (h : INV v) (hb : 0 ≤ x.toInt ∧ x.toInt + 6 ≤ N) (hk : ∀ w, INV w → GL N xs NF 1117 (LL x) [] (em w)) : GL N xs NF 700 (LL x) [] (em v) := by
  have h0 := i_tells (a := xs (ix (x + 1))) (b := xs (ix (x + 2))) (Q := fun (r r' : Int32) w => GL N xs NF 728 (LL x) [.int r', .int r] (em w)) h (fun r w hw => x_icmp_eq (tgt := 1117) e_L_law_728 rfl (fun _ => hk w hw) (fun q => absurd rfl q))
  refine x_aload_n 2 e_L_law_700 rfl rfl ?_
  refine x_arg (k := 1) e_L_law_701 e_L_law_702 e_L_law_703 (by decide) e_L_law_704 e_L_law_705 (ib_k hN hb (by decide)) ?_
  refine x_arg (k := 2) e_L_law_706 e_L_law_707 e_L_law_708 (by decide) e_L_law_709 e_L_law_710 (ib_k hN hb (by decide)) ?_
  refine x_callVI (d' := 7) (ci := 9) (r := (RX9, TX9, 11)) (As := [.int (xs (ix (x + 1))), .int (xs (ix (x + 2)))]) (rest := []) e_L_law_711 zm_P_tellsBack lV_L_99 sh_0 rfl rfl rfl rfl (Nat.le_of_ble_eq_true rfl) (by decide) (cp_mono h0 ?_)
  rintro _ v1 ⟨r, rfl, h1⟩
  refine ⟨r, rfl, ?_⟩
  refine x_aload_n 1 e_L_law_714 rfl rfl ?_
  refine x_arg (k := 1) e_L_law_715 e_L_law_716 e_L_law_717 (by decide) e_L_law_718 e_L_law_719 (ib_k hN hb (by decide)) ?_
  refine x_arg (k := 2) e_L_law_720 e_L_law_721 e_L_law_722 (by decide) e_L_law_723 e_L_law_724 (ib_k hN hb (by decide)) ?_
  refine x_callVI (d' := 48) (ci := 10) (r := (RX10, TX10, 49)) (As := [.int (xs (ix (x + 1))), .int (xs (ix (x + 2)))]) (rest := [.int r]) e_L_law_725 zm_M_tellsBack lV_L_102 sh_154 rfl rfl rfl rfl (Nat.le_of_ble_eq_true rfl) (by decide) (cp_mono h1 ?_)
  rintro _ v2 ⟨r', rfl, h2⟩
  exact ⟨r', rfl, h2⟩
theorem l_film {x : Int32} {v : Vv} (hN : N ≤ 3072) (h : INV v) (hb : 0 ≤ x.toInt ∧ x.toInt + 6 ≤ N) (hk : ∀ w, INV w → GL N xs NF 1117 (LL x) [] (em w)) : GL N xs NF 733 (LL x) [] (em v) := by
  have h0 := i_film (a := xs (ix (x + 1))) (b := xs (ix (x + 2))) (Q := fun (r r' : Int32) w => GL N xs NF 761 (LL x) [.int r', .int r] (em w)) h (fun r w hw => x_icmp_eq (tgt := 1117) e_L_law_761 rfl (fun _ => hk w hw) (fun q => absurd rfl q))
  refine x_aload_n 2 e_L_law_733 rfl rfl ?_
  refine x_arg (k := 1) e_L_law_734 e_L_law_735 e_L_law_736 (by decide) e_L_law_737 e_L_law_738 (ib_k hN hb (by decide)) ?_
  refine x_arg (k := 2) e_L_law_739 e_L_law_740 e_L_law_741 (by decide) e_L_law_742 e_L_law_743 (ib_k hN hb (by decide)) ?_
  refine x_callVI (d' := 7) (ci := 9) (r := (RX9, TX9, 11)) (As := [.int (xs (ix (x + 1))), .int (xs (ix (x + 2)))]) (rest := []) e_L_law_744 zm_P_film lV_L_103 sh_0 rfl rfl rfl rfl (Nat.le_of_ble_eq_true rfl) (by decide) (cp_mono h0 ?_)
  rintro _ v1 ⟨r, rfl, h1⟩
  refine ⟨r, rfl, ?_⟩
  refine x_aload_n 1 e_L_law_747 rfl rfl ?_
  refine x_arg (k := 1) e_L_law_748 e_L_law_749 e_L_law_750 (by decide) e_L_law_751 e_L_law_752 (ib_k hN hb (by decide)) ?_
  refine x_arg (k := 2) e_L_law_753 e_L_law_754 e_L_law_755 (by decide) e_L_law_756 e_L_law_757 (ib_k hN hb (by decide)) ?_
  refine x_callVI (d' := 47) (ci := 10) (r := (RX10, TX10, 49)) (As := [.int (xs (ix (x + 1))), .int (xs (ix (x + 2)))]) (rest := [.int r]) e_L_law_758 zm_M_film lV_L_106 sh_154 rfl rfl rfl rfl (Nat.le_of_ble_eq_true rfl) (by decide) (cp_mono h1 ?_)
  rintro _ v2 ⟨r', rfl, h2⟩
  exact ⟨r', rfl, h2⟩
theorem l_drawn {x : Int32} {v : Vv} (hN : N ≤ 3072) (h : INV v) (hb : 0 ≤ x.toInt ∧ x.toInt + 6 ≤ N) (hk : ∀ w, INV w → GL N xs NF 1117 (LL x) [] (em w)) : GL N xs NF 766 (LL x) [] (em v) := by
  have h0 := i_drawn (a := xs (ix (x + 1))) (Q := fun (r r' : Int32) w => GL N xs NF 784 (LL x) [.int r', .int r] (em w)) h (fun r w hw => x_icmp_eq (tgt := 1117) e_L_law_784 rfl (fun _ => hk w hw) (fun q => absurd rfl q))
  refine x_aload_n 2 e_L_law_766 rfl rfl ?_
  refine x_arg (k := 1) e_L_law_767 e_L_law_768 e_L_law_769 (by decide) e_L_law_770 e_L_law_771 (ib_k hN hb (by decide)) ?_
  refine x_callVI (d' := 7) (ci := 9) (r := (RX9, TX9, 11)) (As := [.int (xs (ix (x + 1)))]) (rest := []) e_L_law_772 zm_P_drawn lV_L_107 sh_0 rfl rfl rfl rfl (Nat.le_of_ble_eq_true rfl) (by decide) (cp_mono h0 ?_)
  rintro _ v1 ⟨r, rfl, h1⟩
  refine ⟨r, rfl, ?_⟩
  refine x_aload_n 1 e_L_law_775 rfl rfl ?_
  refine x_arg (k := 1) e_L_law_776 e_L_law_777 e_L_law_778 (by decide) e_L_law_779 e_L_law_780 (ib_k hN hb (by decide)) ?_
  refine x_callVI (d' := 48) (ci := 10) (r := (RX10, TX10, 49)) (As := [.int (xs (ix (x + 1)))]) (rest := [.int r]) e_L_law_781 zm_M_drawn lV_L_110 sh_154 rfl rfl rfl rfl (Nat.le_of_ble_eq_true rfl) (by decide) (cp_mono h1 ?_)
  rintro _ v2 ⟨r', rfl, h2⟩
  exact ⟨r', rfl, h2⟩
theorem l_chance {x : Int32} {v : Vv} (hN : N ≤ 3072) (h : INV v) (hb : 0 ≤ x.toInt ∧ x.toInt + 6 ≤ N) (hk : ∀ w, INV w → GL N xs NF 1117 (LL x) [] (em w)) : GL N xs NF 789 (LL x) [] (em v) := by
  have h0 := i_chance (a := xs (ix (x + 1))) (b := xs (ix (x + 2))) (c := xs (ix (x + 3))) (QL := fun (r r' : Int64) w => GL N xs NF 827 (LL x) [.long r', .long r] (em w)) h (fun r w hw => x_lcmp e_L_law_827 (x_if_eq (tgt := 1117) e_L_law_828 rfl (fun _ => hk w hw) (fun q => absurd ((lg_cmp_eq0 _ _).mpr rfl) q)))
  refine x_aload_n 2 e_L_law_789 rfl rfl ?_
  refine x_arg (k := 1) e_L_law_790 e_L_law_791 e_L_law_792 (by decide) e_L_law_793 e_L_law_794 (ib_k hN hb (by decide)) ?_
  refine x_arg (k := 2) e_L_law_795 e_L_law_796 e_L_law_797 (by decide) e_L_law_798 e_L_law_799 (ib_k hN hb (by decide)) ?_
  refine x_arg (k := 3) e_L_law_800 e_L_law_801 e_L_law_802 (by decide) e_L_law_803 e_L_law_804 (ib_k hN hb (by decide)) ?_
  refine x_callVJ (d' := 7) (ci := 9) (r := (RX9, TX9, 11)) (As := [.int (xs (ix (x + 1))), .int (xs (ix (x + 2))), .int (xs (ix (x + 3)))]) (rest := []) e_L_law_805 zm_P_chance lV_L_111 sh_0 rfl rfl rfl rfl (Nat.le_of_ble_eq_true rfl) (by decide) (cp_mono h0 ?_)
  rintro _ v1 ⟨r, rfl, h1⟩
  refine ⟨r, rfl, ?_⟩
  refine x_aload_n 1 e_L_law_808 rfl rfl ?_
  refine x_arg (k := 1) e_L_law_809 e_L_law_810 e_L_law_811 (by decide) e_L_law_812 e_L_law_813 (ib_k hN hb (by decide)) ?_
  refine x_arg (k := 2) e_L_law_814 e_L_law_815 e_L_law_816 (by decide) e_L_law_817 e_L_law_818 (ib_k hN hb (by decide)) ?_
  refine x_arg (k := 3) e_L_law_819 e_L_law_820 e_L_law_821 (by decide) e_L_law_822 e_L_law_823 (ib_k hN hb (by decide)) ?_
  refine x_callVJ (d' := 48) (ci := 10) (r := (RX10, TX10, 49)) (As := [.int (xs (ix (x + 1))), .int (xs (ix (x + 2))), .int (xs (ix (x + 3)))]) (rest := [.long r]) e_L_law_824 zm_M_chance lV_L_115 sh_154 rfl rfl rfl rfl (Nat.le_of_ble_eq_true rfl) (by decide) (cp_mono h1 ?_)
  rintro _ v2 ⟨r', rfl, h2⟩
  exact ⟨r', rfl, h2⟩
theorem l_image {x : Int32} {v : Vv} (hN : N ≤ 3072) (h : INV v) (hb : 0 ≤ x.toInt ∧ x.toInt + 6 ≤ N) (hk : ∀ w, INV w → GL N xs NF 1117 (LL x) [] (em w)) : GL N xs NF 833 (LL x) [] (em v) := by
  have h0 := i_image  (Q := fun (r r' : Int32) w => GL N xs NF 841 (LL x) [.int r', .int r] (em w)) h (fun r w hw => x_icmp_eq (tgt := 1117) e_L_law_841 rfl (fun _ => hk w hw) (fun q => absurd rfl q))
  refine x_aload_n 2 e_L_law_833 rfl rfl ?_
  refine x_callVI (d' := 3) (ci := 9) (r := (RX9, TX9, 11)) (As := []) (rest := []) e_L_law_834 zm_P_image lV_L_116 sh_0 rfl rfl rfl rfl (Nat.le_of_ble_eq_true rfl) (by decide) (cp_mono h0 ?_)
  rintro _ v1 ⟨r, rfl, h1⟩
  refine ⟨r, rfl, ?_⟩
  refine x_aload_n 1 e_L_law_837 rfl rfl ?_
  refine x_callVI (d' := 1) (ci := 10) (r := (RX10, TX10, 49)) (As := []) (rest := [.int r]) e_L_law_838 zm_M_image lV_L_119 sh_154 rfl rfl rfl rfl (Nat.le_of_ble_eq_true rfl) (by decide) (cp_mono h1 ?_)
  rintro _ v2 ⟨r', rfl, h2⟩
  exact ⟨r', rfl, h2⟩
theorem l_back {x : Int32} {v : Vv} (hN : N ≤ 3072) (h : INV v) (hb : 0 ≤ x.toInt ∧ x.toInt + 6 ≤ N) (hk : ∀ w, INV w → GL N xs NF 1117 (LL x) [] (em w)) : GL N xs NF 846 (LL x) [] (em v) := by
  have h0 := i_back  (Q := fun (r r' : Int32) w => GL N xs NF 854 (LL x) [.int r', .int r] (em w)) h (fun r w hw => x_icmp_eq (tgt := 1117) e_L_law_854 rfl (fun _ => hk w hw) (fun q => absurd rfl q))
  refine x_aload_n 2 e_L_law_846 rfl rfl ?_
  refine x_callVI (d' := 3) (ci := 9) (r := (RX9, TX9, 11)) (As := []) (rest := []) e_L_law_847 zm_P_back lV_L_120 sh_0 rfl rfl rfl rfl (Nat.le_of_ble_eq_true rfl) (by decide) (cp_mono h0 ?_)
  rintro _ v1 ⟨r, rfl, h1⟩
  refine ⟨r, rfl, ?_⟩
  refine x_aload_n 1 e_L_law_850 rfl rfl ?_
  refine x_callVI (d' := 1) (ci := 10) (r := (RX10, TX10, 49)) (As := []) (rest := [.int r]) e_L_law_851 zm_M_back lV_L_123 sh_154 rfl rfl rfl rfl (Nat.le_of_ble_eq_true rfl) (by decide) (cp_mono h1 ?_)
  rintro _ v2 ⟨r', rfl, h2⟩
  exact ⟨r', rfl, h2⟩
theorem l_count {x : Int32} {v : Vv} (hN : N ≤ 3072) (h : INV v) (hb : 0 ≤ x.toInt ∧ x.toInt + 6 ≤ N) (hk : ∀ w, INV w → GL N xs NF 1117 (LL x) [] (em w)) : GL N xs NF 859 (LL x) [] (em v) := by
  have h0 := i_count (a := xs (ix (x + 1))) (Q := fun (r r' : Int32) w => GL N xs NF 877 (LL x) [.int r', .int r] (em w)) h (fun r w hw => x_icmp_eq (tgt := 1117) e_L_law_877 rfl (fun _ => hk w hw) (fun q => absurd rfl q))
  refine x_aload_n 2 e_L_law_859 rfl rfl ?_
  refine x_arg (k := 1) e_L_law_860 e_L_law_861 e_L_law_862 (by decide) e_L_law_863 e_L_law_864 (ib_k hN hb (by decide)) ?_
  refine x_callVI (d' := 2) (ci := 9) (r := (RX9, TX9, 11)) (As := [.int (xs (ix (x + 1)))]) (rest := []) e_L_law_865 zm_P_count lV_L_124 sh_0 rfl rfl rfl rfl (Nat.le_of_ble_eq_true rfl) (by decide) (cp_mono h0 ?_)
  rintro _ v1 ⟨r, rfl, h1⟩
  refine ⟨r, rfl, ?_⟩
  refine x_aload_n 1 e_L_law_868 rfl rfl ?_
  refine x_arg (k := 1) e_L_law_869 e_L_law_870 e_L_law_871 (by decide) e_L_law_872 e_L_law_873 (ib_k hN hb (by decide)) ?_
  refine x_callVI (d' := 2) (ci := 10) (r := (RX10, TX10, 49)) (As := [.int (xs (ix (x + 1)))]) (rest := [.int r]) e_L_law_874 zm_M_count lV_L_127 sh_154 rfl rfl rfl rfl (Nat.le_of_ble_eq_true rfl) (by decide) (cp_mono h1 ?_)
  rintro _ v2 ⟨r', rfl, h2⟩
  exact ⟨r', rfl, h2⟩
theorem l_sheet {x : Int32} {v : Vv} (hN : N ≤ 3072) (h : INV v) (hb : 0 ≤ x.toInt ∧ x.toInt + 6 ≤ N) (hk : ∀ w, INV w → GL N xs NF 1117 (LL x) [] (em w)) : GL N xs NF 882 (LL x) [] (em v) := by
  have h0 := i_sheet (a := xs (ix (x + 1))) (b := xs (ix (x + 2))) (c := xs (ix (x + 3))) (Q := fun (r r' : Int32) w => GL N xs NF 920 (LL x) [.int r', .int r] (em w)) h (fun r w hw => x_icmp_eq (tgt := 1117) e_L_law_920 rfl (fun _ => hk w hw) (fun q => absurd rfl q))
  refine x_aload_n 2 e_L_law_882 rfl rfl ?_
  refine x_arg (k := 1) e_L_law_883 e_L_law_884 e_L_law_885 (by decide) e_L_law_886 e_L_law_887 (ib_k hN hb (by decide)) ?_
  refine x_arg (k := 2) e_L_law_888 e_L_law_889 e_L_law_890 (by decide) e_L_law_891 e_L_law_892 (ib_k hN hb (by decide)) ?_
  refine x_arg (k := 3) e_L_law_893 e_L_law_894 e_L_law_895 (by decide) e_L_law_896 e_L_law_897 (ib_k hN hb (by decide)) ?_
  refine x_callVI (d' := 4) (ci := 9) (r := (RX9, TX9, 11)) (As := [.int (xs (ix (x + 1))), .int (xs (ix (x + 2))), .int (xs (ix (x + 3)))]) (rest := []) e_L_law_898 zm_P_sheet lV_L_128 sh_0 rfl rfl rfl rfl (Nat.le_of_ble_eq_true rfl) (by decide) (cp_mono h0 ?_)
  rintro _ v1 ⟨r, rfl, h1⟩
  refine ⟨r, rfl, ?_⟩
  refine x_aload_n 1 e_L_law_901 rfl rfl ?_
  refine x_arg (k := 1) e_L_law_902 e_L_law_903 e_L_law_904 (by decide) e_L_law_905 e_L_law_906 (ib_k hN hb (by decide)) ?_
  refine x_arg (k := 2) e_L_law_907 e_L_law_908 e_L_law_909 (by decide) e_L_law_910 e_L_law_911 (ib_k hN hb (by decide)) ?_
  refine x_arg (k := 3) e_L_law_912 e_L_law_913 e_L_law_914 (by decide) e_L_law_915 e_L_law_916 (ib_k hN hb (by decide)) ?_
  refine x_callVI (d' := 3) (ci := 10) (r := (RX10, TX10, 49)) (As := [.int (xs (ix (x + 1))), .int (xs (ix (x + 2))), .int (xs (ix (x + 3)))]) (rest := [.int r]) e_L_law_917 zm_M_sheet lV_L_131 sh_154 rfl rfl rfl rfl (Nat.le_of_ble_eq_true rfl) (by decide) (cp_mono h1 ?_)
  rintro _ v2 ⟨r', rfl, h2⟩
  exact ⟨r', rfl, h2⟩
theorem l_cell {x : Int32} {v : Vv} (hN : N ≤ 3072) (h : INV v) (hb : 0 ≤ x.toInt ∧ x.toInt + 6 ≤ N) (hk : ∀ w, INV w → GL N xs NF 1117 (LL x) [] (em w)) : GL N xs NF 925 (LL x) [] (em v) := by
  have h0 := i_cell (a := xs (ix (x + 1))) (b := xs (ix (x + 2))) (c := xs (ix (x + 3))) (Q := fun (r r' : Int32) w => GL N xs NF 963 (LL x) [.int r', .int r] (em w)) h (fun r w hw => x_icmp_eq (tgt := 1117) e_L_law_963 rfl (fun _ => hk w hw) (fun q => absurd rfl q))
  refine x_aload_n 2 e_L_law_925 rfl rfl ?_
  refine x_arg (k := 1) e_L_law_926 e_L_law_927 e_L_law_928 (by decide) e_L_law_929 e_L_law_930 (ib_k hN hb (by decide)) ?_
  refine x_arg (k := 2) e_L_law_931 e_L_law_932 e_L_law_933 (by decide) e_L_law_934 e_L_law_935 (ib_k hN hb (by decide)) ?_
  refine x_arg (k := 3) e_L_law_936 e_L_law_937 e_L_law_938 (by decide) e_L_law_939 e_L_law_940 (ib_k hN hb (by decide)) ?_
  refine x_callVI (d' := 3) (ci := 9) (r := (RX9, TX9, 11)) (As := [.int (xs (ix (x + 1))), .int (xs (ix (x + 2))), .int (xs (ix (x + 3)))]) (rest := []) e_L_law_941 zm_P_cell lV_L_132 sh_0 rfl rfl rfl rfl (Nat.le_of_ble_eq_true rfl) (by decide) (cp_mono h0 ?_)
  rintro _ v1 ⟨r, rfl, h1⟩
  refine ⟨r, rfl, ?_⟩
  refine x_aload_n 1 e_L_law_944 rfl rfl ?_
  refine x_arg (k := 1) e_L_law_945 e_L_law_946 e_L_law_947 (by decide) e_L_law_948 e_L_law_949 (ib_k hN hb (by decide)) ?_
  refine x_arg (k := 2) e_L_law_950 e_L_law_951 e_L_law_952 (by decide) e_L_law_953 e_L_law_954 (ib_k hN hb (by decide)) ?_
  refine x_arg (k := 3) e_L_law_955 e_L_law_956 e_L_law_957 (by decide) e_L_law_958 e_L_law_959 (ib_k hN hb (by decide)) ?_
  refine x_callVI (d' := 3) (ci := 10) (r := (RX10, TX10, 49)) (As := [.int (xs (ix (x + 1))), .int (xs (ix (x + 2))), .int (xs (ix (x + 3)))]) (rest := [.int r]) e_L_law_960 zm_M_cell lV_L_135 sh_154 rfl rfl rfl rfl (Nat.le_of_ble_eq_true rfl) (by decide) (cp_mono h1 ?_)
  rintro _ v2 ⟨r', rfl, h2⟩
  exact ⟨r', rfl, h2⟩
theorem l_copy {x : Int32} {v : Vv} (hN : N ≤ 3072) (h : INV v) (hb : 0 ≤ x.toInt ∧ x.toInt + 6 ≤ N) (hk : ∀ w, INV w → GL N xs NF 1117 (LL x) [] (em w)) : GL N xs NF 968 (LL x) [] (em v) := by
  have h0 := i_copy (a := xs (ix (x + 1))) (b := xs (ix (x + 2))) (c := xs (ix (x + 3))) (d := xs (ix (x + 4))) (n := xs (ix (x + 5))) (Q := fun (r r' : Int32) w => GL N xs NF 1026 (LL x) [.int r', .int r] (em w)) h (fun r w hw => x_icmp_eq (tgt := 1117) e_L_law_1026 rfl (fun _ => hk w hw) (fun q => absurd rfl q))
  refine x_aload_n 2 e_L_law_968 rfl rfl ?_
  refine x_arg (k := 1) e_L_law_969 e_L_law_970 e_L_law_971 (by decide) e_L_law_972 e_L_law_973 (ib_k hN hb (by decide)) ?_
  refine x_arg (k := 2) e_L_law_974 e_L_law_975 e_L_law_976 (by decide) e_L_law_977 e_L_law_978 (ib_k hN hb (by decide)) ?_
  refine x_arg (k := 3) e_L_law_979 e_L_law_980 e_L_law_981 (by decide) e_L_law_982 e_L_law_983 (ib_k hN hb (by decide)) ?_
  refine x_arg (k := 4) e_L_law_984 e_L_law_985 e_L_law_986 (by decide) e_L_law_987 e_L_law_988 (ib_k hN hb (by decide)) ?_
  refine x_arg (k := 5) e_L_law_989 e_L_law_990 e_L_law_991 (by decide) e_L_law_992 e_L_law_993 (ib_k hN hb (by decide)) ?_
  refine x_callVI (d' := 13) (ci := 9) (r := (RX9, TX9, 11)) (As := [.int (xs (ix (x + 1))), .int (xs (ix (x + 2))), .int (xs (ix (x + 3))), .int (xs (ix (x + 4))), .int (xs (ix (x + 5)))]) (rest := []) e_L_law_994 zm_P_copy lV_L_136 sh_0 rfl rfl rfl rfl (Nat.le_of_ble_eq_true rfl) (by decide) (cp_mono h0 ?_)
  rintro _ v1 ⟨r, rfl, h1⟩
  refine ⟨r, rfl, ?_⟩
  refine x_aload_n 1 e_L_law_997 rfl rfl ?_
  refine x_arg (k := 1) e_L_law_998 e_L_law_999 e_L_law_1000 (by decide) e_L_law_1001 e_L_law_1002 (ib_k hN hb (by decide)) ?_
  refine x_arg (k := 2) e_L_law_1003 e_L_law_1004 e_L_law_1005 (by decide) e_L_law_1006 e_L_law_1007 (ib_k hN hb (by decide)) ?_
  refine x_arg (k := 3) e_L_law_1008 e_L_law_1009 e_L_law_1010 (by decide) e_L_law_1011 e_L_law_1012 (ib_k hN hb (by decide)) ?_
  refine x_arg (k := 4) e_L_law_1013 e_L_law_1014 e_L_law_1015 (by decide) e_L_law_1016 e_L_law_1017 (ib_k hN hb (by decide)) ?_
  refine x_arg (k := 5) e_L_law_1018 e_L_law_1019 e_L_law_1020 (by decide) e_L_law_1021 e_L_law_1022 (ib_k hN hb (by decide)) ?_
  refine x_callVI (d' := 3) (ci := 10) (r := (RX10, TX10, 49)) (As := [.int (xs (ix (x + 1))), .int (xs (ix (x + 2))), .int (xs (ix (x + 3))), .int (xs (ix (x + 4))), .int (xs (ix (x + 5)))]) (rest := [.int r]) e_L_law_1023 zm_M_copy lV_L_140 sh_154 rfl rfl rfl rfl (Nat.le_of_ble_eq_true rfl) (by decide) (cp_mono h1 ?_)
  rintro _ v2 ⟨r', rfl, h2⟩
  exact ⟨r', rfl, h2⟩
theorem l_clocks {x : Int32} {v : Vv} (hN : N ≤ 3072) (h : INV v) (hb : 0 ≤ x.toInt ∧ x.toInt + 6 ≤ N) (hk : ∀ w, INV w → GL N xs NF 1117 (LL x) [] (em w)) : GL N xs NF 1031 (LL x) [] (em v) := by
  have h0 := i_clocks (a := xs (ix (x + 1))) (b := xs (ix (x + 2))) (c := xs (ix (x + 3))) (d := xs (ix (x + 4))) (Q := fun (r r' : Int32) w => GL N xs NF 1079 (LL x) [.int r', .int r] (em w)) h (fun r w hw => x_icmp_eq (tgt := 1117) e_L_law_1079 rfl (fun _ => hk w hw) (fun q => absurd rfl q))
  refine x_aload_n 2 e_L_law_1031 rfl rfl ?_
  refine x_arg (k := 1) e_L_law_1032 e_L_law_1033 e_L_law_1034 (by decide) e_L_law_1035 e_L_law_1036 (ib_k hN hb (by decide)) ?_
  refine x_arg (k := 2) e_L_law_1037 e_L_law_1038 e_L_law_1039 (by decide) e_L_law_1040 e_L_law_1041 (ib_k hN hb (by decide)) ?_
  refine x_arg (k := 3) e_L_law_1042 e_L_law_1043 e_L_law_1044 (by decide) e_L_law_1045 e_L_law_1046 (ib_k hN hb (by decide)) ?_
  refine x_arg (k := 4) e_L_law_1047 e_L_law_1048 e_L_law_1049 (by decide) e_L_law_1050 e_L_law_1051 (ib_k hN hb (by decide)) ?_
  refine x_callVI (d' := 3) (ci := 9) (r := (RX9, TX9, 11)) (As := [.int (xs (ix (x + 1))), .int (xs (ix (x + 2))), .int (xs (ix (x + 3))), .int (xs (ix (x + 4)))]) (rest := []) e_L_law_1052 zm_P_clocks lV_L_141 sh_0 rfl rfl rfl rfl (Nat.le_of_ble_eq_true rfl) (by decide) (cp_mono h0 ?_)
  rintro _ v1 ⟨r, rfl, h1⟩
  refine ⟨r, rfl, ?_⟩
  refine x_aload_n 1 e_L_law_1055 rfl rfl ?_
  refine x_arg (k := 1) e_L_law_1056 e_L_law_1057 e_L_law_1058 (by decide) e_L_law_1059 e_L_law_1060 (ib_k hN hb (by decide)) ?_
  refine x_arg (k := 2) e_L_law_1061 e_L_law_1062 e_L_law_1063 (by decide) e_L_law_1064 e_L_law_1065 (ib_k hN hb (by decide)) ?_
  refine x_arg (k := 3) e_L_law_1066 e_L_law_1067 e_L_law_1068 (by decide) e_L_law_1069 e_L_law_1070 (ib_k hN hb (by decide)) ?_
  refine x_arg (k := 4) e_L_law_1071 e_L_law_1072 e_L_law_1073 (by decide) e_L_law_1074 e_L_law_1075 (ib_k hN hb (by decide)) ?_
  refine x_callVI (d' := 3) (ci := 10) (r := (RX10, TX10, 49)) (As := [.int (xs (ix (x + 1))), .int (xs (ix (x + 2))), .int (xs (ix (x + 3))), .int (xs (ix (x + 4)))]) (rest := [.int r]) e_L_law_1076 zm_M_clocks lV_L_145 sh_154 rfl rfl rfl rfl (Nat.le_of_ble_eq_true rfl) (by decide) (cp_mono h1 ?_)
  rintro _ v2 ⟨r', rfl, h2⟩
  exact ⟨r', rfl, h2⟩
theorem l_taken {x : Int32} {v : Vv} (hN : N ≤ 3072) (h : INV v) (hb : 0 ≤ x.toInt ∧ x.toInt + 6 ≤ N) (hk : ∀ w, INV w → GL N xs NF 1117 (LL x) [] (em w)) : GL N xs NF 1084 (LL x) [] (em v) := by
  have h0 := i_taken (a := xs (ix (x + 1))) (b := xs (ix (x + 2))) (Q := fun (r r' : Int32) w => GL N xs NF 1112 (LL x) [.int r', .int r] (em w)) h (fun r w hw => x_icmp_eq (tgt := 1117) e_L_law_1112 rfl (fun _ => hk w hw) (fun q => absurd rfl q))
  refine x_aload_n 2 e_L_law_1084 rfl rfl ?_
  refine x_arg (k := 1) e_L_law_1085 e_L_law_1086 e_L_law_1087 (by decide) e_L_law_1088 e_L_law_1089 (ib_k hN hb (by decide)) ?_
  refine x_arg (k := 2) e_L_law_1090 e_L_law_1091 e_L_law_1092 (by decide) e_L_law_1093 e_L_law_1094 (ib_k hN hb (by decide)) ?_
  refine x_callVI (d' := 3) (ci := 9) (r := (RX9, TX9, 11)) (As := [.int (xs (ix (x + 1))), .int (xs (ix (x + 2)))]) (rest := []) e_L_law_1095 zm_P_taken lV_L_146 sh_0 rfl rfl rfl rfl (Nat.le_of_ble_eq_true rfl) (by decide) (cp_mono h0 ?_)
  rintro _ v1 ⟨r, rfl, h1⟩
  refine ⟨r, rfl, ?_⟩
  refine x_aload_n 1 e_L_law_1098 rfl rfl ?_
  refine x_arg (k := 1) e_L_law_1099 e_L_law_1100 e_L_law_1101 (by decide) e_L_law_1102 e_L_law_1103 (ib_k hN hb (by decide)) ?_
  refine x_arg (k := 2) e_L_law_1104 e_L_law_1105 e_L_law_1106 (by decide) e_L_law_1107 e_L_law_1108 (ib_k hN hb (by decide)) ?_
  refine x_callVI (d' := 3) (ci := 10) (r := (RX10, TX10, 49)) (As := [.int (xs (ix (x + 1))), .int (xs (ix (x + 2)))]) (rest := [.int r]) e_L_law_1109 zm_M_taken lV_L_149 sh_154 rfl rfl rfl rfl (Nat.le_of_ble_eq_true rfl) (by decide) (cp_mono h1 ?_)
  rintro _ v2 ⟨r', rfl, h2⟩
  exact ⟨r', rfl, h2⟩
theorem l_body {x : Int32} {v : Vv} (hN : N ≤ 3072) (h : INV v) (h0 : 0 ≤ x.toInt) (h1 : x.toInt ≤ N + 6) (hk : (0 ≤ x.toInt ∧ x.toInt + 6 ≤ N) → ∀ w, INV w → GL N xs NF 1117 (LL x) [] (em w)) : GL N xs NF 18 (LL x) [] (em v) := by
  have eN : (Int32.ofNat N - 6).toInt = (N : Int) - 6 := by
    have e1 : (Int32.ofNat N).toInt = N := nI_tI (by omega)
    rw [Int32.toInt_sub, e1, show (6 : Int32).toInt = 6 by decide]
    exact Int.bmod_eq_of_le (by omega) (by omega)
  refine x_iload_n 0 e_L_law_18 rfl rfl ?_
  refine x_aload_n 3 e_L_law_19 rfl rfl ?_
  refine x_scl e_L_law_20 ?_
  refine x_bipush (6 : Int32) e_L_law_21 (by decide) ?_
  refine x_isub e_L_law_23 ?_
  refine x_icmp_gt (tgt := 1123) e_L_law_24 rfl (fun _ => ?_) (fun hc => ?_)
  · refine x_iconst (1 : Int32) e_L_law_1123 (by decide) ?_
    exact x_ret (some (.int 1)) ⟨e_L_law_1124.1, _, rfl, rfl⟩ rfl rfl rfl
  · have hb : 0 ≤ x.toInt ∧ x.toInt + 6 ≤ N := by
      simp only [Int32.lt_iff_toInt_lt, Int32.le_iff_toInt_le, eN] at hc
      omega
    refine x_aload_n 3 e_L_law_27 rfl rfl ?_
    refine x_iload_n 0 e_L_law_28 rfl rfl ?_
    refine x_sci e_L_law_29 (by unfold ib; omega) ?_
    refine x_bipush (31 : Int32) e_L_law_30 (by decide) ?_
    refine x_iand e_L_law_32 ?_
    obtain ⟨k, hk1, hk2⟩ := and31 (xs (ix x))
    have hk3 : k = 0 ∨ k = 1 ∨ k = 2 ∨ k = 3 ∨ k = 4 ∨ k = 5 ∨ k = 6 ∨ k = 7 ∨ k = 8 ∨ k = 9 ∨ k = 10 ∨ k = 11 ∨ k = 12 ∨ k = 13 ∨ k = 14 ∨ k = 15 ∨ k = 16 ∨ k = 17 ∨ k = 18 ∨ k = 19 ∨ k = 20 ∨ k = 21 ∨ k = 22 ∨ k = 23 ∨ k = 24 ∨ k = 25 ∨ k = 26 ∨ k = 27 ∨ k = 28 ∨ k = 29 ∨ k = 30 ∨ k = 31 := by omega
    rcases hk3 with rfl | rfl | rfl | rfl | rfl | rfl | rfl | rfl | rfl | rfl | rfl | rfl | rfl | rfl | rfl | rfl | rfl | rfl | rfl | rfl | rfl | rfl | rfl | rfl | rfl | rfl | rfl | rfl | rfl | rfl | rfl | rfl
    · exact x_tsw (off := 143) (tgt := 176) e_L_law_33 (nI 0) hk2 (by decide) (by decide) (by decide) rfl (l_clock hN h hb (hk hb))
    · exact x_tsw (off := 176) (tgt := 209) e_L_law_33 (nI 1) hk2 (by decide) (by decide) (by decide) rfl (l_doer hN h hb (hk hb))
    · exact x_tsw (off := 219) (tgt := 252) e_L_law_33 (nI 2) hk2 (by decide) (by decide) (by decide) rfl (l_set hN h hb (hk hb))
    · exact x_tsw (off := 262) (tgt := 295) e_L_law_33 (nI 3) hk2 (by decide) (by decide) (by decide) rfl (l_told hN h hb (hk hb))
    · exact x_tsw (off := 295) (tgt := 328) e_L_law_33 (nI 4) hk2 (by decide) (by decide) (by decide) rfl (l_feed hN h hb (hk hb))
    · exact x_tsw (off := 318) (tgt := 351) e_L_law_33 (nI 5) hk2 (by decide) (by decide) (by decide) rfl (l_text hN h hb (hk hb))
    · exact x_tsw (off := 331) (tgt := 364) e_L_law_33 (nI 6) hk2 (by decide) (by decide) (by decide) rfl (l_force hN h hb (hk hb))
    · exact x_tsw (off := 354) (tgt := 387) e_L_law_33 (nI 7) hk2 (by decide) (by decide) (by decide) rfl (l_at hN h hb (hk hb))
    · exact x_tsw (off := 397) (tgt := 430) e_L_law_33 (nI 8) hk2 (by decide) (by decide) (by decide) rfl (l_right hN h hb (hk hb))
    · exact x_tsw (off := 430) (tgt := 463) e_L_law_33 (nI 9) hk2 (by decide) (by decide) (by decide) rfl (l_world hN h hb (hk hb))
    · exact x_tsw (off := 454) (tgt := 487) e_L_law_33 (nI 10) hk2 (by decide) (by decide) (by decide) rfl (l_odds hN h hb (hk hb))
    · exact x_tsw (off := 488) (tgt := 521) e_L_law_33 (nI 11) hk2 (by decide) (by decide) (by decide) rfl (l_time hN h hb (hk hb))
    · exact x_tsw (off := 511) (tgt := 544) e_L_law_33 (nI 12) hk2 (by decide) (by decide) (by decide) rfl (l_sure hN h hb (hk hb))
    · exact x_tsw (off := 535) (tgt := 568) e_L_law_33 (nI 13) hk2 (by decide) (by decide) (by decide) rfl (l_look hN h hb (hk hb))
    · exact x_tsw (off := 548) (tgt := 581) e_L_law_33 (nI 14) hk2 (by decide) (by decide) (by decide) rfl (l_fewest hN h hb (hk hb))
    · exact x_tsw (off := 561) (tgt := 594) e_L_law_33 (nI 15) hk2 (by decide) (by decide) (by decide) rfl (l_ask hN h hb (hk hb))
    · exact x_tsw (off := 574) (tgt := 607) e_L_law_33 (nI 16) hk2 (by decide) (by decide) (by decide) rfl (l_say hN h hb (hk hb))
    · exact x_tsw (off := 597) (tgt := 630) e_L_law_33 (nI 17) hk2 (by decide) (by decide) (by decide) rfl (l_bad hN h hb (hk hb))
    · exact x_tsw (off := 621) (tgt := 654) e_L_law_33 (nI 18) hk2 (by decide) (by decide) (by decide) rfl (l_late hN h hb (hk hb))
    · exact x_tsw (off := 644) (tgt := 677) e_L_law_33 (nI 19) hk2 (by decide) (by decide) (by decide) rfl (l_live hN h hb (hk hb))
    · exact x_tsw (off := 667) (tgt := 700) e_L_law_33 (nI 20) hk2 (by decide) (by decide) (by decide) rfl (l_tellsBack hN h hb (hk hb))
    · exact x_tsw (off := 700) (tgt := 733) e_L_law_33 (nI 21) hk2 (by decide) (by decide) (by decide) rfl (l_film hN h hb (hk hb))
    · exact x_tsw (off := 733) (tgt := 766) e_L_law_33 (nI 22) hk2 (by decide) (by decide) (by decide) rfl (l_drawn hN h hb (hk hb))
    · exact x_tsw (off := 756) (tgt := 789) e_L_law_33 (nI 23) hk2 (by decide) (by decide) (by decide) rfl (l_chance hN h hb (hk hb))
    · exact x_tsw (off := 800) (tgt := 833) e_L_law_33 (nI 24) hk2 (by decide) (by decide) (by decide) rfl (l_image hN h hb (hk hb))
    · exact x_tsw (off := 813) (tgt := 846) e_L_law_33 (nI 25) hk2 (by decide) (by decide) (by decide) rfl (l_back hN h hb (hk hb))
    · exact x_tsw (off := 826) (tgt := 859) e_L_law_33 (nI 26) hk2 (by decide) (by decide) (by decide) rfl (l_count hN h hb (hk hb))
    · exact x_tsw (off := 849) (tgt := 882) e_L_law_33 (nI 27) hk2 (by decide) (by decide) (by decide) rfl (l_sheet hN h hb (hk hb))
    · exact x_tsw (off := 892) (tgt := 925) e_L_law_33 (nI 28) hk2 (by decide) (by decide) (by decide) rfl (l_cell hN h hb (hk hb))
    · exact x_tsw (off := 935) (tgt := 968) e_L_law_33 (nI 29) hk2 (by decide) (by decide) (by decide) rfl (l_copy hN h hb (hk hb))
    · exact x_tsw (off := 998) (tgt := 1031) e_L_law_33 (nI 30) hk2 (by decide) (by decide) (by decide) rfl (l_clocks hN h hb (hk hb))
    · exact x_tsw (off := 1051) (tgt := 1084) e_L_law_33 (nI 31) hk2 (by decide) (by decide) (by decide) rfl (l_taken hN h hb (hk hb))
theorem l_loop (hN : N ≤ 3072) : ∀ (f : Nat) (x : Int32) (v : Vv), INV v → 0 ≤ x.toInt → x.toInt ≤ N + 6 → N + 6 - x.toInt ≤ f → GL N xs NF 18 (LL x) [] (em v)
  | 0, x, v, hi, h0, h1, h2 => by
    refine l_body hN hi h0 h1 (fun hb w hw => ?_)
    omega
  | f + 1, x, v, hi, h0, h1, h2 => by
    refine l_body hN hi h0 h1 (fun hb w hw => ?_)
    have e : (x + 6).toInt = x.toInt + 6 := by
      rw [Int32.toInt_add]
      exact Int.bmod_eq_of_le (by rw [show (6 : Int32).toInt = 6 by decide]; omega) (by rw [show (6 : Int32).toInt = 6 by decide]; omega)
    refine x_iinc (v := x + 6) (L' := LL (x + 6)) 0 e_L_law_1117 rfl rfl (by decide) rfl ?_
    refine x_goto (tgt := 18) e_L_law_1120 rfl ?_
    exact l_loop hN f (x + 6) w hw (by omega) (by omega) (by omega)
theorem TG_E6 : TG 154 177 (E6 W00) := fun i h1 h2 k => by
  refine ⟨?_, rfl, rfl⟩
  have mo : ∀ (W : Mm) (a b : Nat) (y : Int32), a < 154 → (mI W a b y).1 i k = W.1 i k := fun W a b y ha => if_neg (fun q => by omega)
  unfold E6
  rw [mo _ _ _ _ (by decide), mo _ _ _ _ (by decide), mo _ _ _ _ (by decide), mo _ _ _ _ (by decide), mo _ _ _ _ (by decide), mo _ _ _ _ (by decide), mo _ _ _ _ (by decide), mo _ _ _ _ (by decide), mo _ _ _ _ (by decide)]
  rfl
theorem l_all (hN : N ≤ 3072) : GL N xs 0 0 [(0, .ref 100060)] [] W00 := by
  refine x_newI (d' := 4) (n' := 154) (r := (RX9, TX9, 11)) (c_P (TG_W00 0 154)) (ho_P 0) (nz_P (TG_W00 0 154) (Nat.le_refl _) (by decide) sy_0) sy_0 rfl e_L_law_0 e_L_law_3 e_L_law_4 (zT_1 (i := 19) rfl rfl) ni_P nt_P zm_P_init (⟨zT_1 (i := 21) rfl rfl, zT_1 (i := 22) rfl rfl, rfl, rfl⟩) (Nat.le_of_ble_eq_true rfl) (by decide) (by decide) (by decide) (by decide) ?_
  refine x_astore_n (L' := [(1, .ref 0), (0, .ref 100060)]) e_L_law_7 rfl (by decide) rfl ?_
  refine x_newI (d' := 1) (n' := 177) (r := (RX10, TX10, 49)) (c_M TG_E6) (ho_M 154) (nz_M TG_E6 (Nat.le_refl _) (by decide) sy_154) sy_154 rfl e_L_law_8 e_L_law_11 e_L_law_12 (zT_4 (i := 197) rfl rfl) ni_M nt_M zm_M_init (⟨zT_4 (i := 199) rfl rfl, zT_4 (i := 200) rfl rfl, rfl, rfl⟩) (Nat.le_of_ble_eq_true rfl) (by decide) (by decide) (by decide) (by decide) ?_
  rw [em_v0]
  refine x_astore_n (L' := [(2, .ref 154), (1, .ref 0), (0, .ref 100060)]) e_L_law_15 rfl (by decide) rfl ?_
  refine x_iconst (0 : Int32) e_L_law_16 (by decide) ?_
  refine x_istore_n (L' := LL 0) e_L_law_17 rfl (by decide) rfl ?_
  exact l_loop hN (N + 6) 0 v0 INV_0 (by decide) (by rw [show (0 : Int32).toInt = 0 by decide]; omega) (by rw [show (0 : Int32).toInt = 0 by decide]; omega)
end LW
