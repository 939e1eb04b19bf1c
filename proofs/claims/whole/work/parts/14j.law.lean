/-! ===== the law's cases and its loop (printed by a program of mine) ===== -/
abbrev YL (nm : String) : m_Y := (⟨"KilnBenchLaw", nm, "([I)Z"⟩, cL_law, 4, some .boolean)
abbrev LVl (i : Nat) : List (Option m_V) := [some (vR 0 2), some (vR 1 0), some (vR 34 0), some (vI (i : Int))]
def l_av (G : m_G) (i j : Nat) : Int := (G.2.2.2.1.2.2 (i + j)).toInt
section LW
variable {G : m_G} {X : m_X} {nm : String} {d mc ms kc ks i : Nat} {S : Nat × Bool × Nat × Nat} {μ : m_M} {pc : Nat} {lv : List (Option m_V)} {st : List m_V}
theorem l_arg {Y : m_Y} {j : Nat} (C : m_Cx G X Y d mc ms) (d1 : decode Y.2.1 pc = .ok (.aload_n 0, 1)) (d2 : decode Y.2.1 (pc + 1) = .ok (.iload_n 3, 1)) (d3 : decode Y.2.1 (pc + 1 + 1) = .ok (.iconst (j : Int), 1)) (d4 : decode Y.2.1 (pc + 1 + 1 + 1) = .ok (.iadd, 1)) (d5 : decode Y.2.1 (pc + 1 + 1 + 1 + 1) = .ok (.iaload, 1)) (h0 : lv[0]? = some (some (vR 0 2))) (h3 : lv[3]? = some (some (vI (i : Int)))) (hj : j < 6) (hL : i + 6 ≤ G.2.2.2.1.2.1) (hL2 : G.2.2.2.1.2.1 ≤ 3072) (k : m_W G X Y S μ (pc + 5) lv (vI (l_av G i j) :: st)) : m_W G X Y S μ pc lv st := by
  refine m_aload_n C d1 h0 ?_
  refine m_iload_n C d2 h3 ?_
  refine m_iconst C d3 (by unfold in32; omega) ?_
  refine m_iadd C d4 ?_
  rw [show w32 ((i : Int) + (j : Int)) = ((i + j : Nat) : Int) by rw [w32_le (by omega) (by omega)]; omega]
  refine m_ldS C d5 (by omega) (by omega) ?_
  rw [Int.toNat_natCast]
  exact k
theorem l_0 (C : m_Cx G X (YL nm) 101 mc ms) (hZ : m_Zk G) (hkc : kc ≤ mc) (hks : ks ≤ ms) (hL : i + 6 ≤ G.2.2.2.1.2.1) (hL2 : G.2.2.2.1.2.1 ≤ 3072) (hR : RR μ) (k : ∀ μ1, RR μ1 → m_W G X (YL nm) (260, true, kc, ks) μ1 1126 (LVl i) []) : m_W G X (YL nm) (260, true, kc, ks) μ 184 (LVl i) [] := by
  refine m_aload_n C dL_law_184 rfl ?_
  refine l_arg (j := 1) C dL_law_185 dL_law_186 dL_law_187 dL_law_188 dL_law_189 rfl rfl (by omega) (by omega) (by omega) ?_
  refine l_arg (j := 2) C dL_law_190 dL_law_191 dL_law_192 dL_law_193 dL_law_194 rfl rfl (by omega) (by omega) (by omega) ?_
  refine l_arg (j := 3) C dL_law_195 dL_law_196 dL_law_197 dL_law_198 dL_law_199 rfl rfl (by omega) (by omega) (by omega) ?_
  refine l_arg (j := 4) C dL_law_200 dL_law_201 dL_law_202 dL_law_203 dL_law_204 rfl rfl (by omega) (by omega) (by omega) ?_
  refine l_arg (j := 5) C dL_law_205 dL_law_206 dL_law_207 dL_law_208 dL_law_209 rfl rfl (by omega) (by omega) (by omega) ?_
  have sm := (S_feed : SIM G YX11_feed YX12_feed [vI (l_av G i 1), vI (l_av G i 2), vI (l_av G i 3), vI (l_av G i 4), vI (l_av G i 5)]) 0 μ hR
  refine m_callVi (As := [vI (l_av G i 1), vI (l_av G i 2), vI (l_av G i 3), vI (l_av G i 4), vI (l_av G i 5)]) (o := 1) (st := []) (mc1 := 0) (ms1 := 0) C dL_law_210 ml_KilnBenchLaw_13 rfl rfl x_E1 rfl rfl (by decide) hkc hks (sm hZ) (fun r S1 μ1 hk => ?_)
  obtain ⟨rfl, h2⟩ := hk
  refine m_aload_n C dL_law_213 rfl ?_
  refine l_arg (j := 1) C dL_law_214 dL_law_215 dL_law_216 dL_law_217 dL_law_218 rfl rfl (by omega) (by omega) (by omega) ?_
  refine l_arg (j := 2) C dL_law_219 dL_law_220 dL_law_221 dL_law_222 dL_law_223 rfl rfl (by omega) (by omega) (by omega) ?_
  refine l_arg (j := 3) C dL_law_224 dL_law_225 dL_law_226 dL_law_227 dL_law_228 rfl rfl (by omega) (by omega) (by omega) ?_
  refine l_arg (j := 4) C dL_law_229 dL_law_230 dL_law_231 dL_law_232 dL_law_233 rfl rfl (by omega) (by omega) (by omega) ?_
  refine l_arg (j := 5) C dL_law_234 dL_law_235 dL_law_236 dL_law_237 dL_law_238 rfl rfl (by omega) (by omega) (by omega) ?_
  refine m_callVi (As := [vI (l_av G i 1), vI (l_av G i 2), vI (l_av G i 3), vI (l_av G i 4), vI (l_av G i 5)]) (o := 34) (st := [vI r]) (mc1 := 0) (ms1 := 0) C dL_law_239 ml_KilnBenchLaw_17 rfl rfl x_E34 rfl rfl (Nat.le_of_ble_eq_true rfl) hkc hks (h2 hZ) (fun r2 S2 μ2 hk => ?_)
  obtain ⟨rfl, rfl, hR2⟩ := hk
  exact m_icmp_eq C dL_law_242 (tgt := 1126) rfl (fun _ => k μ2 hR2) (fun q => absurd rfl q)
theorem l_1 (C : m_Cx G X (YL nm) 101 mc ms) (hZ : m_Zk G) (hkc : kc ≤ mc) (hks : ks ≤ ms) (hL : i + 6 ≤ G.2.2.2.1.2.1) (hL2 : G.2.2.2.1.2.1 ≤ 3072) (hR : RR μ) (k : ∀ μ1, RR μ1 → m_W G X (YL nm) (260, true, kc, ks) μ1 1126 (LVl i) []) : m_W G X (YL nm) (260, true, kc, ks) μ 247 (LVl i) [] := by
  refine m_aload_n C dL_law_247 rfl ?_
  refine l_arg (j := 1) C dL_law_248 dL_law_249 dL_law_250 dL_law_251 dL_law_252 rfl rfl (by omega) (by omega) (by omega) ?_
  have sm := (S_end : SIM G YX11_end YX12_end [vI (l_av G i 1)]) 0 μ hR
  refine m_callVi (As := [vI (l_av G i 1)]) (o := 1) (st := []) (mc1 := 0) (ms1 := 0) C dL_law_253 ml_KilnBenchLaw_18 rfl rfl x_E1 rfl rfl (by decide) hkc hks (sm hZ) (fun r S1 μ1 hk => ?_)
  obtain ⟨rfl, h2⟩ := hk
  refine m_aload_n C dL_law_256 rfl ?_
  refine l_arg (j := 1) C dL_law_257 dL_law_258 dL_law_259 dL_law_260 dL_law_261 rfl rfl (by omega) (by omega) (by omega) ?_
  refine m_callVi (As := [vI (l_av G i 1)]) (o := 34) (st := [vI r]) (mc1 := 0) (ms1 := 0) C dL_law_262 ml_KilnBenchLaw_22 rfl rfl x_E34 rfl rfl (Nat.le_of_ble_eq_true rfl) hkc hks (h2 hZ) (fun r2 S2 μ2 hk => ?_)
  obtain ⟨rfl, rfl, hR2⟩ := hk
  exact m_icmp_eq C dL_law_265 (tgt := 1126) rfl (fun _ => k μ2 hR2) (fun q => absurd rfl q)
theorem l_2 (C : m_Cx G X (YL nm) 101 mc ms) (hZ : m_Zk G) (hkc : kc ≤ mc) (hks : ks ≤ ms) (hL : i + 6 ≤ G.2.2.2.1.2.1) (hL2 : G.2.2.2.1.2.1 ≤ 3072) (hR : RR μ) (k : ∀ μ1, RR μ1 → m_W G X (YL nm) (260, true, kc, ks) μ1 1126 (LVl i) []) : m_W G X (YL nm) (260, true, kc, ks) μ 270 (LVl i) [] := by
  refine m_aload_n C dL_law_270 rfl ?_
  have sm := (S_town : SIM G YX11_town YX12_town []) 0 μ hR
  refine m_callVi (As := []) (o := 1) (st := []) (mc1 := 0) (ms1 := 0) C dL_law_271 ml_KilnBenchLaw_23 rfl rfl x_E1 rfl rfl (by decide) hkc hks (sm hZ) (fun r S1 μ1 hk => ?_)
  obtain ⟨rfl, h2⟩ := hk
  refine m_aload_n C dL_law_274 rfl ?_
  refine m_callVi (As := []) (o := 34) (st := [vI r]) (mc1 := 0) (ms1 := 0) C dL_law_275 ml_KilnBenchLaw_27 rfl rfl x_E34 rfl rfl (Nat.le_of_ble_eq_true rfl) hkc hks (h2 hZ) (fun r2 S2 μ2 hk => ?_)
  obtain ⟨rfl, rfl, hR2⟩ := hk
  exact m_icmp_eq C dL_law_278 (tgt := 1126) rfl (fun _ => k μ2 hR2) (fun q => absurd rfl q)
theorem l_3 (C : m_Cx G X (YL nm) 101 mc ms) (hZ : m_Zk G) (hkc : kc ≤ mc) (hks : ks ≤ ms) (hL : i + 6 ≤ G.2.2.2.1.2.1) (hL2 : G.2.2.2.1.2.1 ≤ 3072) (hR : RR μ) (k : ∀ μ1, RR μ1 → m_W G X (YL nm) (260, true, kc, ks) μ1 1126 (LVl i) []) : m_W G X (YL nm) (260, true, kc, ks) μ 283 (LVl i) [] := by
  refine m_aload_n C dL_law_283 rfl ?_
  refine l_arg (j := 1) C dL_law_284 dL_law_285 dL_law_286 dL_law_287 dL_law_288 rfl rfl (by omega) (by omega) (by omega) ?_
  have sm := (S_fault : SIM G YX11_fault YX12_fault [vI (l_av G i 1)]) 0 μ hR
  refine m_callVi (As := [vI (l_av G i 1)]) (o := 1) (st := []) (mc1 := 0) (ms1 := 0) C dL_law_289 ml_KilnBenchLaw_28 rfl rfl x_E1 rfl rfl (by decide) hkc hks (sm hZ) (fun r S1 μ1 hk => ?_)
  obtain ⟨rfl, h2⟩ := hk
  refine m_aload_n C dL_law_292 rfl ?_
  refine l_arg (j := 1) C dL_law_293 dL_law_294 dL_law_295 dL_law_296 dL_law_297 rfl rfl (by omega) (by omega) (by omega) ?_
  refine m_callVi (As := [vI (l_av G i 1)]) (o := 34) (st := [vI r]) (mc1 := 0) (ms1 := 0) C dL_law_298 ml_KilnBenchLaw_32 rfl rfl x_E34 rfl rfl (Nat.le_of_ble_eq_true rfl) hkc hks (h2 hZ) (fun r2 S2 μ2 hk => ?_)
  obtain ⟨rfl, rfl, hR2⟩ := hk
  exact m_icmp_eq C dL_law_301 (tgt := 1126) rfl (fun _ => k μ2 hR2) (fun q => absurd rfl q)
theorem l_4 (C : m_Cx G X (YL nm) 101 mc ms) (hZ : m_Zk G) (hkc : kc ≤ mc) (hks : ks ≤ ms) (hL : i + 6 ≤ G.2.2.2.1.2.1) (hL2 : G.2.2.2.1.2.1 ≤ 3072) (hR : RR μ) (k : ∀ μ1, RR μ1 → m_W G X (YL nm) (260, true, kc, ks) μ1 1126 (LVl i) []) : m_W G X (YL nm) (260, true, kc, ks) μ 306 (LVl i) [] := by
  refine m_aload_n C dL_law_306 rfl ?_
  refine l_arg (j := 1) C dL_law_307 dL_law_308 dL_law_309 dL_law_310 dL_law_311 rfl rfl (by omega) (by omega) (by omega) ?_
  have sm := (S_has : SIM G YX11_has YX12_has [vI (l_av G i 1)]) 0 μ hR
  refine m_callVi (As := [vI (l_av G i 1)]) (o := 1) (st := []) (mc1 := 0) (ms1 := 0) C dL_law_312 ml_KilnBenchLaw_33 rfl rfl x_E1 rfl rfl (by decide) hkc hks (sm hZ) (fun r S1 μ1 hk => ?_)
  obtain ⟨rfl, h2⟩ := hk
  refine m_aload_n C dL_law_315 rfl ?_
  refine l_arg (j := 1) C dL_law_316 dL_law_317 dL_law_318 dL_law_319 dL_law_320 rfl rfl (by omega) (by omega) (by omega) ?_
  refine m_callVi (As := [vI (l_av G i 1)]) (o := 34) (st := [vI r]) (mc1 := 0) (ms1 := 0) C dL_law_321 ml_KilnBenchLaw_36 rfl rfl x_E34 rfl rfl (Nat.le_of_ble_eq_true rfl) hkc hks (h2 hZ) (fun r2 S2 μ2 hk => ?_)
  obtain ⟨rfl, rfl, hR2⟩ := hk
  exact m_icmp_eq C dL_law_324 (tgt := 1126) rfl (fun _ => k μ2 hR2) (fun q => absurd rfl q)
theorem l_5 (C : m_Cx G X (YL nm) 101 mc ms) (hZ : m_Zk G) (hkc : kc ≤ mc) (hks : ks ≤ ms) (hL : i + 6 ≤ G.2.2.2.1.2.1) (hL2 : G.2.2.2.1.2.1 ≤ 3072) (hR : RR μ) (k : ∀ μ1, RR μ1 → m_W G X (YL nm) (260, true, kc, ks) μ1 1126 (LVl i) []) : m_W G X (YL nm) (260, true, kc, ks) μ 329 (LVl i) [] := by
  refine m_aload_n C dL_law_329 rfl ?_
  refine l_arg (j := 1) C dL_law_330 dL_law_331 dL_law_332 dL_law_333 dL_law_334 rfl rfl (by omega) (by omega) (by omega) ?_
  refine l_arg (j := 2) C dL_law_335 dL_law_336 dL_law_337 dL_law_338 dL_law_339 rfl rfl (by omega) (by omega) (by omega) ?_
  refine l_arg (j := 3) C dL_law_340 dL_law_341 dL_law_342 dL_law_343 dL_law_344 rfl rfl (by omega) (by omega) (by omega) ?_
  have sm := (S_letter : SIM G YX11_letter YX12_letter [vI (l_av G i 1), vI (l_av G i 2), vI (l_av G i 3)]) 0 μ hR
  refine m_callVi (As := [vI (l_av G i 1), vI (l_av G i 2), vI (l_av G i 3)]) (o := 1) (st := []) (mc1 := 0) (ms1 := 0) C dL_law_345 ml_KilnBenchLaw_37 rfl rfl x_E1 rfl rfl (by decide) hkc hks (sm hZ) (fun r S1 μ1 hk => ?_)
  obtain ⟨rfl, h2⟩ := hk
  refine m_aload_n C dL_law_348 rfl ?_
  refine l_arg (j := 1) C dL_law_349 dL_law_350 dL_law_351 dL_law_352 dL_law_353 rfl rfl (by omega) (by omega) (by omega) ?_
  refine l_arg (j := 2) C dL_law_354 dL_law_355 dL_law_356 dL_law_357 dL_law_358 rfl rfl (by omega) (by omega) (by omega) ?_
  refine l_arg (j := 3) C dL_law_359 dL_law_360 dL_law_361 dL_law_362 dL_law_363 rfl rfl (by omega) (by omega) (by omega) ?_
  refine m_callVi (As := [vI (l_av G i 1), vI (l_av G i 2), vI (l_av G i 3)]) (o := 34) (st := [vI r]) (mc1 := 0) (ms1 := 0) C dL_law_364 ml_KilnBenchLaw_41 rfl rfl x_E34 rfl rfl (Nat.le_of_ble_eq_true rfl) hkc hks (h2 hZ) (fun r2 S2 μ2 hk => ?_)
  obtain ⟨rfl, rfl, hR2⟩ := hk
  exact m_icmp_eq C dL_law_367 (tgt := 1126) rfl (fun _ => k μ2 hR2) (fun q => absurd rfl q)
theorem l_6 (C : m_Cx G X (YL nm) 101 mc ms) (hZ : m_Zk G) (hkc : kc ≤ mc) (hks : ks ≤ ms) (hL : i + 6 ≤ G.2.2.2.1.2.1) (hL2 : G.2.2.2.1.2.1 ≤ 3072) (hR : RR μ) (k : ∀ μ1, RR μ1 → m_W G X (YL nm) (260, true, kc, ks) μ1 1126 (LVl i) []) : m_W G X (YL nm) (260, true, kc, ks) μ 372 (LVl i) [] := by
  refine m_aload_n C dL_law_372 rfl ?_
  refine l_arg (j := 1) C dL_law_373 dL_law_374 dL_law_375 dL_law_376 dL_law_377 rfl rfl (by omega) (by omega) (by omega) ?_
  refine l_arg (j := 2) C dL_law_378 dL_law_379 dL_law_380 dL_law_381 dL_law_382 rfl rfl (by omega) (by omega) (by omega) ?_
  have sm := (S_child : SIM G YX11_child YX12_child [vI (l_av G i 1), vI (l_av G i 2)]) 0 μ hR
  refine m_callVi (As := [vI (l_av G i 1), vI (l_av G i 2)]) (o := 1) (st := []) (mc1 := 0) (ms1 := 0) C dL_law_383 ml_KilnBenchLaw_42 rfl rfl x_E1 rfl rfl (by decide) hkc hks (sm hZ) (fun r S1 μ1 hk => ?_)
  obtain ⟨rfl, h2⟩ := hk
  refine m_aload_n C dL_law_386 rfl ?_
  refine l_arg (j := 1) C dL_law_387 dL_law_388 dL_law_389 dL_law_390 dL_law_391 rfl rfl (by omega) (by omega) (by omega) ?_
  refine l_arg (j := 2) C dL_law_392 dL_law_393 dL_law_394 dL_law_395 dL_law_396 rfl rfl (by omega) (by omega) (by omega) ?_
  refine m_callVi (As := [vI (l_av G i 1), vI (l_av G i 2)]) (o := 34) (st := [vI r]) (mc1 := 0) (ms1 := 0) C dL_law_397 ml_KilnBenchLaw_46 rfl rfl x_E34 rfl rfl (Nat.le_of_ble_eq_true rfl) hkc hks (h2 hZ) (fun r2 S2 μ2 hk => ?_)
  obtain ⟨rfl, rfl, hR2⟩ := hk
  exact m_icmp_eq C dL_law_400 (tgt := 1126) rfl (fun _ => k μ2 hR2) (fun q => absurd rfl q)
theorem l_7 (C : m_Cx G X (YL nm) 101 mc ms) (hZ : m_Zk G) (hkc : kc ≤ mc) (hks : ks ≤ ms) (hL : i + 6 ≤ G.2.2.2.1.2.1) (hL2 : G.2.2.2.1.2.1 ≤ 3072) (hR : RR μ) (k : ∀ μ1, RR μ1 → m_W G X (YL nm) (260, true, kc, ks) μ1 1126 (LVl i) []) : m_W G X (YL nm) (260, true, kc, ks) μ 405 (LVl i) [] := by
  refine m_aload_n C dL_law_405 rfl ?_
  refine l_arg (j := 1) C dL_law_406 dL_law_407 dL_law_408 dL_law_409 dL_law_410 rfl rfl (by omega) (by omega) (by omega) ?_
  refine l_arg (j := 2) C dL_law_411 dL_law_412 dL_law_413 dL_law_414 dL_law_415 rfl rfl (by omega) (by omega) (by omega) ?_
  have sm := (S_kiln : SIM G YX11_kiln YX12_kiln [vI (l_av G i 1), vI (l_av G i 2)]) 0 μ hR
  refine m_callVi (As := [vI (l_av G i 1), vI (l_av G i 2)]) (o := 1) (st := []) (mc1 := 0) (ms1 := 0) C dL_law_416 ml_KilnBenchLaw_47 rfl rfl x_E1 rfl rfl (by decide) hkc hks (sm hZ) (fun r S1 μ1 hk => ?_)
  obtain ⟨rfl, h2⟩ := hk
  refine m_aload_n C dL_law_419 rfl ?_
  refine l_arg (j := 1) C dL_law_420 dL_law_421 dL_law_422 dL_law_423 dL_law_424 rfl rfl (by omega) (by omega) (by omega) ?_
  refine l_arg (j := 2) C dL_law_425 dL_law_426 dL_law_427 dL_law_428 dL_law_429 rfl rfl (by omega) (by omega) (by omega) ?_
  refine m_callVi (As := [vI (l_av G i 1), vI (l_av G i 2)]) (o := 34) (st := [vI r]) (mc1 := 0) (ms1 := 0) C dL_law_430 ml_KilnBenchLaw_50 rfl rfl x_E34 rfl rfl (Nat.le_of_ble_eq_true rfl) hkc hks (h2 hZ) (fun r2 S2 μ2 hk => ?_)
  obtain ⟨rfl, rfl, hR2⟩ := hk
  exact m_icmp_eq C dL_law_433 (tgt := 1126) rfl (fun _ => k μ2 hR2) (fun q => absurd rfl q)
theorem l_8 (C : m_Cx G X (YL nm) 101 mc ms) (hZ : m_Zk G) (hkc : kc ≤ mc) (hks : ks ≤ ms) (hL : i + 6 ≤ G.2.2.2.1.2.1) (hL2 : G.2.2.2.1.2.1 ≤ 3072) (hR : RR μ) (k : ∀ μ1, RR μ1 → m_W G X (YL nm) (260, true, kc, ks) μ1 1126 (LVl i) []) : m_W G X (YL nm) (260, true, kc, ks) μ 438 (LVl i) [] := by
  refine m_aload_n C dL_law_438 rfl ?_
  refine l_arg (j := 1) C dL_law_439 dL_law_440 dL_law_441 dL_law_442 dL_law_443 rfl rfl (by omega) (by omega) (by omega) ?_
  refine l_arg (j := 2) C dL_law_444 dL_law_445 dL_law_446 dL_law_447 dL_law_448 rfl rfl (by omega) (by omega) (by omega) ?_
  have sm := (S_place : SIM G YX11_place YX12_place [vI (l_av G i 1), vI (l_av G i 2)]) 0 μ hR
  refine m_callVi (As := [vI (l_av G i 1), vI (l_av G i 2)]) (o := 1) (st := []) (mc1 := 0) (ms1 := 0) C dL_law_449 ml_KilnBenchLaw_51 rfl rfl x_E1 rfl rfl (by decide) hkc hks (sm hZ) (fun r S1 μ1 hk => ?_)
  obtain ⟨rfl, h2⟩ := hk
  refine m_aload_n C dL_law_452 rfl ?_
  refine l_arg (j := 1) C dL_law_453 dL_law_454 dL_law_455 dL_law_456 dL_law_457 rfl rfl (by omega) (by omega) (by omega) ?_
  refine l_arg (j := 2) C dL_law_458 dL_law_459 dL_law_460 dL_law_461 dL_law_462 rfl rfl (by omega) (by omega) (by omega) ?_
  refine m_callVi (As := [vI (l_av G i 1), vI (l_av G i 2)]) (o := 34) (st := [vI r]) (mc1 := 0) (ms1 := 0) C dL_law_463 ml_KilnBenchLaw_54 rfl rfl x_E34 rfl rfl (Nat.le_of_ble_eq_true rfl) hkc hks (h2 hZ) (fun r2 S2 μ2 hk => ?_)
  obtain ⟨rfl, rfl, hR2⟩ := hk
  exact m_icmp_eq C dL_law_466 (tgt := 1126) rfl (fun _ => k μ2 hR2) (fun q => absurd rfl q)
theorem l_9 (C : m_Cx G X (YL nm) 101 mc ms) (hZ : m_Zk G) (hkc : kc ≤ mc) (hks : ks ≤ ms) (hL : i + 6 ≤ G.2.2.2.1.2.1) (hL2 : G.2.2.2.1.2.1 ≤ 3072) (hR : RR μ) (k : ∀ μ1, RR μ1 → m_W G X (YL nm) (260, true, kc, ks) μ1 1126 (LVl i) []) : m_W G X (YL nm) (260, true, kc, ks) μ 471 (LVl i) [] := by
  refine m_aload_n C dL_law_471 rfl ?_
  refine l_arg (j := 1) C dL_law_472 dL_law_473 dL_law_474 dL_law_475 dL_law_476 rfl rfl (by omega) (by omega) (by omega) ?_
  refine l_arg (j := 2) C dL_law_477 dL_law_478 dL_law_479 dL_law_480 dL_law_481 rfl rfl (by omega) (by omega) (by omega) ?_
  refine l_arg (j := 3) C dL_law_482 dL_law_483 dL_law_484 dL_law_485 dL_law_486 rfl rfl (by omega) (by omega) (by omega) ?_
  have sm := (S_rings : SIM G YX11_rings YX12_rings [vI (l_av G i 1), vI (l_av G i 2), vI (l_av G i 3)]) 0 μ hR
  refine m_callVi (As := [vI (l_av G i 1), vI (l_av G i 2), vI (l_av G i 3)]) (o := 1) (st := []) (mc1 := 0) (ms1 := 0) C dL_law_487 ml_KilnBenchLaw_55 rfl rfl x_E1 rfl rfl (by decide) hkc hks (sm hZ) (fun r S1 μ1 hk => ?_)
  obtain ⟨rfl, h2⟩ := hk
  refine m_aload_n C dL_law_490 rfl ?_
  refine l_arg (j := 1) C dL_law_491 dL_law_492 dL_law_493 dL_law_494 dL_law_495 rfl rfl (by omega) (by omega) (by omega) ?_
  refine l_arg (j := 2) C dL_law_496 dL_law_497 dL_law_498 dL_law_499 dL_law_500 rfl rfl (by omega) (by omega) (by omega) ?_
  refine l_arg (j := 3) C dL_law_501 dL_law_502 dL_law_503 dL_law_504 dL_law_505 rfl rfl (by omega) (by omega) (by omega) ?_
  refine m_callVi (As := [vI (l_av G i 1), vI (l_av G i 2), vI (l_av G i 3)]) (o := 34) (st := [vI r]) (mc1 := 0) (ms1 := 0) C dL_law_506 ml_KilnBenchLaw_58 rfl rfl x_E34 rfl rfl (Nat.le_of_ble_eq_true rfl) hkc hks (h2 hZ) (fun r2 S2 μ2 hk => ?_)
  obtain ⟨rfl, rfl, hR2⟩ := hk
  exact m_icmp_eq C dL_law_509 (tgt := 1126) rfl (fun _ => k μ2 hR2) (fun q => absurd rfl q)
theorem l_10 (C : m_Cx G X (YL nm) 101 mc ms) (hZ : m_Zk G) (hkc : kc ≤ mc) (hks : ks ≤ ms) (hL : i + 6 ≤ G.2.2.2.1.2.1) (hL2 : G.2.2.2.1.2.1 ≤ 3072) (hR : RR μ) (k : ∀ μ1, RR μ1 → m_W G X (YL nm) (260, true, kc, ks) μ1 1126 (LVl i) []) : m_W G X (YL nm) (260, true, kc, ks) μ 514 (LVl i) [] := by
  refine m_aload_n C dL_law_514 rfl ?_
  refine l_arg (j := 1) C dL_law_515 dL_law_516 dL_law_517 dL_law_518 dL_law_519 rfl rfl (by omega) (by omega) (by omega) ?_
  refine l_arg (j := 2) C dL_law_520 dL_law_521 dL_law_522 dL_law_523 dL_law_524 rfl rfl (by omega) (by omega) (by omega) ?_
  refine l_arg (j := 3) C dL_law_525 dL_law_526 dL_law_527 dL_law_528 dL_law_529 rfl rfl (by omega) (by omega) (by omega) ?_
  have sm := (S_cracks : SIM G YX11_cracks YX12_cracks [vI (l_av G i 1), vI (l_av G i 2), vI (l_av G i 3)]) 0 μ hR
  refine m_callVi (As := [vI (l_av G i 1), vI (l_av G i 2), vI (l_av G i 3)]) (o := 1) (st := []) (mc1 := 0) (ms1 := 0) C dL_law_530 ml_KilnBenchLaw_59 rfl rfl x_E1 rfl rfl (by decide) hkc hks (sm hZ) (fun r S1 μ1 hk => ?_)
  obtain ⟨rfl, h2⟩ := hk
  refine m_aload_n C dL_law_533 rfl ?_
  refine l_arg (j := 1) C dL_law_534 dL_law_535 dL_law_536 dL_law_537 dL_law_538 rfl rfl (by omega) (by omega) (by omega) ?_
  refine l_arg (j := 2) C dL_law_539 dL_law_540 dL_law_541 dL_law_542 dL_law_543 rfl rfl (by omega) (by omega) (by omega) ?_
  refine l_arg (j := 3) C dL_law_544 dL_law_545 dL_law_546 dL_law_547 dL_law_548 rfl rfl (by omega) (by omega) (by omega) ?_
  refine m_callVi (As := [vI (l_av G i 1), vI (l_av G i 2), vI (l_av G i 3)]) (o := 34) (st := [vI r]) (mc1 := 0) (ms1 := 0) C dL_law_549 ml_KilnBenchLaw_62 rfl rfl x_E34 rfl rfl (Nat.le_of_ble_eq_true rfl) hkc hks (h2 hZ) (fun r2 S2 μ2 hk => ?_)
  obtain ⟨rfl, rfl, hR2⟩ := hk
  exact m_icmp_eq C dL_law_552 (tgt := 1126) rfl (fun _ => k μ2 hR2) (fun q => absurd rfl q)
theorem l_11 (C : m_Cx G X (YL nm) 101 mc ms) (hZ : m_Zk G) (hkc : kc ≤ mc) (hks : ks ≤ ms) (hL : i + 6 ≤ G.2.2.2.1.2.1) (hL2 : G.2.2.2.1.2.1 ≤ 3072) (hR : RR μ) (k : ∀ μ1, RR μ1 → m_W G X (YL nm) (260, true, kc, ks) μ1 1126 (LVl i) []) : m_W G X (YL nm) (260, true, kc, ks) μ 557 (LVl i) [] := by
  refine m_aload_n C dL_law_557 rfl ?_
  refine l_arg (j := 1) C dL_law_558 dL_law_559 dL_law_560 dL_law_561 dL_law_562 rfl rfl (by omega) (by omega) (by omega) ?_
  refine l_arg (j := 2) C dL_law_563 dL_law_564 dL_law_565 dL_law_566 dL_law_567 rfl rfl (by omega) (by omega) (by omega) ?_
  refine l_arg (j := 3) C dL_law_568 dL_law_569 dL_law_570 dL_law_571 dL_law_572 rfl rfl (by omega) (by omega) (by omega) ?_
  refine l_arg (j := 4) C dL_law_573 dL_law_574 dL_law_575 dL_law_576 dL_law_577 rfl rfl (by omega) (by omega) (by omega) ?_
  have sm := (S_heats : SIM G YX11_heats YX12_heats [vI (l_av G i 1), vI (l_av G i 2), vI (l_av G i 3), vI (l_av G i 4)]) 0 μ hR
  refine m_callVi (As := [vI (l_av G i 1), vI (l_av G i 2), vI (l_av G i 3), vI (l_av G i 4)]) (o := 1) (st := []) (mc1 := 0) (ms1 := 0) C dL_law_578 ml_KilnBenchLaw_63 rfl rfl x_E1 rfl rfl (by decide) hkc hks (sm hZ) (fun r S1 μ1 hk => ?_)
  obtain ⟨rfl, h2⟩ := hk
  refine m_aload_n C dL_law_581 rfl ?_
  refine l_arg (j := 1) C dL_law_582 dL_law_583 dL_law_584 dL_law_585 dL_law_586 rfl rfl (by omega) (by omega) (by omega) ?_
  refine l_arg (j := 2) C dL_law_587 dL_law_588 dL_law_589 dL_law_590 dL_law_591 rfl rfl (by omega) (by omega) (by omega) ?_
  refine l_arg (j := 3) C dL_law_592 dL_law_593 dL_law_594 dL_law_595 dL_law_596 rfl rfl (by omega) (by omega) (by omega) ?_
  refine l_arg (j := 4) C dL_law_597 dL_law_598 dL_law_599 dL_law_600 dL_law_601 rfl rfl (by omega) (by omega) (by omega) ?_
  refine m_callVi (As := [vI (l_av G i 1), vI (l_av G i 2), vI (l_av G i 3), vI (l_av G i 4)]) (o := 34) (st := [vI r]) (mc1 := 0) (ms1 := 0) C dL_law_602 ml_KilnBenchLaw_67 rfl rfl x_E34 rfl rfl (Nat.le_of_ble_eq_true rfl) hkc hks (h2 hZ) (fun r2 S2 μ2 hk => ?_)
  obtain ⟨rfl, rfl, hR2⟩ := hk
  exact m_icmp_eq C dL_law_605 (tgt := 1126) rfl (fun _ => k μ2 hR2) (fun q => absurd rfl q)
theorem l_12 (C : m_Cx G X (YL nm) 101 mc ms) (hZ : m_Zk G) (hkc : kc ≤ mc) (hks : ks ≤ ms) (hL : i + 6 ≤ G.2.2.2.1.2.1) (hL2 : G.2.2.2.1.2.1 ≤ 3072) (hR : RR μ) (k : ∀ μ1, RR μ1 → m_W G X (YL nm) (260, true, kc, ks) μ1 1126 (LVl i) []) : m_W G X (YL nm) (260, true, kc, ks) μ 610 (LVl i) [] := by
  refine m_aload_n C dL_law_610 rfl ?_
  refine l_arg (j := 1) C dL_law_611 dL_law_612 dL_law_613 dL_law_614 dL_law_615 rfl rfl (by omega) (by omega) (by omega) ?_
  have sm := (S_safe : SIM G YX11_safe YX12_safe [vI (l_av G i 1)]) 0 μ hR
  refine m_callVi (As := [vI (l_av G i 1)]) (o := 1) (st := []) (mc1 := 0) (ms1 := 0) C dL_law_616 ml_KilnBenchLaw_68 rfl rfl x_E1 rfl rfl (by decide) hkc hks (sm hZ) (fun r S1 μ1 hk => ?_)
  obtain ⟨rfl, h2⟩ := hk
  refine m_aload_n C dL_law_619 rfl ?_
  refine l_arg (j := 1) C dL_law_620 dL_law_621 dL_law_622 dL_law_623 dL_law_624 rfl rfl (by omega) (by omega) (by omega) ?_
  refine m_callVi (As := [vI (l_av G i 1)]) (o := 34) (st := [vI r]) (mc1 := 0) (ms1 := 0) C dL_law_625 ml_KilnBenchLaw_71 rfl rfl x_E34 rfl rfl (Nat.le_of_ble_eq_true rfl) hkc hks (h2 hZ) (fun r2 S2 μ2 hk => ?_)
  obtain ⟨rfl, rfl, hR2⟩ := hk
  exact m_icmp_eq C dL_law_628 (tgt := 1126) rfl (fun _ => k μ2 hR2) (fun q => absurd rfl q)
theorem l_13 (C : m_Cx G X (YL nm) 101 mc ms) (hZ : m_Zk G) (hkc : kc ≤ mc) (hks : ks ≤ ms) (hL : i + 6 ≤ G.2.2.2.1.2.1) (hL2 : G.2.2.2.1.2.1 ≤ 3072) (hR : RR μ) (k : ∀ μ1, RR μ1 → m_W G X (YL nm) (260, true, kc, ks) μ1 1126 (LVl i) []) : m_W G X (YL nm) (260, true, kc, ks) μ 633 (LVl i) [] := by
  refine m_aload_n C dL_law_633 rfl ?_
  refine l_arg (j := 1) C dL_law_634 dL_law_635 dL_law_636 dL_law_637 dL_law_638 rfl rfl (by omega) (by omega) (by omega) ?_
  refine l_arg (j := 2) C dL_law_639 dL_law_640 dL_law_641 dL_law_642 dL_law_643 rfl rfl (by omega) (by omega) (by omega) ?_
  have sm := (S_best : SIM G YX11_best YX12_best [vI (l_av G i 1), vI (l_av G i 2)]) 0 μ hR
  refine m_callVi (As := [vI (l_av G i 1), vI (l_av G i 2)]) (o := 1) (st := []) (mc1 := 0) (ms1 := 0) C dL_law_644 ml_KilnBenchLaw_72 rfl rfl x_E1 rfl rfl (by decide) hkc hks (sm hZ) (fun r S1 μ1 hk => ?_)
  obtain ⟨rfl, h2⟩ := hk
  refine m_aload_n C dL_law_647 rfl ?_
  refine l_arg (j := 1) C dL_law_648 dL_law_649 dL_law_650 dL_law_651 dL_law_652 rfl rfl (by omega) (by omega) (by omega) ?_
  refine l_arg (j := 2) C dL_law_653 dL_law_654 dL_law_655 dL_law_656 dL_law_657 rfl rfl (by omega) (by omega) (by omega) ?_
  refine m_callVi (As := [vI (l_av G i 1), vI (l_av G i 2)]) (o := 34) (st := [vI r]) (mc1 := 0) (ms1 := 0) C dL_law_658 ml_KilnBenchLaw_75 rfl rfl x_E34 rfl rfl (Nat.le_of_ble_eq_true rfl) hkc hks (h2 hZ) (fun r2 S2 μ2 hk => ?_)
  obtain ⟨rfl, rfl, hR2⟩ := hk
  exact m_icmp_eq C dL_law_661 (tgt := 1126) rfl (fun _ => k μ2 hR2) (fun q => absurd rfl q)
theorem l_14 (C : m_Cx G X (YL nm) 101 mc ms) (hZ : m_Zk G) (hkc : kc ≤ mc) (hks : ks ≤ ms) (hL : i + 6 ≤ G.2.2.2.1.2.1) (hL2 : G.2.2.2.1.2.1 ≤ 3072) (hR : RR μ) (k : ∀ μ1, RR μ1 → m_W G X (YL nm) (260, true, kc, ks) μ1 1126 (LVl i) []) : m_W G X (YL nm) (260, true, kc, ks) μ 666 (LVl i) [] := by
  refine m_aload_n C dL_law_666 rfl ?_
  refine l_arg (j := 1) C dL_law_667 dL_law_668 dL_law_669 dL_law_670 dL_law_671 rfl rfl (by omega) (by omega) (by omega) ?_
  have sm := (S_brothers : SIM G YX11_brothers YX12_brothers [vI (l_av G i 1)]) 0 μ hR
  refine m_callVi (As := [vI (l_av G i 1)]) (o := 1) (st := []) (mc1 := 0) (ms1 := 0) C dL_law_672 ml_KilnBenchLaw_76 rfl rfl x_E1 rfl rfl (by decide) hkc hks (sm hZ) (fun r S1 μ1 hk => ?_)
  obtain ⟨rfl, h2⟩ := hk
  refine m_aload_n C dL_law_675 rfl ?_
  refine l_arg (j := 1) C dL_law_676 dL_law_677 dL_law_678 dL_law_679 dL_law_680 rfl rfl (by omega) (by omega) (by omega) ?_
  refine m_callVi (As := [vI (l_av G i 1)]) (o := 34) (st := [vI r]) (mc1 := 0) (ms1 := 0) C dL_law_681 ml_KilnBenchLaw_79 rfl rfl x_E34 rfl rfl (Nat.le_of_ble_eq_true rfl) hkc hks (h2 hZ) (fun r2 S2 μ2 hk => ?_)
  obtain ⟨rfl, rfl, hR2⟩ := hk
  exact m_icmp_eq C dL_law_684 (tgt := 1126) rfl (fun _ => k μ2 hR2) (fun q => absurd rfl q)
theorem l_15 (C : m_Cx G X (YL nm) 101 mc ms) (hZ : m_Zk G) (hkc : kc ≤ mc) (hks : ks ≤ ms) (hL : i + 6 ≤ G.2.2.2.1.2.1) (hL2 : G.2.2.2.1.2.1 ≤ 3072) (hR : RR μ) (k : ∀ μ1, RR μ1 → m_W G X (YL nm) (260, true, kc, ks) μ1 1126 (LVl i) []) : m_W G X (YL nm) (260, true, kc, ks) μ 689 (LVl i) [] := by
  refine m_aload_n C dL_law_689 rfl ?_
  refine l_arg (j := 1) C dL_law_690 dL_law_691 dL_law_692 dL_law_693 dL_law_694 rfl rfl (by omega) (by omega) (by omega) ?_
  have sm := (S_fired : SIM G YX11_fired YX12_fired [vI (l_av G i 1)]) 0 μ hR
  refine m_callVi (As := [vI (l_av G i 1)]) (o := 1) (st := []) (mc1 := 0) (ms1 := 0) C dL_law_695 ml_KilnBenchLaw_80 rfl rfl x_E1 rfl rfl (by decide) hkc hks (sm hZ) (fun r S1 μ1 hk => ?_)
  obtain ⟨rfl, h2⟩ := hk
  refine m_aload_n C dL_law_698 rfl ?_
  refine l_arg (j := 1) C dL_law_699 dL_law_700 dL_law_701 dL_law_702 dL_law_703 rfl rfl (by omega) (by omega) (by omega) ?_
  refine m_callVi (As := [vI (l_av G i 1)]) (o := 34) (st := [vI r]) (mc1 := 0) (ms1 := 0) C dL_law_704 ml_KilnBenchLaw_83 rfl rfl x_E34 rfl rfl (Nat.le_of_ble_eq_true rfl) hkc hks (h2 hZ) (fun r2 S2 μ2 hk => ?_)
  obtain ⟨rfl, rfl, hR2⟩ := hk
  exact m_icmp_eq C dL_law_707 (tgt := 1126) rfl (fun _ => k μ2 hR2) (fun q => absurd rfl q)
theorem l_16 (C : m_Cx G X (YL nm) 101 mc ms) (hZ : m_Zk G) (hkc : kc ≤ mc) (hks : ks ≤ ms) (hL : i + 6 ≤ G.2.2.2.1.2.1) (hL2 : G.2.2.2.1.2.1 ≤ 3072) (hR : RR μ) (k : ∀ μ1, RR μ1 → m_W G X (YL nm) (260, true, kc, ks) μ1 1126 (LVl i) []) : m_W G X (YL nm) (260, true, kc, ks) μ 712 (LVl i) [] := by
  refine m_aload_n C dL_law_712 rfl ?_
  refine l_arg (j := 1) C dL_law_713 dL_law_714 dL_law_715 dL_law_716 dL_law_717 rfl rfl (by omega) (by omega) (by omega) ?_
  have sm := (S_fuel : SIM G YX11_fuel YX12_fuel [vI (l_av G i 1)]) 0 μ hR
  refine m_callVi (As := [vI (l_av G i 1)]) (o := 1) (st := []) (mc1 := 0) (ms1 := 0) C dL_law_718 ml_KilnBenchLaw_84 rfl rfl x_E1 rfl rfl (by decide) hkc hks (sm hZ) (fun r S1 μ1 hk => ?_)
  obtain ⟨rfl, h2⟩ := hk
  refine m_aload_n C dL_law_721 rfl ?_
  refine l_arg (j := 1) C dL_law_722 dL_law_723 dL_law_724 dL_law_725 dL_law_726 rfl rfl (by omega) (by omega) (by omega) ?_
  refine m_callVi (As := [vI (l_av G i 1)]) (o := 34) (st := [vI r]) (mc1 := 0) (ms1 := 0) C dL_law_727 ml_KilnBenchLaw_87 rfl rfl x_E34 rfl rfl (Nat.le_of_ble_eq_true rfl) hkc hks (h2 hZ) (fun r2 S2 μ2 hk => ?_)
  obtain ⟨rfl, rfl, hR2⟩ := hk
  exact m_icmp_eq C dL_law_730 (tgt := 1126) rfl (fun _ => k μ2 hR2) (fun q => absurd rfl q)
theorem l_17 (C : m_Cx G X (YL nm) 101 mc ms) (hZ : m_Zk G) (hkc : kc ≤ mc) (hks : ks ≤ ms) (hL : i + 6 ≤ G.2.2.2.1.2.1) (hL2 : G.2.2.2.1.2.1 ≤ 3072) (hR : RR μ) (k : ∀ μ1, RR μ1 → m_W G X (YL nm) (260, true, kc, ks) μ1 1126 (LVl i) []) : m_W G X (YL nm) (260, true, kc, ks) μ 735 (LVl i) [] := by
  refine m_aload_n C dL_law_735 rfl ?_
  refine l_arg (j := 1) C dL_law_736 dL_law_737 dL_law_738 dL_law_739 dL_law_740 rfl rfl (by omega) (by omega) (by omega) ?_
  refine l_arg (j := 2) C dL_law_741 dL_law_742 dL_law_743 dL_law_744 dL_law_745 rfl rfl (by omega) (by omega) (by omega) ?_
  have sm := (S_later : SIM G YX11_later YX12_later [vI (l_av G i 1), vI (l_av G i 2)]) 0 μ hR
  refine m_callVi (As := [vI (l_av G i 1), vI (l_av G i 2)]) (o := 1) (st := []) (mc1 := 0) (ms1 := 0) C dL_law_746 ml_KilnBenchLaw_88 rfl rfl x_E1 rfl rfl (by decide) hkc hks (sm hZ) (fun r S1 μ1 hk => ?_)
  obtain ⟨rfl, h2⟩ := hk
  refine m_aload_n C dL_law_749 rfl ?_
  refine l_arg (j := 1) C dL_law_750 dL_law_751 dL_law_752 dL_law_753 dL_law_754 rfl rfl (by omega) (by omega) (by omega) ?_
  refine l_arg (j := 2) C dL_law_755 dL_law_756 dL_law_757 dL_law_758 dL_law_759 rfl rfl (by omega) (by omega) (by omega) ?_
  refine m_callVi (As := [vI (l_av G i 1), vI (l_av G i 2)]) (o := 34) (st := [vI r]) (mc1 := 0) (ms1 := 0) C dL_law_760 ml_KilnBenchLaw_91 rfl rfl x_E34 rfl rfl (Nat.le_of_ble_eq_true rfl) hkc hks (h2 hZ) (fun r2 S2 μ2 hk => ?_)
  obtain ⟨rfl, rfl, hR2⟩ := hk
  exact m_icmp_eq C dL_law_763 (tgt := 1126) rfl (fun _ => k μ2 hR2) (fun q => absurd rfl q)
theorem l_18 (C : m_Cx G X (YL nm) 101 mc ms) (hZ : m_Zk G) (hkc : kc ≤ mc) (hks : ks ≤ ms) (hL : i + 6 ≤ G.2.2.2.1.2.1) (hL2 : G.2.2.2.1.2.1 ≤ 3072) (hR : RR μ) (k : ∀ μ1, RR μ1 → m_W G X (YL nm) (260, true, kc, ks) μ1 1126 (LVl i) []) : m_W G X (YL nm) (260, true, kc, ks) μ 768 (LVl i) [] := by
  refine m_aload_n C dL_law_768 rfl ?_
  refine l_arg (j := 1) C dL_law_769 dL_law_770 dL_law_771 dL_law_772 dL_law_773 rfl rfl (by omega) (by omega) (by omega) ?_
  have sm := (S_odds : SIM G YX11_odds YX12_odds [vI (l_av G i 1)]) 0 μ hR
  refine m_callVi (As := [vI (l_av G i 1)]) (o := 1) (st := []) (mc1 := 0) (ms1 := 0) C dL_law_774 ml_KilnBenchLaw_92 rfl rfl x_E1 rfl rfl (by decide) hkc hks (sm hZ) (fun r S1 μ1 hk => ?_)
  obtain ⟨rfl, h2⟩ := hk
  refine m_aload_n C dL_law_777 rfl ?_
  refine l_arg (j := 1) C dL_law_778 dL_law_779 dL_law_780 dL_law_781 dL_law_782 rfl rfl (by omega) (by omega) (by omega) ?_
  refine m_callVi (As := [vI (l_av G i 1)]) (o := 34) (st := [vI r]) (mc1 := 0) (ms1 := 0) C dL_law_783 ml_KilnBenchLaw_95 rfl rfl x_E34 rfl rfl (Nat.le_of_ble_eq_true rfl) hkc hks (h2 hZ) (fun r2 S2 μ2 hk => ?_)
  obtain ⟨rfl, rfl, hR2⟩ := hk
  exact m_icmp_eq C dL_law_786 (tgt := 1126) rfl (fun _ => k μ2 hR2) (fun q => absurd rfl q)
theorem l_19 (C : m_Cx G X (YL nm) 101 mc ms) (hZ : m_Zk G) (hkc : kc ≤ mc) (hks : ks ≤ ms) (hL : i + 6 ≤ G.2.2.2.1.2.1) (hL2 : G.2.2.2.1.2.1 ≤ 3072) (hR : RR μ) (k : ∀ μ1, RR μ1 → m_W G X (YL nm) (260, true, kc, ks) μ1 1126 (LVl i) []) : m_W G X (YL nm) (260, true, kc, ks) μ 791 (LVl i) [] := by
  refine m_aload_n C dL_law_791 rfl ?_
  have sm := (S_see : SIM G YX11_see YX12_see []) 0 μ hR
  refine m_callVi (As := []) (o := 1) (st := []) (mc1 := 0) (ms1 := 0) C dL_law_792 ml_KilnBenchLaw_96 rfl rfl x_E1 rfl rfl (by decide) hkc hks (sm hZ) (fun r S1 μ1 hk => ?_)
  obtain ⟨rfl, h2⟩ := hk
  refine m_aload_n C dL_law_795 rfl ?_
  refine m_callVi (As := []) (o := 34) (st := [vI r]) (mc1 := 0) (ms1 := 0) C dL_law_796 ml_KilnBenchLaw_99 rfl rfl x_E34 rfl rfl (Nat.le_of_ble_eq_true rfl) hkc hks (h2 hZ) (fun r2 S2 μ2 hk => ?_)
  obtain ⟨rfl, rfl, hR2⟩ := hk
  exact m_icmp_eq C dL_law_799 (tgt := 1126) rfl (fun _ => k μ2 hR2) (fun q => absurd rfl q)
theorem l_20 (C : m_Cx G X (YL nm) 101 mc ms) (hZ : m_Zk G) (hkc : kc ≤ mc) (hks : ks ≤ ms) (hL : i + 6 ≤ G.2.2.2.1.2.1) (hL2 : G.2.2.2.1.2.1 ≤ 3072) (hR : RR μ) (k : ∀ μ1, RR μ1 → m_W G X (YL nm) (260, true, kc, ks) μ1 1126 (LVl i) []) : m_W G X (YL nm) (260, true, kc, ks) μ 804 (LVl i) [] := by
  refine m_aload_n C dL_law_804 rfl ?_
  have sm := (S_seen : SIM G YX11_seen YX12_seen []) 0 μ hR
  refine m_callVi (As := []) (o := 1) (st := []) (mc1 := 0) (ms1 := 0) C dL_law_805 ml_KilnBenchLaw_100 rfl rfl x_E1 rfl rfl (by decide) hkc hks (sm hZ) (fun r S1 μ1 hk => ?_)
  obtain ⟨rfl, h2⟩ := hk
  refine m_aload_n C dL_law_808 rfl ?_
  refine m_callVi (As := []) (o := 34) (st := [vI r]) (mc1 := 0) (ms1 := 0) C dL_law_809 ml_KilnBenchLaw_103 rfl rfl x_E34 rfl rfl (Nat.le_of_ble_eq_true rfl) hkc hks (h2 hZ) (fun r2 S2 μ2 hk => ?_)
  obtain ⟨rfl, rfl, hR2⟩ := hk
  exact m_icmp_eq C dL_law_812 (tgt := 1126) rfl (fun _ => k μ2 hR2) (fun q => absurd rfl q)
theorem l_21 (C : m_Cx G X (YL nm) 101 mc ms) (hZ : m_Zk G) (hkc : kc ≤ mc) (hks : ks ≤ ms) (hL : i + 6 ≤ G.2.2.2.1.2.1) (hL2 : G.2.2.2.1.2.1 ≤ 3072) (hR : RR μ) (k : ∀ μ1, RR μ1 → m_W G X (YL nm) (260, true, kc, ks) μ1 1126 (LVl i) []) : m_W G X (YL nm) (260, true, kc, ks) μ 817 (LVl i) [] := by
  refine m_aload_n C dL_law_817 rfl ?_
  refine l_arg (j := 1) C dL_law_818 dL_law_819 dL_law_820 dL_law_821 dL_law_822 rfl rfl (by omega) (by omega) (by omega) ?_
  have sm := (S_tells : SIM G YX11_tells YX12_tells [vI (l_av G i 1)]) 0 μ hR
  refine m_callVi (As := [vI (l_av G i 1)]) (o := 1) (st := []) (mc1 := 0) (ms1 := 0) C dL_law_823 ml_KilnBenchLaw_104 rfl rfl x_E1 rfl rfl (by decide) hkc hks (sm hZ) (fun r S1 μ1 hk => ?_)
  obtain ⟨rfl, h2⟩ := hk
  refine m_aload_n C dL_law_826 rfl ?_
  refine l_arg (j := 1) C dL_law_827 dL_law_828 dL_law_829 dL_law_830 dL_law_831 rfl rfl (by omega) (by omega) (by omega) ?_
  refine m_callVi (As := [vI (l_av G i 1)]) (o := 34) (st := [vI r]) (mc1 := 0) (ms1 := 0) C dL_law_832 ml_KilnBenchLaw_107 rfl rfl x_E34 rfl rfl (Nat.le_of_ble_eq_true rfl) hkc hks (h2 hZ) (fun r2 S2 μ2 hk => ?_)
  obtain ⟨rfl, rfl, hR2⟩ := hk
  exact m_icmp_eq C dL_law_835 (tgt := 1126) rfl (fun _ => k μ2 hR2) (fun q => absurd rfl q)
theorem l_22 (C : m_Cx G X (YL nm) 101 mc ms) (hZ : m_Zk G) (hkc : kc ≤ mc) (hks : ks ≤ ms) (hL : i + 6 ≤ G.2.2.2.1.2.1) (hL2 : G.2.2.2.1.2.1 ≤ 3072) (hR : RR μ) (k : ∀ μ1, RR μ1 → m_W G X (YL nm) (260, true, kc, ks) μ1 1126 (LVl i) []) : m_W G X (YL nm) (260, true, kc, ks) μ 840 (LVl i) [] := by
  refine m_aload_n C dL_law_840 rfl ?_
  refine l_arg (j := 1) C dL_law_841 dL_law_842 dL_law_843 dL_law_844 dL_law_845 rfl rfl (by omega) (by omega) (by omega) ?_
  have sm := (S_weeks : SIM G YX11_weeks YX12_weeks [vI (l_av G i 1)]) 0 μ hR
  refine m_callVi (As := [vI (l_av G i 1)]) (o := 1) (st := []) (mc1 := 0) (ms1 := 0) C dL_law_846 ml_KilnBenchLaw_108 rfl rfl x_E1 rfl rfl (by decide) hkc hks (sm hZ) (fun r S1 μ1 hk => ?_)
  obtain ⟨rfl, h2⟩ := hk
  refine m_aload_n C dL_law_849 rfl ?_
  refine l_arg (j := 1) C dL_law_850 dL_law_851 dL_law_852 dL_law_853 dL_law_854 rfl rfl (by omega) (by omega) (by omega) ?_
  refine m_callVi (As := [vI (l_av G i 1)]) (o := 34) (st := [vI r]) (mc1 := 0) (ms1 := 0) C dL_law_855 ml_KilnBenchLaw_111 rfl rfl x_E34 rfl rfl (Nat.le_of_ble_eq_true rfl) hkc hks (h2 hZ) (fun r2 S2 μ2 hk => ?_)
  obtain ⟨rfl, rfl, hR2⟩ := hk
  exact m_icmp_eq C dL_law_858 (tgt := 1126) rfl (fun _ => k μ2 hR2) (fun q => absurd rfl q)
theorem l_23 (C : m_Cx G X (YL nm) 101 mc ms) (hZ : m_Zk G) (hkc : kc ≤ mc) (hks : ks ≤ ms) (hL : i + 6 ≤ G.2.2.2.1.2.1) (hL2 : G.2.2.2.1.2.1 ≤ 3072) (hR : RR μ) (k : ∀ μ1, RR μ1 → m_W G X (YL nm) (260, true, kc, ks) μ1 1126 (LVl i) []) : m_W G X (YL nm) (260, true, kc, ks) μ 863 (LVl i) [] := by
  refine m_aload_n C dL_law_863 rfl ?_
  refine l_arg (j := 1) C dL_law_864 dL_law_865 dL_law_866 dL_law_867 dL_law_868 rfl rfl (by omega) (by omega) (by omega) ?_
  have sm := (S_chance : SIM G YX11_chance YX12_chance [vI (l_av G i 1)]) 0 μ hR
  refine m_callVi (As := [vI (l_av G i 1)]) (o := 1) (st := []) (mc1 := 0) (ms1 := 0) C dL_law_869 ml_KilnBenchLaw_112 rfl rfl x_E1 rfl rfl (by decide) hkc hks (sm hZ) (fun r S1 μ1 hk => ?_)
  obtain ⟨rfl, h2⟩ := hk
  refine m_aload_n C dL_law_872 rfl ?_
  refine l_arg (j := 1) C dL_law_873 dL_law_874 dL_law_875 dL_law_876 dL_law_877 rfl rfl (by omega) (by omega) (by omega) ?_
  refine m_callVi (As := [vI (l_av G i 1)]) (o := 34) (st := [vI r]) (mc1 := 0) (ms1 := 0) C dL_law_878 ml_KilnBenchLaw_115 rfl rfl x_E34 rfl rfl (Nat.le_of_ble_eq_true rfl) hkc hks (h2 hZ) (fun r2 S2 μ2 hk => ?_)
  obtain ⟨rfl, rfl, hR2⟩ := hk
  exact m_icmp_eq C dL_law_881 (tgt := 1126) rfl (fun _ => k μ2 hR2) (fun q => absurd rfl q)
theorem l_24 (C : m_Cx G X (YL nm) 101 mc ms) (hZ : m_Zk G) (hkc : kc ≤ mc) (hks : ks ≤ ms) (hL : i + 6 ≤ G.2.2.2.1.2.1) (hL2 : G.2.2.2.1.2.1 ≤ 3072) (hR : RR μ) (k : ∀ μ1, RR μ1 → m_W G X (YL nm) (260, true, kc, ks) μ1 1126 (LVl i) []) : m_W G X (YL nm) (260, true, kc, ks) μ 886 (LVl i) [] := by
  refine m_aload_n C dL_law_886 rfl ?_
  refine l_arg (j := 1) C dL_law_887 dL_law_888 dL_law_889 dL_law_890 dL_law_891 rfl rfl (by omega) (by omega) (by omega) ?_
  refine l_arg (j := 2) C dL_law_892 dL_law_893 dL_law_894 dL_law_895 dL_law_896 rfl rfl (by omega) (by omega) (by omega) ?_
  refine l_arg (j := 3) C dL_law_897 dL_law_898 dL_law_899 dL_law_900 dL_law_901 rfl rfl (by omega) (by omega) (by omega) ?_
  have sm := (S_set : SIM G YX11_set YX12_set [vI (l_av G i 1), vI (l_av G i 2), vI (l_av G i 3)]) 0 μ hR
  refine m_callVi (As := [vI (l_av G i 1), vI (l_av G i 2), vI (l_av G i 3)]) (o := 1) (st := []) (mc1 := 0) (ms1 := 0) C dL_law_902 ml_KilnBenchLaw_116 rfl rfl x_E1 rfl rfl (by decide) hkc hks (sm hZ) (fun r S1 μ1 hk => ?_)
  obtain ⟨rfl, h2⟩ := hk
  refine m_aload_n C dL_law_905 rfl ?_
  refine l_arg (j := 1) C dL_law_906 dL_law_907 dL_law_908 dL_law_909 dL_law_910 rfl rfl (by omega) (by omega) (by omega) ?_
  refine l_arg (j := 2) C dL_law_911 dL_law_912 dL_law_913 dL_law_914 dL_law_915 rfl rfl (by omega) (by omega) (by omega) ?_
  refine l_arg (j := 3) C dL_law_916 dL_law_917 dL_law_918 dL_law_919 dL_law_920 rfl rfl (by omega) (by omega) (by omega) ?_
  refine m_callVi (As := [vI (l_av G i 1), vI (l_av G i 2), vI (l_av G i 3)]) (o := 34) (st := [vI r]) (mc1 := 0) (ms1 := 0) C dL_law_921 ml_KilnBenchLaw_120 rfl rfl x_E34 rfl rfl (Nat.le_of_ble_eq_true rfl) hkc hks (h2 hZ) (fun r2 S2 μ2 hk => ?_)
  obtain ⟨rfl, rfl, hR2⟩ := hk
  exact m_icmp_eq C dL_law_924 (tgt := 1126) rfl (fun _ => k μ2 hR2) (fun q => absurd rfl q)
theorem l_25 (C : m_Cx G X (YL nm) 101 mc ms) (hZ : m_Zk G) (hkc : kc ≤ mc) (hks : ks ≤ ms) (hL : i + 6 ≤ G.2.2.2.1.2.1) (hL2 : G.2.2.2.1.2.1 ≤ 3072) (hR : RR μ) (k : ∀ μ1, RR μ1 → m_W G X (YL nm) (260, true, kc, ks) μ1 1126 (LVl i) []) : m_W G X (YL nm) (260, true, kc, ks) μ 929 (LVl i) [] := by
  refine m_aload_n C dL_law_929 rfl ?_
  refine l_arg (j := 1) C dL_law_930 dL_law_931 dL_law_932 dL_law_933 dL_law_934 rfl rfl (by omega) (by omega) (by omega) ?_
  have sm := (S_take : SIM G YX11_take YX12_take [vI (l_av G i 1)]) 0 μ hR
  refine m_callVi (As := [vI (l_av G i 1)]) (o := 1) (st := []) (mc1 := 0) (ms1 := 0) C dL_law_935 ml_KilnBenchLaw_121 rfl rfl x_E1 rfl rfl (by decide) hkc hks (sm hZ) (fun r S1 μ1 hk => ?_)
  obtain ⟨rfl, h2⟩ := hk
  refine m_aload_n C dL_law_938 rfl ?_
  refine l_arg (j := 1) C dL_law_939 dL_law_940 dL_law_941 dL_law_942 dL_law_943 rfl rfl (by omega) (by omega) (by omega) ?_
  refine m_callVi (As := [vI (l_av G i 1)]) (o := 34) (st := [vI r]) (mc1 := 0) (ms1 := 0) C dL_law_944 ml_KilnBenchLaw_124 rfl rfl x_E34 rfl rfl (Nat.le_of_ble_eq_true rfl) hkc hks (h2 hZ) (fun r2 S2 μ2 hk => ?_)
  obtain ⟨rfl, rfl, hR2⟩ := hk
  exact m_icmp_eq C dL_law_947 (tgt := 1126) rfl (fun _ => k μ2 hR2) (fun q => absurd rfl q)
theorem l_26 (C : m_Cx G X (YL nm) 101 mc ms) (hZ : m_Zk G) (hkc : kc ≤ mc) (hks : ks ≤ ms) (hL : i + 6 ≤ G.2.2.2.1.2.1) (hL2 : G.2.2.2.1.2.1 ≤ 3072) (hR : RR μ) (k : ∀ μ1, RR μ1 → m_W G X (YL nm) (260, true, kc, ks) μ1 1126 (LVl i) []) : m_W G X (YL nm) (260, true, kc, ks) μ 952 (LVl i) [] := by
  refine m_aload_n C dL_law_952 rfl ?_
  refine l_arg (j := 1) C dL_law_953 dL_law_954 dL_law_955 dL_law_956 dL_law_957 rfl rfl (by omega) (by omega) (by omega) ?_
  refine l_arg (j := 2) C dL_law_958 dL_law_959 dL_law_960 dL_law_961 dL_law_962 rfl rfl (by omega) (by omega) (by omega) ?_
  have sm := (S_light : SIM G YX11_light YX12_light [vI (l_av G i 1), vI (l_av G i 2)]) 0 μ hR
  refine m_callVi (As := [vI (l_av G i 1), vI (l_av G i 2)]) (o := 1) (st := []) (mc1 := 0) (ms1 := 0) C dL_law_963 ml_KilnBenchLaw_125 rfl rfl x_E1 rfl rfl (by decide) hkc hks (sm hZ) (fun r S1 μ1 hk => ?_)
  obtain ⟨rfl, h2⟩ := hk
  refine m_aload_n C dL_law_966 rfl ?_
  refine l_arg (j := 1) C dL_law_967 dL_law_968 dL_law_969 dL_law_970 dL_law_971 rfl rfl (by omega) (by omega) (by omega) ?_
  refine l_arg (j := 2) C dL_law_972 dL_law_973 dL_law_974 dL_law_975 dL_law_976 rfl rfl (by omega) (by omega) (by omega) ?_
  refine m_callVi (As := [vI (l_av G i 1), vI (l_av G i 2)]) (o := 34) (st := [vI r]) (mc1 := 0) (ms1 := 0) C dL_law_977 ml_KilnBenchLaw_129 rfl rfl x_E34 rfl rfl (Nat.le_of_ble_eq_true rfl) hkc hks (h2 hZ) (fun r2 S2 μ2 hk => ?_)
  obtain ⟨rfl, rfl, hR2⟩ := hk
  exact m_icmp_eq C dL_law_980 (tgt := 1126) rfl (fun _ => k μ2 hR2) (fun q => absurd rfl q)
theorem l_27 (C : m_Cx G X (YL nm) 101 mc ms) (hZ : m_Zk G) (hkc : kc ≤ mc) (hks : ks ≤ ms) (hL : i + 6 ≤ G.2.2.2.1.2.1) (hL2 : G.2.2.2.1.2.1 ≤ 3072) (hR : RR μ) (k : ∀ μ1, RR μ1 → m_W G X (YL nm) (260, true, kc, ks) μ1 1126 (LVl i) []) : m_W G X (YL nm) (260, true, kc, ks) μ 985 (LVl i) [] := by
  refine m_aload_n C dL_law_985 rfl ?_
  have sm := (S_undo : SIM G YX11_undo YX12_undo []) 0 μ hR
  refine m_callVi (As := []) (o := 1) (st := []) (mc1 := 0) (ms1 := 0) C dL_law_986 ml_KilnBenchLaw_130 rfl rfl x_E1 rfl rfl (by decide) hkc hks (sm hZ) (fun r S1 μ1 hk => ?_)
  obtain ⟨rfl, h2⟩ := hk
  refine m_aload_n C dL_law_989 rfl ?_
  refine m_callVi (As := []) (o := 34) (st := [vI r]) (mc1 := 0) (ms1 := 0) C dL_law_990 ml_KilnBenchLaw_134 rfl rfl x_E34 rfl rfl (Nat.le_of_ble_eq_true rfl) hkc hks (h2 hZ) (fun r2 S2 μ2 hk => ?_)
  obtain ⟨rfl, rfl, hR2⟩ := hk
  exact m_icmp_eq C dL_law_993 (tgt := 1126) rfl (fun _ => k μ2 hR2) (fun q => absurd rfl q)
theorem l_28 (C : m_Cx G X (YL nm) 101 mc ms) (hZ : m_Zk G) (hkc : kc ≤ mc) (hks : ks ≤ ms) (hL : i + 6 ≤ G.2.2.2.1.2.1) (hL2 : G.2.2.2.1.2.1 ≤ 3072) (hR : RR μ) (k : ∀ μ1, RR μ1 → m_W G X (YL nm) (260, true, kc, ks) μ1 1126 (LVl i) []) : m_W G X (YL nm) (260, true, kc, ks) μ 998 (LVl i) [] := by
  refine m_aload_n C dL_law_998 rfl ?_
  refine l_arg (j := 1) C dL_law_999 dL_law_1000 dL_law_1001 dL_law_1002 dL_law_1003 rfl rfl (by omega) (by omega) (by omega) ?_
  have sm := (S_seed (in32_t _) : SIM G YX11_seed YX12_seed [vI (l_av G i 1)]) 0 μ hR
  refine m_callVi (As := [vI (l_av G i 1)]) (o := 1) (st := []) (mc1 := 0) (ms1 := 0) C dL_law_1004 ml_KilnBenchLaw_135 rfl rfl x_E1 rfl rfl (by decide) hkc hks (sm hZ) (fun r S1 μ1 hk => ?_)
  obtain ⟨rfl, h2⟩ := hk
  refine m_aload_n C dL_law_1007 rfl ?_
  refine l_arg (j := 1) C dL_law_1008 dL_law_1009 dL_law_1010 dL_law_1011 dL_law_1012 rfl rfl (by omega) (by omega) (by omega) ?_
  refine m_callVi (As := [vI (l_av G i 1)]) (o := 34) (st := [vI r]) (mc1 := 0) (ms1 := 0) C dL_law_1013 ml_KilnBenchLaw_138 rfl rfl x_E34 rfl rfl (Nat.le_of_ble_eq_true rfl) hkc hks (h2 hZ) (fun r2 S2 μ2 hk => ?_)
  obtain ⟨rfl, rfl, hR2⟩ := hk
  exact m_icmp_eq C dL_law_1016 (tgt := 1126) rfl (fun _ => k μ2 hR2) (fun q => absurd rfl q)
theorem l_29 (C : m_Cx G X (YL nm) 101 mc ms) (hZ : m_Zk G) (hkc : kc ≤ mc) (hks : ks ≤ ms) (hL : i + 6 ≤ G.2.2.2.1.2.1) (hL2 : G.2.2.2.1.2.1 ≤ 3072) (hR : RR μ) (k : ∀ μ1, RR μ1 → m_W G X (YL nm) (260, true, kc, ks) μ1 1126 (LVl i) []) : m_W G X (YL nm) (260, true, kc, ks) μ 1021 (LVl i) [] := by
  refine m_aload_n C dL_law_1021 rfl ?_
  refine l_arg (j := 1) C dL_law_1022 dL_law_1023 dL_law_1024 dL_law_1025 dL_law_1026 rfl rfl (by omega) (by omega) (by omega) ?_
  refine l_arg (j := 2) C dL_law_1027 dL_law_1028 dL_law_1029 dL_law_1030 dL_law_1031 rfl rfl (by omega) (by omega) (by omega) ?_
  have sm := (S_kept : SIM G YX11_kept YX12_kept [vI (l_av G i 1), vI (l_av G i 2)]) 0 μ hR
  refine m_callVi (As := [vI (l_av G i 1), vI (l_av G i 2)]) (o := 1) (st := []) (mc1 := 0) (ms1 := 0) C dL_law_1032 ml_KilnBenchLaw_139 rfl rfl x_E1 rfl rfl (by decide) hkc hks (sm hZ) (fun r S1 μ1 hk => ?_)
  obtain ⟨rfl, h2⟩ := hk
  refine m_aload_n C dL_law_1035 rfl ?_
  refine l_arg (j := 1) C dL_law_1036 dL_law_1037 dL_law_1038 dL_law_1039 dL_law_1040 rfl rfl (by omega) (by omega) (by omega) ?_
  refine l_arg (j := 2) C dL_law_1041 dL_law_1042 dL_law_1043 dL_law_1044 dL_law_1045 rfl rfl (by omega) (by omega) (by omega) ?_
  refine m_callVi (As := [vI (l_av G i 1), vI (l_av G i 2)]) (o := 34) (st := [vI r]) (mc1 := 0) (ms1 := 0) C dL_law_1046 ml_KilnBenchLaw_142 rfl rfl x_E34 rfl rfl (Nat.le_of_ble_eq_true rfl) hkc hks (h2 hZ) (fun r2 S2 μ2 hk => ?_)
  obtain ⟨rfl, rfl, hR2⟩ := hk
  exact m_icmp_eq C dL_law_1049 (tgt := 1126) rfl (fun _ => k μ2 hR2) (fun q => absurd rfl q)
theorem l_30 (C : m_Cx G X (YL nm) 101 mc ms) (hZ : m_Zk G) (hkc : kc ≤ mc) (hks : ks ≤ ms) (hL : i + 6 ≤ G.2.2.2.1.2.1) (hL2 : G.2.2.2.1.2.1 ≤ 3072) (hR : RR μ) (k : ∀ μ1, RR μ1 → m_W G X (YL nm) (260, true, kc, ks) μ1 1126 (LVl i) []) : m_W G X (YL nm) (260, true, kc, ks) μ 1054 (LVl i) [] := by
  refine m_aload_n C dL_law_1054 rfl ?_
  have sm := (S_image : SIM G YX11_image YX12_image []) 0 μ hR
  refine m_callVi (As := []) (o := 1) (st := []) (mc1 := 0) (ms1 := 0) C dL_law_1055 ml_KilnBenchLaw_143 rfl rfl x_E1 rfl rfl (by decide) hkc hks (sm hZ) (fun r S1 μ1 hk => ?_)
  obtain ⟨rfl, h2⟩ := hk
  refine m_aload_n C dL_law_1058 rfl ?_
  refine m_callVi (As := []) (o := 34) (st := [vI r]) (mc1 := 0) (ms1 := 0) C dL_law_1059 ml_KilnBenchLaw_146 rfl rfl x_E34 rfl rfl (Nat.le_of_ble_eq_true rfl) hkc hks (h2 hZ) (fun r2 S2 μ2 hk => ?_)
  obtain ⟨rfl, rfl, hR2⟩ := hk
  exact m_icmp_eq C dL_law_1062 (tgt := 1126) rfl (fun _ => k μ2 hR2) (fun q => absurd rfl q)
theorem l_31 (C : m_Cx G X (YL nm) 101 mc ms) (hZ : m_Zk G) (hkc : kc ≤ mc) (hks : ks ≤ ms) (hL : i + 6 ≤ G.2.2.2.1.2.1) (hL2 : G.2.2.2.1.2.1 ≤ 3072) (hR : RR μ) (k : ∀ μ1, RR μ1 → m_W G X (YL nm) (260, true, kc, ks) μ1 1126 (LVl i) []) : m_W G X (YL nm) (260, true, kc, ks) μ 1067 (LVl i) [] := by
  refine m_aload_n C dL_law_1067 rfl ?_
  refine l_arg (j := 1) C dL_law_1068 dL_law_1069 dL_law_1070 dL_law_1071 dL_law_1072 rfl rfl (by omega) (by omega) (by omega) ?_
  have sm := (S_octet : SIM G YX11_octet YX12_octet [vI (l_av G i 1)]) 0 μ hR
  refine m_callVi (As := [vI (l_av G i 1)]) (o := 1) (st := []) (mc1 := 0) (ms1 := 0) C dL_law_1073 ml_KilnBenchLaw_147 rfl rfl x_E1 rfl rfl (by decide) hkc hks (sm hZ) (fun r S1 μ1 hk => ?_)
  obtain ⟨rfl, h2⟩ := hk
  refine m_aload_n C dL_law_1076 rfl ?_
  refine l_arg (j := 1) C dL_law_1077 dL_law_1078 dL_law_1079 dL_law_1080 dL_law_1081 rfl rfl (by omega) (by omega) (by omega) ?_
  refine m_callVi (As := [vI (l_av G i 1)]) (o := 34) (st := [vI r]) (mc1 := 0) (ms1 := 0) C dL_law_1082 ml_KilnBenchLaw_150 rfl rfl x_E34 rfl rfl (Nat.le_of_ble_eq_true rfl) hkc hks (h2 hZ) (fun r2 S2 μ2 hk => ?_)
  obtain ⟨rfl, rfl, hR2⟩ := hk
  exact m_icmp_eq C dL_law_1085 (tgt := 1126) rfl (fun _ => k μ2 hR2) (fun q => absurd rfl q)
theorem l_32 (C : m_Cx G X (YL nm) 101 mc ms) (hZ : m_Zk G) (hkc : kc ≤ mc) (hks : ks ≤ ms) (hL : i + 6 ≤ G.2.2.2.1.2.1) (hL2 : G.2.2.2.1.2.1 ≤ 3072) (hR : RR μ) (k : ∀ μ1, RR μ1 → m_W G X (YL nm) (260, true, kc, ks) μ1 1126 (LVl i) []) : m_W G X (YL nm) (260, true, kc, ks) μ 1090 (LVl i) [] := by
  refine m_aload_n C dL_law_1090 rfl ?_
  have sm := (S_on : SIM G YX11_on YX12_on []) 0 μ hR
  refine m_callVi (As := []) (o := 1) (st := []) (mc1 := 0) (ms1 := 0) C dL_law_1091 ml_KilnBenchLaw_151 rfl rfl x_E1 rfl rfl (by decide) hkc hks (sm hZ) (fun r S1 μ1 hk => ?_)
  obtain ⟨rfl, h2⟩ := hk
  refine m_aload_n C dL_law_1094 rfl ?_
  refine m_callVi (As := []) (o := 34) (st := [vI r]) (mc1 := 0) (ms1 := 0) C dL_law_1095 ml_KilnBenchLaw_154 rfl rfl x_E34 rfl rfl (Nat.le_of_ble_eq_true rfl) hkc hks (h2 hZ) (fun r2 S2 μ2 hk => ?_)
  obtain ⟨rfl, rfl, hR2⟩ := hk
  exact m_icmp_eq C dL_law_1098 (tgt := 1126) rfl (fun _ => k μ2 hR2) (fun q => absurd rfl q)
theorem l_33 (C : m_Cx G X (YL nm) 101 mc ms) (hZ : m_Zk G) (hkc : kc ≤ mc) (hks : ks ≤ ms) (hL : i + 6 ≤ G.2.2.2.1.2.1) (hL2 : G.2.2.2.1.2.1 ≤ 3072) (hR : RR μ) (k : ∀ μ1, RR μ1 → m_W G X (YL nm) (260, true, kc, ks) μ1 1126 (LVl i) []) : m_W G X (YL nm) (260, true, kc, ks) μ 1103 (LVl i) [] := by
  refine m_aload_n C dL_law_1103 rfl ?_
  refine l_arg (j := 1) C dL_law_1104 dL_law_1105 dL_law_1106 dL_law_1107 dL_law_1108 rfl rfl (by omega) (by omega) (by omega) ?_
  have sm := (S_status : SIM G YX11_status YX12_status [vI (l_av G i 1)]) 0 μ hR
  refine m_callVi (As := [vI (l_av G i 1)]) (o := 1) (st := []) (mc1 := 0) (ms1 := 0) C dL_law_1109 ml_KilnBenchLaw_155 rfl rfl x_E1 rfl rfl (by decide) hkc hks (sm hZ) (fun r S1 μ1 hk => ?_)
  obtain ⟨rfl, h2⟩ := hk
  refine m_aload_n C dL_law_1112 rfl ?_
  refine l_arg (j := 1) C dL_law_1113 dL_law_1114 dL_law_1115 dL_law_1116 dL_law_1117 rfl rfl (by omega) (by omega) (by omega) ?_
  refine m_callVi (As := [vI (l_av G i 1)]) (o := 34) (st := [vI r]) (mc1 := 0) (ms1 := 0) C dL_law_1118 ml_KilnBenchLaw_158 rfl rfl x_E34 rfl rfl (Nat.le_of_ble_eq_true rfl) hkc hks (h2 hZ) (fun r2 S2 μ2 hk => ?_)
  obtain ⟨rfl, rfl, hR2⟩ := hk
  exact m_icmp_eq C dL_law_1121 (tgt := 1126) rfl (fun _ => k μ2 hR2) (fun q => absurd rfl q)
/-- the law's loop -/
theorem l_loop (C : m_Cx G X (YL nm) 101 mc ms) (hZ : m_Zk G) (hkc : kc ≤ mc) (hks : ks ≤ ms) (hL2 : G.2.2.2.1.2.1 ≤ 3072) (kend : ∀ (μ1 : m_M) (i : Nat), m_W G X (YL nm) (260, true, kc, ks) μ1 1133 (LVl i) [vI 1]) : ∀ (r i : Nat), i ≤ G.2.2.2.1.2.1 → G.2.2.2.1.2.1 < i + r → ∀ μ, RR μ → m_W G X (YL nm) (260, true, kc, ks) μ 18 (LVl i) [] := by
  intro r
  induction r with
  | zero => intro i h1 h2; omega
  | succ r ih =>
    intro i h1 h2 μ hR
    refine m_iload_n C dL_law_18 rfl ?_
    refine m_aload_n C dL_law_19 rfl ?_
    refine m_lenS C dL_law_20 (by omega) ?_
    refine m_bipush C dL_law_21 (by omega) ?_
    refine m_isub C dL_law_23 ?_
    rw [w32_le (by omega) (by omega)]
    refine m_icmp_gt C dL_law_24 (tgt := 1132) rfl (fun _ => ?_) (fun hq => ?_)
    · refine m_iconst C dL_law_1132 (by unfold in32; omega) ?_
      exact kend μ i
    · have at1126 : ∀ μ1, RR μ1 → m_W G X (YL nm) (260, true, kc, ks) μ1 1126 (LVl i) [] := fun μ1 hR1 => by
        refine m_iinc C dL_law_1126 rfl (Nat.le_of_ble_eq_true rfl) ?_
        refine m_goto C dL_law_1129 (tgt := 18) rfl ?_
        rw [show w32 ((i : Int) + 6) = ((i + 6 : Nat) : Int) by rw [w32_le (by omega) (by omega)]; omega]
        exact ih (i + 6) (by omega) (by omega) μ1 hR1
      refine m_aload_n C dL_law_27 rfl ?_
      refine m_iload_n C dL_law_28 rfl ?_
      refine m_ldS C dL_law_29 (by omega) (by omega) ?_
      refine m_bipush C dL_law_30 (by omega) ?_
      refine m_iand C dL_law_32 ?_
      generalize i_and (G.2.2.2.1.2.2 (i : Int).toNat).toInt 63 = v
      by_cases hv : v < 0 ∨ 33 < v
      · exact m_swOut C dL_law_33 hv (tgt := 1126) rfl (at1126 μ hR)
      have hc : v = 0 ∨ v = 1 ∨ v = 2 ∨ v = 3 ∨ v = 4 ∨ v = 5 ∨ v = 6 ∨ v = 7 ∨ v = 8 ∨ v = 9 ∨ v = 10 ∨ v = 11 ∨ v = 12 ∨ v = 13 ∨ v = 14 ∨ v = 15 ∨ v = 16 ∨ v = 17 ∨ v = 18 ∨ v = 19 ∨ v = 20 ∨ v = 21 ∨ v = 22 ∨ v = 23 ∨ v = 24 ∨ v = 25 ∨ v = 26 ∨ v = 27 ∨ v = 28 ∨ v = 29 ∨ v = 30 ∨ v = 31 ∨ v = 32 ∨ v = 33 := by omega
      rcases hc with q | q | q | q | q | q | q | q | q | q | q | q | q | q | q | q | q | q | q | q | q | q | q | q | q | q | q | q | q | q | q | q | q | q
      · subst q; exact m_swIn (x := 0) C dL_law_33 (by decide) (by decide) rfl (tgt := 184) rfl (l_0 C hZ hkc hks (by omega) hL2 hR at1126)
      · subst q; exact m_swIn (x := 1) C dL_law_33 (by decide) (by decide) rfl (tgt := 247) rfl (l_1 C hZ hkc hks (by omega) hL2 hR at1126)
      · subst q; exact m_swIn (x := 2) C dL_law_33 (by decide) (by decide) rfl (tgt := 270) rfl (l_2 C hZ hkc hks (by omega) hL2 hR at1126)
      · subst q; exact m_swIn (x := 3) C dL_law_33 (by decide) (by decide) rfl (tgt := 283) rfl (l_3 C hZ hkc hks (by omega) hL2 hR at1126)
      · subst q; exact m_swIn (x := 4) C dL_law_33 (by decide) (by decide) rfl (tgt := 306) rfl (l_4 C hZ hkc hks (by omega) hL2 hR at1126)
      · subst q; exact m_swIn (x := 5) C dL_law_33 (by decide) (by decide) rfl (tgt := 329) rfl (l_5 C hZ hkc hks (by omega) hL2 hR at1126)
      · subst q; exact m_swIn (x := 6) C dL_law_33 (by decide) (by decide) rfl (tgt := 372) rfl (l_6 C hZ hkc hks (by omega) hL2 hR at1126)
      · subst q; exact m_swIn (x := 7) C dL_law_33 (by decide) (by decide) rfl (tgt := 405) rfl (l_7 C hZ hkc hks (by omega) hL2 hR at1126)
      · subst q; exact m_swIn (x := 8) C dL_law_33 (by decide) (by decide) rfl (tgt := 438) rfl (l_8 C hZ hkc hks (by omega) hL2 hR at1126)
      · subst q; exact m_swIn (x := 9) C dL_law_33 (by decide) (by decide) rfl (tgt := 471) rfl (l_9 C hZ hkc hks (by omega) hL2 hR at1126)
      · subst q; exact m_swIn (x := 10) C dL_law_33 (by decide) (by decide) rfl (tgt := 514) rfl (l_10 C hZ hkc hks (by omega) hL2 hR at1126)
      · subst q; exact m_swIn (x := 11) C dL_law_33 (by decide) (by decide) rfl (tgt := 557) rfl (l_11 C hZ hkc hks (by omega) hL2 hR at1126)
      · subst q; exact m_swIn (x := 12) C dL_law_33 (by decide) (by decide) rfl (tgt := 610) rfl (l_12 C hZ hkc hks (by omega) hL2 hR at1126)
      · subst q; exact m_swIn (x := 13) C dL_law_33 (by decide) (by decide) rfl (tgt := 633) rfl (l_13 C hZ hkc hks (by omega) hL2 hR at1126)
      · subst q; exact m_swIn (x := 14) C dL_law_33 (by decide) (by decide) rfl (tgt := 666) rfl (l_14 C hZ hkc hks (by omega) hL2 hR at1126)
      · subst q; exact m_swIn (x := 15) C dL_law_33 (by decide) (by decide) rfl (tgt := 689) rfl (l_15 C hZ hkc hks (by omega) hL2 hR at1126)
      · subst q; exact m_swIn (x := 16) C dL_law_33 (by decide) (by decide) rfl (tgt := 712) rfl (l_16 C hZ hkc hks (by omega) hL2 hR at1126)
      · subst q; exact m_swIn (x := 17) C dL_law_33 (by decide) (by decide) rfl (tgt := 735) rfl (l_17 C hZ hkc hks (by omega) hL2 hR at1126)
      · subst q; exact m_swIn (x := 18) C dL_law_33 (by decide) (by decide) rfl (tgt := 768) rfl (l_18 C hZ hkc hks (by omega) hL2 hR at1126)
      · subst q; exact m_swIn (x := 19) C dL_law_33 (by decide) (by decide) rfl (tgt := 791) rfl (l_19 C hZ hkc hks (by omega) hL2 hR at1126)
      · subst q; exact m_swIn (x := 20) C dL_law_33 (by decide) (by decide) rfl (tgt := 804) rfl (l_20 C hZ hkc hks (by omega) hL2 hR at1126)
      · subst q; exact m_swIn (x := 21) C dL_law_33 (by decide) (by decide) rfl (tgt := 817) rfl (l_21 C hZ hkc hks (by omega) hL2 hR at1126)
      · subst q; exact m_swIn (x := 22) C dL_law_33 (by decide) (by decide) rfl (tgt := 840) rfl (l_22 C hZ hkc hks (by omega) hL2 hR at1126)
      · subst q; exact m_swIn (x := 23) C dL_law_33 (by decide) (by decide) rfl (tgt := 863) rfl (l_23 C hZ hkc hks (by omega) hL2 hR at1126)
      · subst q; exact m_swIn (x := 24) C dL_law_33 (by decide) (by decide) rfl (tgt := 886) rfl (l_24 C hZ hkc hks (by omega) hL2 hR at1126)
      · subst q; exact m_swIn (x := 25) C dL_law_33 (by decide) (by decide) rfl (tgt := 929) rfl (l_25 C hZ hkc hks (by omega) hL2 hR at1126)
      · subst q; exact m_swIn (x := 26) C dL_law_33 (by decide) (by decide) rfl (tgt := 952) rfl (l_26 C hZ hkc hks (by omega) hL2 hR at1126)
      · subst q; exact m_swIn (x := 27) C dL_law_33 (by decide) (by decide) rfl (tgt := 985) rfl (l_27 C hZ hkc hks (by omega) hL2 hR at1126)
      · subst q; exact m_swIn (x := 28) C dL_law_33 (by decide) (by decide) rfl (tgt := 998) rfl (l_28 C hZ hkc hks (by omega) hL2 hR at1126)
      · subst q; exact m_swIn (x := 29) C dL_law_33 (by decide) (by decide) rfl (tgt := 1021) rfl (l_29 C hZ hkc hks (by omega) hL2 hR at1126)
      · subst q; exact m_swIn (x := 30) C dL_law_33 (by decide) (by decide) rfl (tgt := 1054) rfl (l_30 C hZ hkc hks (by omega) hL2 hR at1126)
      · subst q; exact m_swIn (x := 31) C dL_law_33 (by decide) (by decide) rfl (tgt := 1067) rfl (l_31 C hZ hkc hks (by omega) hL2 hR at1126)
      · subst q; exact m_swIn (x := 32) C dL_law_33 (by decide) (by decide) rfl (tgt := 1090) rfl (l_32 C hZ hkc hks (by omega) hL2 hR at1126)
      · subst q; exact m_swIn (x := 33) C dL_law_33 (by decide) (by decide) rfl (tgt := 1103) rfl (l_33 C hZ hkc hks (by omega) hL2 hR at1126)
end LW
