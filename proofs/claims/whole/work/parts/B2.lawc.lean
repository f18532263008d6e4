/-- the script as the law reads it -/
def SL (J : JT) (b0 Ls : Nat) (xs : Nat → Int32) : Prop := ∀ (μ : Hp) (k n pc : Nat) (lv : List (Nat × Value)) (st : List Value) (i : Nat), i < Ls → decode cL_law pc = .ok (.iaload, 1) → J μ k n (pc + 1) lv (.int (xs i) :: st) → J μ k n pc lv (.int (nI i) :: .ref b0 :: st)
section lawc
variable {d mc ms : Nat} {yn : String} {ro : Nat → Nat} {J : JT} {b0 Ls : Nat} {xs : Nat → Int32} {i x m w k n : Nat} {A X : Nat → Nat} {S : St} {μ : Hp}
theorem L_case_0 (g : xCtx RL cL_law 7 d mc ms yn ro J) (hd : 40 ≤ d) (hsl : SL J b0 Ls xs) (hi : i + 7 ≤ Ls) (hk : k + 448 ≤ mc) (hn : n + 5600 ≤ ms) (h : LI x m w A X S μ) (nx : ∀ A' S' μ', LI x m w A' X S' μ' → J μ' k n 2363 [(4, .int (nI i)), (3, .ref w), (2, .ref m), (1, .ref x), (0, .ref b0)] []) : J μ k n 224 [(4, .int (nI i)), (3, .ref w), (2, .ref m), (1, .ref x), (0, .ref b0)] [] := by
  obtain ⟨⟨rfl, hc⟩, hm, hok, hw, ⟨b, N, l, hsb, hbX⟩, hap⟩ := id h
  refine r_aload_n g dL_law_224 rfl ?_
  refine r_aload_n g dL_law_225 rfl ?_
  refine r_iload g dL_law_226 rfl ?_
  refine r_iconst g 1 dL_law_228 (by decide) ?_
  refine r_iadd g dL_law_229 ?_
  refine r_nmV (.int (nI (i + 1))) (by rw [nIadd]; rfl) ?_
  refine hsl _ _ _ _ _ _ (i + 1) (by omega) dL_law_230 ?_
  refine r_aload_n g dL_law_231 rfl ?_
  refine r_iload g dL_law_232 rfl ?_
  refine r_iconst g 2 dL_law_234 (by decide) ?_
  refine r_iadd g dL_law_235 ?_
  refine r_nmV (.int (nI (i + 2))) (by rw [nIadd]; rfl) ?_
  refine hsl _ _ _ _ _ _ (i + 2) (by omega) dL_law_236 ?_
  refine r_aload_n g dL_law_237 rfl ?_
  refine r_iload g dL_law_238 rfl ?_
  refine r_iconst g 3 dL_law_240 (by decide) ?_
  refine r_iadd g dL_law_241 ?_
  refine r_nmV (.int (nI (i + 3))) (by rw [nIadd]; rfl) ?_
  refine hsl _ _ _ _ _ _ (i + 3) (by omega) dL_law_242 ?_
  refine r_aload_n g dL_law_243 rfl ?_
  refine r_iload g dL_law_244 rfl ?_
  refine r_iconst g 4 dL_law_246 (by decide) ?_
  refine r_iadd g dL_law_247 ?_
  refine r_nmV (.int (nI (i + 4))) (by rw [nIadd]; rfl) ?_
  refine hsl _ _ _ _ _ _ (i + 4) (by omega) dL_law_248 ?_
  refine r_aload_n g dL_law_249 rfl ?_
  refine r_iload g dL_law_250 rfl ?_
  refine r_iconst g 5 dL_law_252 (by decide) ?_
  refine r_iadd g dL_law_253 ?_
  refine r_nmV (.int (nI (i + 5))) (by rw [nIadd]; rfl) ?_
  refine hsl _ _ _ _ _ _ (i + 5) (by omega) dL_law_254 ?_
  refine r_callV (d' := d - 1) (st := []) (As := [.int (xs (i + 1)), .int (xs (i + 2)), .int (xs (i + 3)), .int (xs (i + 4)), .int (xs (i + 5))]) g sL_19 iX11_feed eX11_feed (show vwCl[10]? = some (RX11, TX11, 18) from rfl) (hc.1.1.1.s 0 14 18) rfl (Nat.le_of_ble_eq_true rfl) dL_law_255 (by omega) (by omega) (by omega) (c_feed (by omega) hc) (fun r μ1 hz => ?_)
  obtain ⟨rfl, hc1, ho⟩ := hz
  have hC := h.cls (Or.inl rfl) hc1 ho
  refine r_aload_n g dL_law_258 rfl ?_
  refine r_aload_n g dL_law_259 rfl ?_
  refine r_iload g dL_law_260 rfl ?_
  refine r_iconst g 1 dL_law_262 (by decide) ?_
  refine r_iadd g dL_law_263 ?_
  refine r_nmV (.int (nI (i + 1))) (by rw [nIadd]; rfl) ?_
  refine hsl _ _ _ _ _ _ (i + 1) (by omega) dL_law_264 ?_
  refine r_aload_n g dL_law_265 rfl ?_
  refine r_iload g dL_law_266 rfl ?_
  refine r_iconst g 2 dL_law_268 (by decide) ?_
  refine r_iadd g dL_law_269 ?_
  refine r_nmV (.int (nI (i + 2))) (by rw [nIadd]; rfl) ?_
  refine hsl _ _ _ _ _ _ (i + 2) (by omega) dL_law_270 ?_
  refine r_aload_n g dL_law_271 rfl ?_
  refine r_iload g dL_law_272 rfl ?_
  refine r_iconst g 3 dL_law_274 (by decide) ?_
  refine r_iadd g dL_law_275 ?_
  refine r_nmV (.int (nI (i + 3))) (by rw [nIadd]; rfl) ?_
  refine hsl _ _ _ _ _ _ (i + 3) (by omega) dL_law_276 ?_
  refine r_aload_n g dL_law_277 rfl ?_
  refine r_iload g dL_law_278 rfl ?_
  refine r_iconst g 4 dL_law_280 (by decide) ?_
  refine r_iadd g dL_law_281 ?_
  refine r_nmV (.int (nI (i + 4))) (by rw [nIadd]; rfl) ?_
  refine hsl _ _ _ _ _ _ (i + 4) (by omega) dL_law_282 ?_
  refine r_aload_n g dL_law_283 rfl ?_
  refine r_iload g dL_law_284 rfl ?_
  refine r_iconst g 5 dL_law_286 (by decide) ?_
  refine r_iadd g dL_law_287 ?_
  refine r_nmV (.int (nI (i + 5))) (by rw [nIadd]; rfl) ?_
  refine hsl _ _ _ _ _ _ (i + 5) (by omega) dL_law_288 ?_
  refine r_callV (d' := d - 1) (st := [.int _]) (As := [.int (xs (i + 1)), .int (xs (i + 2)), .int (xs (i + 3)), .int (xs (i + 4)), .int (xs (i + 5))]) g sL_23 iX12_feed eX12_feed (show vwCl[11]? = some (RX12, TX12, 65) from rfl) hC.2.1.1.1.1.1 rfl (Nat.le_of_ble_eq_true rfl) dL_law_289 (by omega) (by omega) (by omega) (m_feed (by omega) hC.2.1 hok) (fun r μ2 hz => ?_)
  obtain ⟨rfl, hm2, ho2⟩ := hz
  have hN := LI.mdl hC hm2 ho2 hC.1.2.ok
  exact r_icmp_eq g 2363 dL_law_292 (by decide) (fun _ => nx _ _ _ hN) (fun c => absurd rfl c)
theorem L_case_1 (g : xCtx RL cL_law 7 d mc ms yn ro J) (hd : 40 ≤ d) (hsl : SL J b0 Ls xs) (hi : i + 7 ≤ Ls) (hk : k + 448 ≤ mc) (hn : n + 5600 ≤ ms) (h : LI x m w A X S μ) (nx : ∀ A' S' μ', LI x m w A' X S' μ' → J μ' k n 2363 [(4, .int (nI i)), (3, .ref w), (2, .ref m), (1, .ref x), (0, .ref b0)] []) : J μ k n 297 [(4, .int (nI i)), (3, .ref w), (2, .ref m), (1, .ref x), (0, .ref b0)] [] := by
  obtain ⟨⟨rfl, hc⟩, hm, hok, hw, ⟨b, N, l, hsb, hbX⟩, hap⟩ := id h
  refine r_aload_n g dL_law_297 rfl ?_
  refine r_aload_n g dL_law_298 rfl ?_
  refine r_iload g dL_law_299 rfl ?_
  refine r_iconst g 1 dL_law_301 (by decide) ?_
  refine r_iadd g dL_law_302 ?_
  refine r_nmV (.int (nI (i + 1))) (by rw [nIadd]; rfl) ?_
  refine hsl _ _ _ _ _ _ (i + 1) (by omega) dL_law_303 ?_
  refine r_callV (d' := d - 1) (st := []) (As := [.int (xs (i + 1))]) g sL_24 iX11_end eX11_end (show vwCl[10]? = some (RX11, TX11, 18) from rfl) (hc.1.1.1.s 0 14 18) rfl (Nat.le_of_ble_eq_true rfl) dL_law_304 (by omega) (by omega) (by omega) (c_end  hc) (fun r μ1 hz => ?_)
  obtain ⟨rfl, hc1, ho⟩ := hz
  have hC := h.cls (Or.inl rfl) hc1 ho
  refine r_aload_n g dL_law_307 rfl ?_
  refine r_aload_n g dL_law_308 rfl ?_
  refine r_iload g dL_law_309 rfl ?_
  refine r_iconst g 1 dL_law_311 (by decide) ?_
  refine r_iadd g dL_law_312 ?_
  refine r_nmV (.int (nI (i + 1))) (by rw [nIadd]; rfl) ?_
  refine hsl _ _ _ _ _ _ (i + 1) (by omega) dL_law_313 ?_
  refine r_callV (d' := d - 1) (st := [.int _]) (As := [.int (xs (i + 1))]) g sL_28 iX12_end eX12_end (show vwCl[11]? = some (RX12, TX12, 65) from rfl) hC.2.1.1.1.1.1 rfl (Nat.le_of_ble_eq_true rfl) dL_law_314 (by omega) (by omega) (by omega) (m_end  hC.2.1 hok) (fun r μ2 hz => ?_)
  obtain ⟨rfl, hm2, ho2⟩ := hz
  have hN := LI.mdl hC hm2 ho2 hC.1.2.ok
  exact r_icmp_eq g 2363 dL_law_317 (by decide) (fun _ => nx _ _ _ hN) (fun c => absurd rfl c)
theorem L_case_2 (g : xCtx RL cL_law 7 d mc ms yn ro J) (hd : 40 ≤ d) (hsl : SL J b0 Ls xs) (hi : i + 7 ≤ Ls) (hk : k + 448 ≤ mc) (hn : n + 5600 ≤ ms) (h : LI x m w A X S μ) (nx : ∀ A' S' μ', LI x m w A' X S' μ' → J μ' k n 2363 [(4, .int (nI i)), (3, .ref w), (2, .ref m), (1, .ref x), (0, .ref b0)] []) : J μ k n 322 [(4, .int (nI i)), (3, .ref w), (2, .ref m), (1, .ref x), (0, .ref b0)] [] := by
  obtain ⟨⟨rfl, hc⟩, hm, hok, hw, ⟨b, N, l, hsb, hbX⟩, hap⟩ := id h
  refine r_aload_n g dL_law_322 rfl ?_
  refine r_aload_n g dL_law_323 rfl ?_
  refine r_iload g dL_law_324 rfl ?_
  refine r_iconst g 1 dL_law_326 (by decide) ?_
  refine r_iadd g dL_law_327 ?_
  refine r_nmV (.int (nI (i + 1))) (by rw [nIadd]; rfl) ?_
  refine hsl _ _ _ _ _ _ (i + 1) (by omega) dL_law_328 ?_
  refine r_callV (d' := d - 1) (st := []) (As := [.int (xs (i + 1))]) g sL_29 iX11_fault eX11_fault (show vwCl[10]? = some (RX11, TX11, 18) from rfl) (hc.1.1.1.s 0 14 18) rfl (Nat.le_of_ble_eq_true rfl) dL_law_329 (by omega) (by omega) (by omega) (c_fault (by omega) hc) (fun r μ1 hz => ?_)
  obtain ⟨rfl, hc1, ho⟩ := hz
  have hC := h.cls (Or.inl rfl) hc1 ho
  refine r_aload_n g dL_law_332 rfl ?_
  refine r_aload_n g dL_law_333 rfl ?_
  refine r_iload g dL_law_334 rfl ?_
  refine r_iconst g 1 dL_law_336 (by decide) ?_
  refine r_iadd g dL_law_337 ?_
  refine r_nmV (.int (nI (i + 1))) (by rw [nIadd]; rfl) ?_
  refine hsl _ _ _ _ _ _ (i + 1) (by omega) dL_law_338 ?_
  obtain ⟨d9, Z9, hc9, hd9, h9⟩ := m_fault (d := d - 1) (ro := ro) (K := fun r μ' => r = some (.int (aFault S (xs (i + 1)))) ∧ mR μ' m X S ∧ mOut m X μ1 μ') (by omega) hC.2.1 hok (fun _ a b => ⟨rfl, a, b⟩)
  refine r_callV (d' := d9) (st := [.int _]) (As := [.int (xs (i + 1))]) g sL_33 iX12_fault eX12_fault (show vwCl[11]? = some (RX12, TX12, 65) from rfl) hC.2.1.1.1.1.1 rfl (Nat.le_of_ble_eq_true rfl) dL_law_339 (by omega) (by omega) (by omega) (hc9) (fun r μ2 hz => ?_)
  replace hz := h9 _ _ hz
  obtain ⟨rfl, hm2, ho2⟩ := hz
  have hN := LI.mdl hC hm2 ho2 hC.1.2.ok
  exact r_icmp_eq g 2363 dL_law_342 (by decide) (fun _ => nx _ _ _ hN) (fun c => absurd rfl c)
theorem L_case_3 (g : xCtx RL cL_law 7 d mc ms yn ro J) (hd : 40 ≤ d) (hsl : SL J b0 Ls xs) (hi : i + 7 ≤ Ls) (hk : k + 448 ≤ mc) (hn : n + 5600 ≤ ms) (h : LI x m w A X S μ) (nx : ∀ A' S' μ', LI x m w A' X S' μ' → J μ' k n 2363 [(4, .int (nI i)), (3, .ref w), (2, .ref m), (1, .ref x), (0, .ref b0)] []) : J μ k n 347 [(4, .int (nI i)), (3, .ref w), (2, .ref m), (1, .ref x), (0, .ref b0)] [] := by
  obtain ⟨⟨rfl, hc⟩, hm, hok, hw, ⟨b, N, l, hsb, hbX⟩, hap⟩ := id h
  refine r_aload_n g dL_law_347 rfl ?_
  refine r_aload_n g dL_law_348 rfl ?_
  refine r_iload g dL_law_349 rfl ?_
  refine r_iconst g 1 dL_law_351 (by decide) ?_
  refine r_iadd g dL_law_352 ?_
  refine r_nmV (.int (nI (i + 1))) (by rw [nIadd]; rfl) ?_
  refine hsl _ _ _ _ _ _ (i + 1) (by omega) dL_law_353 ?_
  refine r_callV (d' := d - 1) (st := []) (As := [.int (xs (i + 1))]) g sL_34 iX11_text eX11_text (show vwCl[10]? = some (RX11, TX11, 18) from rfl) (hc.1.1.1.s 0 14 18) rfl (Nat.le_of_ble_eq_true rfl) dL_law_354 (by omega) (by omega) (by omega) (c_text (by omega) hc) (fun r μ1 hz => ?_)
  obtain ⟨rfl, ho, A1, S1, hA, hT, hc1⟩ := hz
  have hC := h.cls hA hc1 ho
  refine r_aload_n g dL_law_357 rfl ?_
  refine r_aload_n g dL_law_358 rfl ?_
  refine r_iload g dL_law_359 rfl ?_
  refine r_iconst g 1 dL_law_361 (by decide) ?_
  refine r_iadd g dL_law_362 ?_
  refine r_nmV (.int (nI (i + 1))) (by rw [nIadd]; rfl) ?_
  refine hsl _ _ _ _ _ _ (i + 1) (by omega) dL_law_363 ?_
  refine r_callV (d' := d - 1) (st := [.int _]) (As := [.int (xs (i + 1))]) g sL_37 iX12_text eX12_text (show vwCl[11]? = some (RX12, TX12, 65) from rfl) hC.2.1.1.1.1.1 rfl (Nat.le_of_ble_eq_true rfl) dL_law_364 (by omega) (by omega) (by omega) (m_text (by omega) hC.2.1 hok hT) (fun r μ2 hz => ?_)
  obtain ⟨rfl, hm2, ho2⟩ := hz
  have hN := LI.mdl hC hm2 ho2 hC.1.2.ok
  exact r_icmp_eq g 2363 dL_law_367 (by decide) (fun _ => nx _ _ _ hN) (fun c => absurd rfl c)
theorem L_case_4 (g : xCtx RL cL_law 7 d mc ms yn ro J) (hd : 40 ≤ d) (hsl : SL J b0 Ls xs) (hi : i + 7 ≤ Ls) (hk : k + 448 ≤ mc) (hn : n + 5600 ≤ ms) (h : LI x m w A X S μ) (nx : ∀ A' S' μ', LI x m w A' X S' μ' → J μ' k n 2363 [(4, .int (nI i)), (3, .ref w), (2, .ref m), (1, .ref x), (0, .ref b0)] []) : J μ k n 372 [(4, .int (nI i)), (3, .ref w), (2, .ref m), (1, .ref x), (0, .ref b0)] [] := by
  obtain ⟨⟨rfl, hc⟩, hm, hok, hw, ⟨b, N, l, hsb, hbX⟩, hap⟩ := id h
  refine r_aload_n g dL_law_372 rfl ?_
  refine r_aload_n g dL_law_373 rfl ?_
  refine r_iload g dL_law_374 rfl ?_
  refine r_iconst g 1 dL_law_376 (by decide) ?_
  refine r_iadd g dL_law_377 ?_
  refine r_nmV (.int (nI (i + 1))) (by rw [nIadd]; rfl) ?_
  refine hsl _ _ _ _ _ _ (i + 1) (by omega) dL_law_378 ?_
  refine r_aload_n g dL_law_379 rfl ?_
  refine r_iload g dL_law_380 rfl ?_
  refine r_iconst g 2 dL_law_382 (by decide) ?_
  refine r_iadd g dL_law_383 ?_
  refine r_nmV (.int (nI (i + 2))) (by rw [nIadd]; rfl) ?_
  refine hsl _ _ _ _ _ _ (i + 2) (by omega) dL_law_384 ?_
  refine r_callV (d' := d - 1) (st := []) (As := [.int (xs (i + 1)), .int (xs (i + 2))]) g sL_38 iX11_land eX11_land (show vwCl[10]? = some (RX11, TX11, 18) from rfl) (hc.1.1.1.s 0 14 18) rfl (Nat.le_of_ble_eq_true rfl) dL_law_385 (by omega) (by omega) (by omega) (c_land (by omega) hc.1) (fun r μ1 hz => ?_)
  obtain ⟨hq, rfl⟩ := hz
  have hC := h.cls (Or.inl rfl) (hc.fr hq) hq.out
  refine r_aload_n g dL_law_388 rfl ?_
  refine r_aload_n g dL_law_389 rfl ?_
  refine r_iload g dL_law_390 rfl ?_
  refine r_iconst g 1 dL_law_392 (by decide) ?_
  refine r_iadd g dL_law_393 ?_
  refine r_nmV (.int (nI (i + 1))) (by rw [nIadd]; rfl) ?_
  refine hsl _ _ _ _ _ _ (i + 1) (by omega) dL_law_394 ?_
  refine r_aload_n g dL_law_395 rfl ?_
  refine r_iload g dL_law_396 rfl ?_
  refine r_iconst g 2 dL_law_398 (by decide) ?_
  refine r_iadd g dL_law_399 ?_
  refine r_nmV (.int (nI (i + 2))) (by rw [nIadd]; rfl) ?_
  refine hsl _ _ _ _ _ _ (i + 2) (by omega) dL_law_400 ?_
  refine r_callV (d' := d - 1) (st := [.int _]) (As := [.int (xs (i + 1)), .int (xs (i + 2))]) g sL_41 iX12_land eX12_land (show vwCl[11]? = some (RX12, TX12, 65) from rfl) hC.2.1.1.1.1.1 rfl (Nat.le_of_ble_eq_true rfl) dL_law_401 (by omega) (by omega) (by omega) (m_land (by omega) hC.2.1.1 ) (fun r μ2 hz => ?_)
  obtain ⟨hq2, rfl⟩ := hz
  have hN := LI.mdl hC (hC.2.1.fr hq2) hq2.out hok
  exact r_icmp_eq g 2363 dL_law_404 (by decide) (fun _ => nx _ _ _ hN) (fun c => absurd rfl c)
theorem L_case_6 (g : xCtx RL cL_law 7 d mc ms yn ro J) (hd : 40 ≤ d) (hsl : SL J b0 Ls xs) (hi : i + 7 ≤ Ls) (hk : k + 448 ≤ mc) (hn : n + 5600 ≤ ms) (h : LI x m w A X S μ) (nx : ∀ A' S' μ', LI x m w A' X S' μ' → J μ' k n 2363 [(4, .int (nI i)), (3, .ref w), (2, .ref m), (1, .ref x), (0, .ref b0)] []) : J μ k n 477 [(4, .int (nI i)), (3, .ref w), (2, .ref m), (1, .ref x), (0, .ref b0)] [] := by
  obtain ⟨⟨rfl, hc⟩, hm, hok, hw, ⟨b, N, l, hsb, hbX⟩, hap⟩ := id h
  refine r_aload_n g dL_law_477 rfl ?_
  refine r_aload_n g dL_law_478 rfl ?_
  refine r_iload g dL_law_479 rfl ?_
  refine r_iconst g 1 dL_law_481 (by decide) ?_
  refine r_iadd g dL_law_482 ?_
  refine r_nmV (.int (nI (i + 1))) (by rw [nIadd]; rfl) ?_
  refine hsl _ _ _ _ _ _ (i + 1) (by omega) dL_law_483 ?_
  refine r_aload_n g dL_law_484 rfl ?_
  refine r_iload g dL_law_485 rfl ?_
  refine r_iconst g 2 dL_law_487 (by decide) ?_
  refine r_iadd g dL_law_488 ?_
  refine r_nmV (.int (nI (i + 2))) (by rw [nIadd]; rfl) ?_
  refine hsl _ _ _ _ _ _ (i + 2) (by omega) dL_law_489 ?_
  refine r_aload_n g dL_law_490 rfl ?_
  refine r_iload g dL_law_491 rfl ?_
  refine r_iconst g 3 dL_law_493 (by decide) ?_
  refine r_iadd g dL_law_494 ?_
  refine r_nmV (.int (nI (i + 3))) (by rw [nIadd]; rfl) ?_
  refine hsl _ _ _ _ _ _ (i + 3) (by omega) dL_law_495 ?_
  refine r_callV (d' := d - 1) (st := []) (As := [.int (xs (i + 1)), .int (xs (i + 2)), .int (xs (i + 3))]) g sL_52 iX11_name eX11_name (show vwCl[10]? = some (RX11, TX11, 18) from rfl) (hc.1.1.1.s 0 14 18) rfl (Nat.le_of_ble_eq_true rfl) dL_law_496 (by omega) (by omega) (by omega) (c_name (by omega) hc) (fun r μ1 hz => ?_)
  obtain ⟨hq, rfl⟩ := hz
  have hC := h.cls (Or.inl rfl) (hc.fr hq) hq.out
  refine r_aload_n g dL_law_499 rfl ?_
  refine r_aload_n g dL_law_500 rfl ?_
  refine r_iload g dL_law_501 rfl ?_
  refine r_iconst g 1 dL_law_503 (by decide) ?_
  refine r_iadd g dL_law_504 ?_
  refine r_nmV (.int (nI (i + 1))) (by rw [nIadd]; rfl) ?_
  refine hsl _ _ _ _ _ _ (i + 1) (by omega) dL_law_505 ?_
  refine r_aload_n g dL_law_506 rfl ?_
  refine r_iload g dL_law_507 rfl ?_
  refine r_iconst g 2 dL_law_509 (by decide) ?_
  refine r_iadd g dL_law_510 ?_
  refine r_nmV (.int (nI (i + 2))) (by rw [nIadd]; rfl) ?_
  refine hsl _ _ _ _ _ _ (i + 2) (by omega) dL_law_511 ?_
  refine r_aload_n g dL_law_512 rfl ?_
  refine r_iload g dL_law_513 rfl ?_
  refine r_iconst g 3 dL_law_515 (by decide) ?_
  refine r_iadd g dL_law_516 ?_
  refine r_nmV (.int (nI (i + 3))) (by rw [nIadd]; rfl) ?_
  refine hsl _ _ _ _ _ _ (i + 3) (by omega) dL_law_517 ?_
  refine r_callV (d' := d - 1) (st := [.int _]) (As := [.int (xs (i + 1)), .int (xs (i + 2)), .int (xs (i + 3))]) g sL_56 iX12_name eX12_name (show vwCl[11]? = some (RX12, TX12, 65) from rfl) hC.2.1.1.1.1.1 rfl (Nat.le_of_ble_eq_true rfl) dL_law_518 (by omega) (by omega) (by omega) (m_name (by omega) hC.2.1 hok) (fun r μ2 hz => ?_)
  obtain ⟨hq2, rfl⟩ := hz
  have hN := LI.mdl hC (hC.2.1.fr hq2) hq2.out hok
  exact r_icmp_eq g 2363 dL_law_521 (by decide) (fun _ => nx _ _ _ hN) (fun c => absurd rfl c)
theorem L_case_7 (g : xCtx RL cL_law 7 d mc ms yn ro J) (hd : 40 ≤ d) (hsl : SL J b0 Ls xs) (hi : i + 7 ≤ Ls) (hk : k + 448 ≤ mc) (hn : n + 5600 ≤ ms) (h : LI x m w A X S μ) (nx : ∀ A' S' μ', LI x m w A' X S' μ' → J μ' k n 2363 [(4, .int (nI i)), (3, .ref w), (2, .ref m), (1, .ref x), (0, .ref b0)] []) : J μ k n 526 [(4, .int (nI i)), (3, .ref w), (2, .ref m), (1, .ref x), (0, .ref b0)] [] := by
  obtain ⟨⟨rfl, hc⟩, hm, hok, hw, ⟨b, N, l, hsb, hbX⟩, hap⟩ := id h
  refine r_aload_n g dL_law_526 rfl ?_
  refine r_aload_n g dL_law_527 rfl ?_
  refine r_iload g dL_law_528 rfl ?_
  refine r_iconst g 1 dL_law_530 (by decide) ?_
  refine r_iadd g dL_law_531 ?_
  refine r_nmV (.int (nI (i + 1))) (by rw [nIadd]; rfl) ?_
  refine hsl _ _ _ _ _ _ (i + 1) (by omega) dL_law_532 ?_
  refine r_aload_n g dL_law_533 rfl ?_
  refine r_iload g dL_law_534 rfl ?_
  refine r_iconst g 2 dL_law_536 (by decide) ?_
  refine r_iadd g dL_law_537 ?_
  refine r_nmV (.int (nI (i + 2))) (by rw [nIadd]; rfl) ?_
  refine hsl _ _ _ _ _ _ (i + 2) (by omega) dL_law_538 ?_
  refine r_callV (d' := d - 1) (st := []) (As := [.int (xs (i + 1)), .int (xs (i + 2))]) g sL_57 iX11_link eX11_link (show vwCl[10]? = some (RX11, TX11, 18) from rfl) (hc.1.1.1.s 0 14 18) rfl (Nat.le_of_ble_eq_true rfl) dL_law_539 (by omega) (by omega) (by omega) (c_link (by omega) hc.1) (fun r μ1 hz => ?_)
  obtain ⟨hq, rfl⟩ := hz
  have hC := h.cls (Or.inl rfl) (hc.fr hq) hq.out
  refine r_aload_n g dL_law_542 rfl ?_
  refine r_aload_n g dL_law_543 rfl ?_
  refine r_iload g dL_law_544 rfl ?_
  refine r_iconst g 1 dL_law_546 (by decide) ?_
  refine r_iadd g dL_law_547 ?_
  refine r_nmV (.int (nI (i + 1))) (by rw [nIadd]; rfl) ?_
  refine hsl _ _ _ _ _ _ (i + 1) (by omega) dL_law_548 ?_
  refine r_aload_n g dL_law_549 rfl ?_
  refine r_iload g dL_law_550 rfl ?_
  refine r_iconst g 2 dL_law_552 (by decide) ?_
  refine r_iadd g dL_law_553 ?_
  refine r_nmV (.int (nI (i + 2))) (by rw [nIadd]; rfl) ?_
  refine hsl _ _ _ _ _ _ (i + 2) (by omega) dL_law_554 ?_
  refine r_callV (d' := d - 1) (st := [.int _]) (As := [.int (xs (i + 1)), .int (xs (i + 2))]) g sL_60 iX12_link eX12_link (show vwCl[11]? = some (RX12, TX12, 65) from rfl) hC.2.1.1.1.1.1 rfl (Nat.le_of_ble_eq_true rfl) dL_law_555 (by omega) (by omega) (by omega) (m_link (by omega) hC.2.1.1 ) (fun r μ2 hz => ?_)
  obtain ⟨hq2, rfl⟩ := hz
  have hN := LI.mdl hC (hC.2.1.fr hq2) hq2.out hok
  exact r_icmp_eq g 2363 dL_law_558 (by decide) (fun _ => nx _ _ _ hN) (fun c => absurd rfl c)
theorem L_case_8 (g : xCtx RL cL_law 7 d mc ms yn ro J) (hd : 40 ≤ d) (hsl : SL J b0 Ls xs) (hi : i + 7 ≤ Ls) (hk : k + 448 ≤ mc) (hn : n + 5600 ≤ ms) (h : LI x m w A X S μ) (nx : ∀ A' S' μ', LI x m w A' X S' μ' → J μ' k n 2363 [(4, .int (nI i)), (3, .ref w), (2, .ref m), (1, .ref x), (0, .ref b0)] []) : J μ k n 563 [(4, .int (nI i)), (3, .ref w), (2, .ref m), (1, .ref x), (0, .ref b0)] [] := by
  obtain ⟨⟨rfl, hc⟩, hm, hok, hw, ⟨b, N, l, hsb, hbX⟩, hap⟩ := id h
  refine r_aload_n g dL_law_563 rfl ?_
  refine r_aload_n g dL_law_564 rfl ?_
  refine r_iload g dL_law_565 rfl ?_
  refine r_iconst g 1 dL_law_567 (by decide) ?_
  refine r_iadd g dL_law_568 ?_
  refine r_nmV (.int (nI (i + 1))) (by rw [nIadd]; rfl) ?_
  refine hsl _ _ _ _ _ _ (i + 1) (by omega) dL_law_569 ?_
  refine r_aload_n g dL_law_570 rfl ?_
  refine r_iload g dL_law_571 rfl ?_
  refine r_iconst g 2 dL_law_573 (by decide) ?_
  refine r_iadd g dL_law_574 ?_
  refine r_nmV (.int (nI (i + 2))) (by rw [nIadd]; rfl) ?_
  refine hsl _ _ _ _ _ _ (i + 2) (by omega) dL_law_575 ?_
  refine r_aload_n g dL_law_576 rfl ?_
  refine r_iload g dL_law_577 rfl ?_
  refine r_iconst g 3 dL_law_579 (by decide) ?_
  refine r_iadd g dL_law_580 ?_
  refine r_nmV (.int (nI (i + 3))) (by rw [nIadd]; rfl) ?_
  refine hsl _ _ _ _ _ _ (i + 3) (by omega) dL_law_581 ?_
  refine r_aload_n g dL_law_582 rfl ?_
  refine r_iload g dL_law_583 rfl ?_
  refine r_iconst g 4 dL_law_585 (by decide) ?_
  refine r_iadd g dL_law_586 ?_
  refine r_nmV (.int (nI (i + 4))) (by rw [nIadd]; rfl) ?_
  refine hsl _ _ _ _ _ _ (i + 4) (by omega) dL_law_587 ?_
  refine r_callV (d' := d - 1) (st := []) (As := [.int (xs (i + 1)), .int (xs (i + 2)), .int (xs (i + 3)), .int (xs (i + 4))]) g sL_61 iX11_treaty eX11_treaty (show vwCl[10]? = some (RX11, TX11, 18) from rfl) (hc.1.1.1.s 0 14 18) rfl (Nat.le_of_ble_eq_true rfl) dL_law_588 (by omega) (by omega) (by omega) (c_treaty (by omega) hc.1) (fun r μ1 hz => ?_)
  obtain ⟨hq, rfl⟩ := hz
  have hC := h.cls (Or.inl rfl) (hc.fr hq) hq.out
  refine r_aload_n g dL_law_591 rfl ?_
  refine r_aload_n g dL_law_592 rfl ?_
  refine r_iload g dL_law_593 rfl ?_
  refine r_iconst g 1 dL_law_595 (by decide) ?_
  refine r_iadd g dL_law_596 ?_
  refine r_nmV (.int (nI (i + 1))) (by rw [nIadd]; rfl) ?_
  refine hsl _ _ _ _ _ _ (i + 1) (by omega) dL_law_597 ?_
  refine r_aload_n g dL_law_598 rfl ?_
  refine r_iload g dL_law_599 rfl ?_
  refine r_iconst g 2 dL_law_601 (by decide) ?_
  refine r_iadd g dL_law_602 ?_
  refine r_nmV (.int (nI (i + 2))) (by rw [nIadd]; rfl) ?_
  refine hsl _ _ _ _ _ _ (i + 2) (by omega) dL_law_603 ?_
  refine r_aload_n g dL_law_604 rfl ?_
  refine r_iload g dL_law_605 rfl ?_
  refine r_iconst g 3 dL_law_607 (by decide) ?_
  refine r_iadd g dL_law_608 ?_
  refine r_nmV (.int (nI (i + 3))) (by rw [nIadd]; rfl) ?_
  refine hsl _ _ _ _ _ _ (i + 3) (by omega) dL_law_609 ?_
  refine r_aload_n g dL_law_610 rfl ?_
  refine r_iload g dL_law_611 rfl ?_
  refine r_iconst g 4 dL_law_613 (by decide) ?_
  refine r_iadd g dL_law_614 ?_
  refine r_nmV (.int (nI (i + 4))) (by rw [nIadd]; rfl) ?_
  refine hsl _ _ _ _ _ _ (i + 4) (by omega) dL_law_615 ?_
  refine r_callV (d' := d - 1) (st := [.int _]) (As := [.int (xs (i + 1)), .int (xs (i + 2)), .int (xs (i + 3)), .int (xs (i + 4))]) g sL_65 iX12_treaty eX12_treaty (show vwCl[11]? = some (RX12, TX12, 65) from rfl) hC.2.1.1.1.1.1 rfl (Nat.le_of_ble_eq_true rfl) dL_law_616 (by omega) (by omega) (by omega) (m_treaty (by omega) hC.2.1.1 ) (fun r μ2 hz => ?_)
  obtain ⟨hq2, rfl⟩ := hz
  have hN := LI.mdl hC (hC.2.1.fr hq2) hq2.out hok
  exact r_icmp_eq g 2363 dL_law_619 (by decide) (fun _ => nx _ _ _ hN) (fun c => absurd rfl c)
theorem L_case_9 (g : xCtx RL cL_law 7 d mc ms yn ro J) (hd : 40 ≤ d) (hsl : SL J b0 Ls xs) (hi : i + 7 ≤ Ls) (hk : k + 448 ≤ mc) (hn : n + 5600 ≤ ms) (h : LI x m w A X S μ) (nx : ∀ A' S' μ', LI x m w A' X S' μ' → J μ' k n 2363 [(4, .int (nI i)), (3, .ref w), (2, .ref m), (1, .ref x), (0, .ref b0)] []) : J μ k n 624 [(4, .int (nI i)), (3, .ref w), (2, .ref m), (1, .ref x), (0, .ref b0)] [] := by
  obtain ⟨⟨rfl, hc⟩, hm, hok, hw, ⟨b, N, l, hsb, hbX⟩, hap⟩ := id h
  refine r_aload_n g dL_law_624 rfl ?_
  refine r_aload_n g dL_law_625 rfl ?_
  refine r_iload g dL_law_626 rfl ?_
  refine r_iconst g 1 dL_law_628 (by decide) ?_
  refine r_iadd g dL_law_629 ?_
  refine r_nmV (.int (nI (i + 1))) (by rw [nIadd]; rfl) ?_
  refine hsl _ _ _ _ _ _ (i + 1) (by omega) dL_law_630 ?_
  refine r_aload_n g dL_law_631 rfl ?_
  refine r_iload g dL_law_632 rfl ?_
  refine r_iconst g 2 dL_law_634 (by decide) ?_
  refine r_iadd g dL_law_635 ?_
  refine r_nmV (.int (nI (i + 2))) (by rw [nIadd]; rfl) ?_
  refine hsl _ _ _ _ _ _ (i + 2) (by omega) dL_law_636 ?_
  refine r_aload_n g dL_law_637 rfl ?_
  refine r_iload g dL_law_638 rfl ?_
  refine r_iconst g 3 dL_law_640 (by decide) ?_
  refine r_iadd g dL_law_641 ?_
  refine r_nmV (.int (nI (i + 3))) (by rw [nIadd]; rfl) ?_
  refine hsl _ _ _ _ _ _ (i + 3) (by omega) dL_law_642 ?_
  refine r_aload_n g dL_law_643 rfl ?_
  refine r_iload g dL_law_644 rfl ?_
  refine r_iconst g 4 dL_law_646 (by decide) ?_
  refine r_iadd g dL_law_647 ?_
  refine r_nmV (.int (nI (i + 4))) (by rw [nIadd]; rfl) ?_
  refine hsl _ _ _ _ _ _ (i + 4) (by omega) dL_law_648 ?_
  refine r_aload_n g dL_law_649 rfl ?_
  refine r_iload g dL_law_650 rfl ?_
  refine r_iconst g 5 dL_law_652 (by decide) ?_
  refine r_iadd g dL_law_653 ?_
  refine r_nmV (.int (nI (i + 5))) (by rw [nIadd]; rfl) ?_
  refine hsl _ _ _ _ _ _ (i + 5) (by omega) dL_law_654 ?_
  refine r_callV (d' := d - 1) (st := []) (As := [.int (xs (i + 1)), .int (xs (i + 2)), .int (xs (i + 3)), .int (xs (i + 4)), .int (xs (i + 5))]) g sL_66 iX11_hop eX11_hop (show vwCl[10]? = some (RX11, TX11, 18) from rfl) (hc.1.1.1.s 0 14 18) rfl (Nat.le_of_ble_eq_true rfl) dL_law_655 (by omega) (by omega) (by omega) (c_hop (by omega) hc.1) (fun r μ1 hz => ?_)
  obtain ⟨hq, rfl⟩ := hz
  have hC := h.cls (Or.inl rfl) (hc.fr hq) hq.out
  refine r_aload_n g dL_law_658 rfl ?_
  refine r_aload_n g dL_law_659 rfl ?_
  refine r_iload g dL_law_660 rfl ?_
  refine r_iconst g 1 dL_law_662 (by decide) ?_
  refine r_iadd g dL_law_663 ?_
  refine r_nmV (.int (nI (i + 1))) (by rw [nIadd]; rfl) ?_
  refine hsl _ _ _ _ _ _ (i + 1) (by omega) dL_law_664 ?_
  refine r_aload_n g dL_law_665 rfl ?_
  refine r_iload g dL_law_666 rfl ?_
  refine r_iconst g 2 dL_law_668 (by decide) ?_
  refine r_iadd g dL_law_669 ?_
  refine r_nmV (.int (nI (i + 2))) (by rw [nIadd]; rfl) ?_
  refine hsl _ _ _ _ _ _ (i + 2) (by omega) dL_law_670 ?_
  refine r_aload_n g dL_law_671 rfl ?_
  refine r_iload g dL_law_672 rfl ?_
  refine r_iconst g 3 dL_law_674 (by decide) ?_
  refine r_iadd g dL_law_675 ?_
  refine r_nmV (.int (nI (i + 3))) (by rw [nIadd]; rfl) ?_
  refine hsl _ _ _ _ _ _ (i + 3) (by omega) dL_law_676 ?_
  refine r_aload_n g dL_law_677 rfl ?_
  refine r_iload g dL_law_678 rfl ?_
  refine r_iconst g 4 dL_law_680 (by decide) ?_
  refine r_iadd g dL_law_681 ?_
  refine r_nmV (.int (nI (i + 4))) (by rw [nIadd]; rfl) ?_
  refine hsl _ _ _ _ _ _ (i + 4) (by omega) dL_law_682 ?_
  refine r_aload_n g dL_law_683 rfl ?_
  refine r_iload g dL_law_684 rfl ?_
  refine r_iconst g 5 dL_law_686 (by decide) ?_
  refine r_iadd g dL_law_687 ?_
  refine r_nmV (.int (nI (i + 5))) (by rw [nIadd]; rfl) ?_
  refine hsl _ _ _ _ _ _ (i + 5) (by omega) dL_law_688 ?_
  refine r_callV (d' := d - 1) (st := [.int _]) (As := [.int (xs (i + 1)), .int (xs (i + 2)), .int (xs (i + 3)), .int (xs (i + 4)), .int (xs (i + 5))]) g sL_69 iX12_hop eX12_hop (show vwCl[11]? = some (RX12, TX12, 65) from rfl) hC.2.1.1.1.1.1 rfl (Nat.le_of_ble_eq_true rfl) dL_law_689 (by omega) (by omega) (by omega) (m_hop (by omega) hC.2.1.1 ) (fun r μ2 hz => ?_)
  obtain ⟨hq2, rfl⟩ := hz
  have hN := LI.mdl hC (hC.2.1.fr hq2) hq2.out hok
  exact r_icmp_eq g 2363 dL_law_692 (by decide) (fun _ => nx _ _ _ hN) (fun c => absurd rfl c)
theorem L_case_10 (g : xCtx RL cL_law 7 d mc ms yn ro J) (hd : 40 ≤ d) (hsl : SL J b0 Ls xs) (hi : i + 7 ≤ Ls) (hk : k + 448 ≤ mc) (hn : n + 5600 ≤ ms) (h : LI x m w A X S μ) (nx : ∀ A' S' μ', LI x m w A' X S' μ' → J μ' k n 2363 [(4, .int (nI i)), (3, .ref w), (2, .ref m), (1, .ref x), (0, .ref b0)] []) : J μ k n 697 [(4, .int (nI i)), (3, .ref w), (2, .ref m), (1, .ref x), (0, .ref b0)] [] := by
  obtain ⟨⟨rfl, hc⟩, hm, hok, hw, ⟨b, N, l, hsb, hbX⟩, hap⟩ := id h
  refine r_aload_n g dL_law_697 rfl ?_
  refine r_aload_n g dL_law_698 rfl ?_
  refine r_iload g dL_law_699 rfl ?_
  refine r_iconst g 1 dL_law_701 (by decide) ?_
  refine r_iadd g dL_law_702 ?_
  refine r_nmV (.int (nI (i + 1))) (by rw [nIadd]; rfl) ?_
  refine hsl _ _ _ _ _ _ (i + 1) (by omega) dL_law_703 ?_
  refine r_aload_n g dL_law_704 rfl ?_
  refine r_iload g dL_law_705 rfl ?_
  refine r_iconst g 2 dL_law_707 (by decide) ?_
  refine r_iadd g dL_law_708 ?_
  refine r_nmV (.int (nI (i + 2))) (by rw [nIadd]; rfl) ?_
  refine hsl _ _ _ _ _ _ (i + 2) (by omega) dL_law_709 ?_
  refine r_aload_n g dL_law_710 rfl ?_
  refine r_iload g dL_law_711 rfl ?_
  refine r_iconst g 3 dL_law_713 (by decide) ?_
  refine r_iadd g dL_law_714 ?_
  refine r_nmV (.int (nI (i + 3))) (by rw [nIadd]; rfl) ?_
  refine hsl _ _ _ _ _ _ (i + 3) (by omega) dL_law_715 ?_
  refine r_aload_n g dL_law_716 rfl ?_
  refine r_iload g dL_law_717 rfl ?_
  refine r_iconst g 4 dL_law_719 (by decide) ?_
  refine r_iadd g dL_law_720 ?_
  refine r_nmV (.int (nI (i + 4))) (by rw [nIadd]; rfl) ?_
  refine hsl _ _ _ _ _ _ (i + 4) (by omega) dL_law_721 ?_
  refine r_aload_n g dL_law_722 rfl ?_
  refine r_iload g dL_law_723 rfl ?_
  refine r_iconst g 5 dL_law_725 (by decide) ?_
  refine r_iadd g dL_law_726 ?_
  refine r_nmV (.int (nI (i + 5))) (by rw [nIadd]; rfl) ?_
  refine hsl _ _ _ _ _ _ (i + 5) (by omega) dL_law_727 ?_
  refine r_callV (d' := d - 1) (st := []) (As := [.int (xs (i + 1)), .int (xs (i + 2)), .int (xs (i + 3)), .int (xs (i + 4)), .int (xs (i + 5))]) g sL_70 iX11_best eX11_best (show vwCl[10]? = some (RX11, TX11, 18) from rfl) (hc.1.1.1.s 0 14 18) rfl (Nat.le_of_ble_eq_true rfl) dL_law_728 (by omega) (by omega) (by omega) (c_best (by omega) hc.1) (fun r μ1 hz => ?_)
  obtain ⟨hq, rfl⟩ := hz
  have hC := h.cls (Or.inl rfl) (hc.fr hq) hq.out
  refine r_aload_n g dL_law_731 rfl ?_
  refine r_aload_n g dL_law_732 rfl ?_
  refine r_iload g dL_law_733 rfl ?_
  refine r_iconst g 1 dL_law_735 (by decide) ?_
  refine r_iadd g dL_law_736 ?_
  refine r_nmV (.int (nI (i + 1))) (by rw [nIadd]; rfl) ?_
  refine hsl _ _ _ _ _ _ (i + 1) (by omega) dL_law_737 ?_
  refine r_aload_n g dL_law_738 rfl ?_
  refine r_iload g dL_law_739 rfl ?_
  refine r_iconst g 2 dL_law_741 (by decide) ?_
  refine r_iadd g dL_law_742 ?_
  refine r_nmV (.int (nI (i + 2))) (by rw [nIadd]; rfl) ?_
  refine hsl _ _ _ _ _ _ (i + 2) (by omega) dL_law_743 ?_
  refine r_aload_n g dL_law_744 rfl ?_
  refine r_iload g dL_law_745 rfl ?_
  refine r_iconst g 3 dL_law_747 (by decide) ?_
  refine r_iadd g dL_law_748 ?_
  refine r_nmV (.int (nI (i + 3))) (by rw [nIadd]; rfl) ?_
  refine hsl _ _ _ _ _ _ (i + 3) (by omega) dL_law_749 ?_
  refine r_aload_n g dL_law_750 rfl ?_
  refine r_iload g dL_law_751 rfl ?_
  refine r_iconst g 4 dL_law_753 (by decide) ?_
  refine r_iadd g dL_law_754 ?_
  refine r_nmV (.int (nI (i + 4))) (by rw [nIadd]; rfl) ?_
  refine hsl _ _ _ _ _ _ (i + 4) (by omega) dL_law_755 ?_
  refine r_aload_n g dL_law_756 rfl ?_
  refine r_iload g dL_law_757 rfl ?_
  refine r_iconst g 5 dL_law_759 (by decide) ?_
  refine r_iadd g dL_law_760 ?_
  refine r_nmV (.int (nI (i + 5))) (by rw [nIadd]; rfl) ?_
  refine hsl _ _ _ _ _ _ (i + 5) (by omega) dL_law_761 ?_
  refine r_callV (d' := d - 1) (st := [.int _]) (As := [.int (xs (i + 1)), .int (xs (i + 2)), .int (xs (i + 3)), .int (xs (i + 4)), .int (xs (i + 5))]) g sL_73 iX12_best eX12_best (show vwCl[11]? = some (RX12, TX12, 65) from rfl) hC.2.1.1.1.1.1 rfl (Nat.le_of_ble_eq_true rfl) dL_law_762 (by omega) (by omega) (by omega) (m_best (by omega) hC.2.1.1 ) (fun r μ2 hz => ?_)
  obtain ⟨hq2, rfl⟩ := hz
  have hN := LI.mdl hC (hC.2.1.fr hq2) hq2.out hok
  exact r_icmp_eq g 2363 dL_law_765 (by decide) (fun _ => nx _ _ _ hN) (fun c => absurd rfl c)
theorem L_case_11 (g : xCtx RL cL_law 7 d mc ms yn ro J) (hd : 40 ≤ d) (hsl : SL J b0 Ls xs) (hi : i + 7 ≤ Ls) (hk : k + 448 ≤ mc) (hn : n + 5600 ≤ ms) (h : LI x m w A X S μ) (nx : ∀ A' S' μ', LI x m w A' X S' μ' → J μ' k n 2363 [(4, .int (nI i)), (3, .ref w), (2, .ref m), (1, .ref x), (0, .ref b0)] []) : J μ k n 770 [(4, .int (nI i)), (3, .ref w), (2, .ref m), (1, .ref x), (0, .ref b0)] [] := by
  obtain ⟨⟨rfl, hc⟩, hm, hok, hw, ⟨b, N, l, hsb, hbX⟩, hap⟩ := id h
  refine r_aload_n g dL_law_770 rfl ?_
  refine r_aload_n g dL_law_771 rfl ?_
  refine r_iload g dL_law_772 rfl ?_
  refine r_iconst g 1 dL_law_774 (by decide) ?_
  refine r_iadd g dL_law_775 ?_
  refine r_nmV (.int (nI (i + 1))) (by rw [nIadd]; rfl) ?_
  refine hsl _ _ _ _ _ _ (i + 1) (by omega) dL_law_776 ?_
  refine r_aload_n g dL_law_777 rfl ?_
  refine r_iload g dL_law_778 rfl ?_
  refine r_iconst g 2 dL_law_780 (by decide) ?_
  refine r_iadd g dL_law_781 ?_
  refine r_nmV (.int (nI (i + 2))) (by rw [nIadd]; rfl) ?_
  refine hsl _ _ _ _ _ _ (i + 2) (by omega) dL_law_782 ?_
  refine r_aload_n g dL_law_783 rfl ?_
  refine r_iload g dL_law_784 rfl ?_
  refine r_iconst g 3 dL_law_786 (by decide) ?_
  refine r_iadd g dL_law_787 ?_
  refine r_nmV (.int (nI (i + 3))) (by rw [nIadd]; rfl) ?_
  refine hsl _ _ _ _ _ _ (i + 3) (by omega) dL_law_788 ?_
  refine r_aload_n g dL_law_789 rfl ?_
  refine r_iload g dL_law_790 rfl ?_
  refine r_iconst g 4 dL_law_792 (by decide) ?_
  refine r_iadd g dL_law_793 ?_
  refine r_nmV (.int (nI (i + 4))) (by rw [nIadd]; rfl) ?_
  refine hsl _ _ _ _ _ _ (i + 4) (by omega) dL_law_794 ?_
  refine r_aload_n g dL_law_795 rfl ?_
  refine r_iload g dL_law_796 rfl ?_
  refine r_iconst g 5 dL_law_798 (by decide) ?_
  refine r_iadd g dL_law_799 ?_
  refine r_nmV (.int (nI (i + 5))) (by rw [nIadd]; rfl) ?_
  refine hsl _ _ _ _ _ _ (i + 5) (by omega) dL_law_800 ?_
  refine r_aload_n g dL_law_801 rfl ?_
  refine r_iload g dL_law_802 rfl ?_
  refine r_bipush g 6 dL_law_804 (by decide) ?_
  refine r_iadd g dL_law_806 ?_
  refine r_nmV (.int (nI (i + 6))) (by rw [nIadd]; rfl) ?_
  refine hsl _ _ _ _ _ _ (i + 6) (by omega) dL_law_807 ?_
  refine r_callV (d' := d - 1) (st := []) (As := [.int (xs (i + 1)), .int (xs (i + 2)), .int (xs (i + 3)), .int (xs (i + 4)), .int (xs (i + 5)), .int (xs (i + 6))]) g sL_74 iX11_stop eX11_stop (show vwCl[10]? = some (RX11, TX11, 18) from rfl) (hc.1.1.1.s 0 14 18) rfl (Nat.le_of_ble_eq_true rfl) dL_law_808 (by omega) (by omega) (by omega) (c_stop (by omega) hc.1) (fun r μ1 hz => ?_)
  obtain ⟨hq, rfl⟩ := hz
  have hC := h.cls (Or.inl rfl) (hc.fr hq) hq.out
  refine r_aload_n g dL_law_811 rfl ?_
  refine r_aload_n g dL_law_812 rfl ?_
  refine r_iload g dL_law_813 rfl ?_
  refine r_iconst g 1 dL_law_815 (by decide) ?_
  refine r_iadd g dL_law_816 ?_
  refine r_nmV (.int (nI (i + 1))) (by rw [nIadd]; rfl) ?_
  refine hsl _ _ _ _ _ _ (i + 1) (by omega) dL_law_817 ?_
  refine r_aload_n g dL_law_818 rfl ?_
  refine r_iload g dL_law_819 rfl ?_
  refine r_iconst g 2 dL_law_821 (by decide) ?_
  refine r_iadd g dL_law_822 ?_
  refine r_nmV (.int (nI (i + 2))) (by rw [nIadd]; rfl) ?_
  refine hsl _ _ _ _ _ _ (i + 2) (by omega) dL_law_823 ?_
  refine r_aload_n g dL_law_824 rfl ?_
  refine r_iload g dL_law_825 rfl ?_
  refine r_iconst g 3 dL_law_827 (by decide) ?_
  refine r_iadd g dL_law_828 ?_
  refine r_nmV (.int (nI (i + 3))) (by rw [nIadd]; rfl) ?_
  refine hsl _ _ _ _ _ _ (i + 3) (by omega) dL_law_829 ?_
  refine r_aload_n g dL_law_830 rfl ?_
  refine r_iload g dL_law_831 rfl ?_
  refine r_iconst g 4 dL_law_833 (by decide) ?_
  refine r_iadd g dL_law_834 ?_
  refine r_nmV (.int (nI (i + 4))) (by rw [nIadd]; rfl) ?_
  refine hsl _ _ _ _ _ _ (i + 4) (by omega) dL_law_835 ?_
  refine r_aload_n g dL_law_836 rfl ?_
  refine r_iload g dL_law_837 rfl ?_
  refine r_iconst g 5 dL_law_839 (by decide) ?_
  refine r_iadd g dL_law_840 ?_
  refine r_nmV (.int (nI (i + 5))) (by rw [nIadd]; rfl) ?_
  refine hsl _ _ _ _ _ _ (i + 5) (by omega) dL_law_841 ?_
  refine r_aload_n g dL_law_842 rfl ?_
  refine r_iload g dL_law_843 rfl ?_
  refine r_bipush g 6 dL_law_845 (by decide) ?_
  refine r_iadd g dL_law_847 ?_
  refine r_nmV (.int (nI (i + 6))) (by rw [nIadd]; rfl) ?_
  refine hsl _ _ _ _ _ _ (i + 6) (by omega) dL_law_848 ?_
  refine r_callV (d' := d - 1) (st := [.int _]) (As := [.int (xs (i + 1)), .int (xs (i + 2)), .int (xs (i + 3)), .int (xs (i + 4)), .int (xs (i + 5)), .int (xs (i + 6))]) g sL_78 iX12_stop eX12_stop (show vwCl[11]? = some (RX12, TX12, 65) from rfl) hC.2.1.1.1.1.1 rfl (Nat.le_of_ble_eq_true rfl) dL_law_849 (by omega) (by omega) (by omega) (m_stop (by omega) hC.2.1.1 ) (fun r μ2 hz => ?_)
  obtain ⟨hq2, rfl⟩ := hz
  have hN := LI.mdl hC (hC.2.1.fr hq2) hq2.out hok
  exact r_icmp_eq g 2363 dL_law_852 (by decide) (fun _ => nx _ _ _ hN) (fun c => absurd rfl c)
theorem L_case_12 (g : xCtx RL cL_law 7 d mc ms yn ro J) (hd : 40 ≤ d) (hsl : SL J b0 Ls xs) (hi : i + 7 ≤ Ls) (hk : k + 448 ≤ mc) (hn : n + 5600 ≤ ms) (h : LI x m w A X S μ) (nx : ∀ A' S' μ', LI x m w A' X S' μ' → J μ' (k + 448) (n + 5600) 2363 [(4, .int (nI i)), (3, .ref w), (2, .ref m), (1, .ref x), (0, .ref b0)] []) : J μ k n 857 [(4, .int (nI i)), (3, .ref w), (2, .ref m), (1, .ref x), (0, .ref b0)] [] := by
  obtain ⟨⟨rfl, hc⟩, hm, hok, hw, ⟨b, N, l, hsb, hbX⟩, hap⟩ := id h
  refine r_aload_n g dL_law_857 rfl ?_
  refine r_aload_n g dL_law_858 rfl ?_
  refine r_iload g dL_law_859 rfl ?_
  refine r_iconst g 1 dL_law_861 (by decide) ?_
  refine r_iadd g dL_law_862 ?_
  refine r_nmV (.int (nI (i + 1))) (by rw [nIadd]; rfl) ?_
  refine hsl _ _ _ _ _ _ (i + 1) (by omega) dL_law_863 ?_
  refine r_aload_n g dL_law_864 rfl ?_
  refine r_iload g dL_law_865 rfl ?_
  refine r_iconst g 2 dL_law_867 (by decide) ?_
  refine r_iadd g dL_law_868 ?_
  refine r_nmV (.int (nI (i + 2))) (by rw [nIadd]; rfl) ?_
  refine hsl _ _ _ _ _ _ (i + 2) (by omega) dL_law_869 ?_
  refine r_aload_n g dL_law_870 rfl ?_
  refine r_iload g dL_law_871 rfl ?_
  refine r_iconst g 3 dL_law_873 (by decide) ?_
  refine r_iadd g dL_law_874 ?_
  refine r_nmV (.int (nI (i + 3))) (by rw [nIadd]; rfl) ?_
  refine hsl _ _ _ _ _ _ (i + 3) (by omega) dL_law_875 ?_
  refine r_aload_n g dL_law_876 rfl ?_
  refine r_iload g dL_law_877 rfl ?_
  refine r_iconst g 4 dL_law_879 (by decide) ?_
  refine r_iadd g dL_law_880 ?_
  refine r_nmV (.int (nI (i + 4))) (by rw [nIadd]; rfl) ?_
  refine hsl _ _ _ _ _ _ (i + 4) (by omega) dL_law_881 ?_
  refine r_aload_n g dL_law_882 rfl ?_
  refine r_iload g dL_law_883 rfl ?_
  refine r_iconst g 5 dL_law_885 (by decide) ?_
  refine r_iadd g dL_law_886 ?_
  refine r_nmV (.int (nI (i + 5))) (by rw [nIadd]; rfl) ?_
  refine hsl _ _ _ _ _ _ (i + 5) (by omega) dL_law_887 ?_
  refine r_callV (d' := d - 1) (st := []) (As := [.int (xs (i + 1)), .int (xs (i + 2)), .int (xs (i + 3)), .int (xs (i + 4)), .int (xs (i + 5))]) g sL_79 iX11_spell eX11_spell (show vwCl[10]? = some (RX11, TX11, 18) from rfl) (hc.1.1.1.s 0 14 18) rfl (Nat.le_of_ble_eq_true rfl) dL_law_888 (by omega) (by omega) (by omega) (c_spell (by omega) hc hsb) (fun r μ1 hz => ?_)
  obtain ⟨rfl, hc1, b1, N1, l1, hsb1, hsp⟩ := hz
  have hC := h.spl hsb hbX hc1 hsb1 hsp
  refine r_aload_n g dL_law_891 rfl ?_
  refine r_aload_n g dL_law_892 rfl ?_
  refine r_iload g dL_law_893 rfl ?_
  refine r_iconst g 1 dL_law_895 (by decide) ?_
  refine r_iadd g dL_law_896 ?_
  refine r_nmV (.int (nI (i + 1))) (by rw [nIadd]; rfl) ?_
  refine hsl _ _ _ _ _ _ (i + 1) (by omega) dL_law_897 ?_
  refine r_aload_n g dL_law_898 rfl ?_
  refine r_iload g dL_law_899 rfl ?_
  refine r_iconst g 2 dL_law_901 (by decide) ?_
  refine r_iadd g dL_law_902 ?_
  refine r_nmV (.int (nI (i + 2))) (by rw [nIadd]; rfl) ?_
  refine hsl _ _ _ _ _ _ (i + 2) (by omega) dL_law_903 ?_
  refine r_aload_n g dL_law_904 rfl ?_
  refine r_iload g dL_law_905 rfl ?_
  refine r_iconst g 3 dL_law_907 (by decide) ?_
  refine r_iadd g dL_law_908 ?_
  refine r_nmV (.int (nI (i + 3))) (by rw [nIadd]; rfl) ?_
  refine hsl _ _ _ _ _ _ (i + 3) (by omega) dL_law_909 ?_
  refine r_aload_n g dL_law_910 rfl ?_
  refine r_iload g dL_law_911 rfl ?_
  refine r_iconst g 4 dL_law_913 (by decide) ?_
  refine r_iadd g dL_law_914 ?_
  refine r_nmV (.int (nI (i + 4))) (by rw [nIadd]; rfl) ?_
  refine hsl _ _ _ _ _ _ (i + 4) (by omega) dL_law_915 ?_
  refine r_aload_n g dL_law_916 rfl ?_
  refine r_iload g dL_law_917 rfl ?_
  refine r_iconst g 5 dL_law_919 (by decide) ?_
  refine r_iadd g dL_law_920 ?_
  refine r_nmV (.int (nI (i + 5))) (by rw [nIadd]; rfl) ?_
  refine hsl _ _ _ _ _ _ (i + 5) (by omega) dL_law_921 ?_
  refine r_callV (d' := d - 1) (st := [.int _]) (As := [.int (xs (i + 1)), .int (xs (i + 2)), .int (xs (i + 3)), .int (xs (i + 4)), .int (xs (i + 5))]) g sL_82 iX12_spell eX12_spell (show vwCl[11]? = some (RX12, TX12, 65) from rfl) hC.2.1.1.1.1.1 rfl (Nat.le_of_ble_eq_true rfl) dL_law_922 (by omega) (by omega) (by omega) (m_spell (by omega) hC.2.1 hok) (fun r μ2 hz => ?_)
  obtain ⟨hq2, rfl⟩ := hz
  have hN := LI.mdl hC (hC.2.1.fr hq2) hq2.out hok
  exact r_icmp_eq g 2363 dL_law_925 (by decide) (fun _ => nx _ _ _ hN) (fun c => absurd rfl c)
theorem L_case_13 (g : xCtx RL cL_law 7 d mc ms yn ro J) (hd : 40 ≤ d) (hsl : SL J b0 Ls xs) (hi : i + 7 ≤ Ls) (hk : k + 448 ≤ mc) (hn : n + 5600 ≤ ms) (h : LI x m w A X S μ) (nx : ∀ A' S' μ', LI x m w A' X S' μ' → J μ' k n 2363 [(4, .int (nI i)), (3, .ref w), (2, .ref m), (1, .ref x), (0, .ref b0)] []) : J μ k n 930 [(4, .int (nI i)), (3, .ref w), (2, .ref m), (1, .ref x), (0, .ref b0)] [] := by
  obtain ⟨⟨rfl, hc⟩, hm, hok, hw, ⟨b, N, l, hsb, hbX⟩, hap⟩ := id h
  refine r_aload_n g dL_law_930 rfl ?_
  refine r_aload_n g dL_law_931 rfl ?_
  refine r_iload g dL_law_932 rfl ?_
  refine r_iconst g 1 dL_law_934 (by decide) ?_
  refine r_iadd g dL_law_935 ?_
  refine r_nmV (.int (nI (i + 1))) (by rw [nIadd]; rfl) ?_
  refine hsl _ _ _ _ _ _ (i + 1) (by omega) dL_law_936 ?_
  refine r_aload_n g dL_law_937 rfl ?_
  refine r_iload g dL_law_938 rfl ?_
  refine r_iconst g 2 dL_law_940 (by decide) ?_
  refine r_iadd g dL_law_941 ?_
  refine r_nmV (.int (nI (i + 2))) (by rw [nIadd]; rfl) ?_
  refine hsl _ _ _ _ _ _ (i + 2) (by omega) dL_law_942 ?_
  refine r_aload_n g dL_law_943 rfl ?_
  refine r_iload g dL_law_944 rfl ?_
  refine r_iconst g 3 dL_law_946 (by decide) ?_
  refine r_iadd g dL_law_947 ?_
  refine r_nmV (.int (nI (i + 3))) (by rw [nIadd]; rfl) ?_
  refine hsl _ _ _ _ _ _ (i + 3) (by omega) dL_law_948 ?_
  refine r_aload_n g dL_law_949 rfl ?_
  refine r_iload g dL_law_950 rfl ?_
  refine r_iconst g 4 dL_law_952 (by decide) ?_
  refine r_iadd g dL_law_953 ?_
  refine r_nmV (.int (nI (i + 4))) (by rw [nIadd]; rfl) ?_
  refine hsl _ _ _ _ _ _ (i + 4) (by omega) dL_law_954 ?_
  refine r_callV (d' := d - 1) (st := []) (As := [.int (xs (i + 1)), .int (xs (i + 2)), .int (xs (i + 3)), .int (xs (i + 4))]) g sL_83 iX11_pay eX11_pay (show vwCl[10]? = some (RX11, TX11, 18) from rfl) (hc.1.1.1.s 0 14 18) rfl (Nat.le_of_ble_eq_true rfl) dL_law_955 (by omega) (by omega) (by omega) (c_pay (by omega) hc) (fun r μ1 hz => ?_)
  obtain ⟨rfl, hc1, hg⟩ := hz
  have hC := h.cls (Or.inl rfl) hc1 hg.out
  refine r_aload_n g dL_law_958 rfl ?_
  refine r_aload_n g dL_law_959 rfl ?_
  refine r_iload g dL_law_960 rfl ?_
  refine r_iconst g 1 dL_law_962 (by decide) ?_
  refine r_iadd g dL_law_963 ?_
  refine r_nmV (.int (nI (i + 1))) (by rw [nIadd]; rfl) ?_
  refine hsl _ _ _ _ _ _ (i + 1) (by omega) dL_law_964 ?_
  refine r_aload_n g dL_law_965 rfl ?_
  refine r_iload g dL_law_966 rfl ?_
  refine r_iconst g 2 dL_law_968 (by decide) ?_
  refine r_iadd g dL_law_969 ?_
  refine r_nmV (.int (nI (i + 2))) (by rw [nIadd]; rfl) ?_
  refine hsl _ _ _ _ _ _ (i + 2) (by omega) dL_law_970 ?_
  refine r_aload_n g dL_law_971 rfl ?_
  refine r_iload g dL_law_972 rfl ?_
  refine r_iconst g 3 dL_law_974 (by decide) ?_
  refine r_iadd g dL_law_975 ?_
  refine r_nmV (.int (nI (i + 3))) (by rw [nIadd]; rfl) ?_
  refine hsl _ _ _ _ _ _ (i + 3) (by omega) dL_law_976 ?_
  refine r_aload_n g dL_law_977 rfl ?_
  refine r_iload g dL_law_978 rfl ?_
  refine r_iconst g 4 dL_law_980 (by decide) ?_
  refine r_iadd g dL_law_981 ?_
  refine r_nmV (.int (nI (i + 4))) (by rw [nIadd]; rfl) ?_
  refine hsl _ _ _ _ _ _ (i + 4) (by omega) dL_law_982 ?_
  refine r_callV (d' := d - 1) (st := [.int _]) (As := [.int (xs (i + 1)), .int (xs (i + 2)), .int (xs (i + 3)), .int (xs (i + 4))]) g sL_86 iX12_pay eX12_pay (show vwCl[11]? = some (RX12, TX12, 65) from rfl) hC.2.1.1.1.1.1 rfl (Nat.le_of_ble_eq_true rfl) dL_law_983 (by omega) (by omega) (by omega) (m_pay (by omega) hC.2.1 hok) (fun r μ2 hz => ?_)
  obtain ⟨rfl, hm2, ho2⟩ := hz
  have hN := LI.mdl hC hm2 ho2 hC.1.2.ok
  exact r_icmp_eq g 2363 dL_law_986 (by decide) (fun _ => nx _ _ _ hN) (fun c => absurd rfl c)
theorem L_case_14 (g : xCtx RL cL_law 7 d mc ms yn ro J) (hd : 40 ≤ d) (hsl : SL J b0 Ls xs) (hi : i + 7 ≤ Ls) (hk : k + 448 ≤ mc) (hn : n + 5600 ≤ ms) (h : LI x m w A X S μ) (nx : ∀ A' S' μ', LI x m w A' X S' μ' → J μ' k n 2363 [(4, .int (nI i)), (3, .ref w), (2, .ref m), (1, .ref x), (0, .ref b0)] []) : J μ k n 991 [(4, .int (nI i)), (3, .ref w), (2, .ref m), (1, .ref x), (0, .ref b0)] [] := by
  obtain ⟨⟨rfl, hc⟩, hm, hok, hw, ⟨b, N, l, hsb, hbX⟩, hap⟩ := id h
  refine r_aload_n g dL_law_991 rfl ?_
  refine r_aload_n g dL_law_992 rfl ?_
  refine r_iload g dL_law_993 rfl ?_
  refine r_iconst g 1 dL_law_995 (by decide) ?_
  refine r_iadd g dL_law_996 ?_
  refine r_nmV (.int (nI (i + 1))) (by rw [nIadd]; rfl) ?_
  refine hsl _ _ _ _ _ _ (i + 1) (by omega) dL_law_997 ?_
  refine r_callV (d' := d - 1) (st := []) (As := [.int (xs (i + 1))]) g sL_87 iX11_pass eX11_pass (show vwCl[10]? = some (RX11, TX11, 18) from rfl) (hc.1.1.1.s 0 14 18) rfl (Nat.le_of_ble_eq_true rfl) dL_law_998 (by omega) (by omega) (by omega) (c_pass (by omega) hc) (fun r μ1 hz => ?_)
  obtain ⟨rfl, hc1, hg⟩ := hz
  have hC := h.cls (Or.inl rfl) hc1 hg.out
  refine r_aload_n g dL_law_1001 rfl ?_
  refine r_aload_n g dL_law_1002 rfl ?_
  refine r_iload g dL_law_1003 rfl ?_
  refine r_iconst g 1 dL_law_1005 (by decide) ?_
  refine r_iadd g dL_law_1006 ?_
  refine r_nmV (.int (nI (i + 1))) (by rw [nIadd]; rfl) ?_
  refine hsl _ _ _ _ _ _ (i + 1) (by omega) dL_law_1007 ?_
  refine r_callV (d' := d - 1) (st := [.int _]) (As := [.int (xs (i + 1))]) g sL_90 iX12_pass eX12_pass (show vwCl[11]? = some (RX12, TX12, 65) from rfl) hC.2.1.1.1.1.1 rfl (Nat.le_of_ble_eq_true rfl) dL_law_1008 (by omega) (by omega) (by omega) (m_pass (by omega) hC.2.1 hok) (fun r μ2 hz => ?_)
  obtain ⟨rfl, hm2, ho2⟩ := hz
  have hN := LI.mdl hC hm2 ho2 hC.1.2.ok
  exact r_icmp_eq g 2363 dL_law_1011 (by decide) (fun _ => nx _ _ _ hN) (fun c => absurd rfl c)
theorem L_case_15 (g : xCtx RL cL_law 7 d mc ms yn ro J) (hd : 40 ≤ d) (hsl : SL J b0 Ls xs) (hi : i + 7 ≤ Ls) (hk : k + 448 ≤ mc) (hn : n + 5600 ≤ ms) (h : LI x m w A X S μ) (nx : ∀ A' S' μ', LI x m w A' X S' μ' → J μ' k n 2363 [(4, .int (nI i)), (3, .ref w), (2, .ref m), (1, .ref x), (0, .ref b0)] []) : J μ k n 1016 [(4, .int (nI i)), (3, .ref w), (2, .ref m), (1, .ref x), (0, .ref b0)] [] := by
  obtain ⟨⟨rfl, hc⟩, hm, hok, hw, ⟨b, N, l, hsb, hbX⟩, hap⟩ := id h
  refine r_aload_n g dL_law_1016 rfl ?_
  refine r_aload_n g dL_law_1017 rfl ?_
  refine r_iload g dL_law_1018 rfl ?_
  refine r_iconst g 1 dL_law_1020 (by decide) ?_
  refine r_iadd g dL_law_1021 ?_
  refine r_nmV (.int (nI (i + 1))) (by rw [nIadd]; rfl) ?_
  refine hsl _ _ _ _ _ _ (i + 1) (by omega) dL_law_1022 ?_
  refine r_aload_n g dL_law_1023 rfl ?_
  refine r_iload g dL_law_1024 rfl ?_
  refine r_iconst g 2 dL_law_1026 (by decide) ?_
  refine r_iadd g dL_law_1027 ?_
  refine r_nmV (.int (nI (i + 2))) (by rw [nIadd]; rfl) ?_
  refine hsl _ _ _ _ _ _ (i + 2) (by omega) dL_law_1028 ?_
  refine r_callV (d' := d - 1) (st := []) (As := [.int (xs (i + 1)), .int (xs (i + 2))]) g sL_91 iX11_staff eX11_staff (show vwCl[10]? = some (RX11, TX11, 18) from rfl) (hc.1.1.1.s 0 14 18) rfl (Nat.le_of_ble_eq_true rfl) dL_law_1029 (by omega) (by omega) (by omega) (c_staff (by omega) hc) (fun r μ1 hz => ?_)
  obtain ⟨rfl, hc1, hg⟩ := hz
  have hC := h.cls (Or.inl rfl) hc1 hg.out
  refine r_aload_n g dL_law_1032 rfl ?_
  refine r_aload_n g dL_law_1033 rfl ?_
  refine r_iload g dL_law_1034 rfl ?_
  refine r_iconst g 1 dL_law_1036 (by decide) ?_
  refine r_iadd g dL_law_1037 ?_
  refine r_nmV (.int (nI (i + 1))) (by rw [nIadd]; rfl) ?_
  refine hsl _ _ _ _ _ _ (i + 1) (by omega) dL_law_1038 ?_
  refine r_aload_n g dL_law_1039 rfl ?_
  refine r_iload g dL_law_1040 rfl ?_
  refine r_iconst g 2 dL_law_1042 (by decide) ?_
  refine r_iadd g dL_law_1043 ?_
  refine r_nmV (.int (nI (i + 2))) (by rw [nIadd]; rfl) ?_
  refine hsl _ _ _ _ _ _ (i + 2) (by omega) dL_law_1044 ?_
  refine r_callV (d' := d - 1) (st := [.int _]) (As := [.int (xs (i + 1)), .int (xs (i + 2))]) g sL_94 iX12_staff eX12_staff (show vwCl[11]? = some (RX12, TX12, 65) from rfl) hC.2.1.1.1.1.1 rfl (Nat.le_of_ble_eq_true rfl) dL_law_1045 (by omega) (by omega) (by omega) (m_staff (by omega) hC.2.1 hok) (fun r μ2 hz => ?_)
  obtain ⟨rfl, hm2, ho2⟩ := hz
  have hN := LI.mdl hC hm2 ho2 hC.1.2.ok
  exact r_icmp_eq g 2363 dL_law_1048 (by decide) (fun _ => nx _ _ _ hN) (fun c => absurd rfl c)
theorem L_case_16 (g : xCtx RL cL_law 7 d mc ms yn ro J) (hd : 40 ≤ d) (hsl : SL J b0 Ls xs) (hi : i + 7 ≤ Ls) (hk : k + 448 ≤ mc) (hn : n + 5600 ≤ ms) (h : LI x m w A X S μ) (nx : ∀ A' S' μ', LI x m w A' X S' μ' → J μ' k n 2363 [(4, .int (nI i)), (3, .ref w), (2, .ref m), (1, .ref x), (0, .ref b0)] []) : J μ k n 1053 [(4, .int (nI i)), (3, .ref w), (2, .ref m), (1, .ref x), (0, .ref b0)] [] := by
  obtain ⟨⟨rfl, hc⟩, hm, hok, hw, ⟨b, N, l, hsb, hbX⟩, hap⟩ := id h
  refine r_aload_n g dL_law_1053 rfl ?_
  refine r_aload_n g dL_law_1054 rfl ?_
  refine r_iload g dL_law_1055 rfl ?_
  refine r_iconst g 1 dL_law_1057 (by decide) ?_
  refine r_iadd g dL_law_1058 ?_
  refine r_nmV (.int (nI (i + 1))) (by rw [nIadd]; rfl) ?_
  refine hsl _ _ _ _ _ _ (i + 1) (by omega) dL_law_1059 ?_
  refine r_aload_n g dL_law_1060 rfl ?_
  refine r_iload g dL_law_1061 rfl ?_
  refine r_iconst g 2 dL_law_1063 (by decide) ?_
  refine r_iadd g dL_law_1064 ?_
  refine r_nmV (.int (nI (i + 2))) (by rw [nIadd]; rfl) ?_
  refine hsl _ _ _ _ _ _ (i + 2) (by omega) dL_law_1065 ?_
  refine r_aload_n g dL_law_1066 rfl ?_
  refine r_iload g dL_law_1067 rfl ?_
  refine r_iconst g 3 dL_law_1069 (by decide) ?_
  refine r_iadd g dL_law_1070 ?_
  refine r_nmV (.int (nI (i + 3))) (by rw [nIadd]; rfl) ?_
  refine hsl _ _ _ _ _ _ (i + 3) (by omega) dL_law_1071 ?_
  refine r_callV (d' := d - 1) (st := []) (As := [.int (xs (i + 1)), .int (xs (i + 2)), .int (xs (i + 3))]) g sL_95 iX11_own eX11_own (show vwCl[10]? = some (RX11, TX11, 18) from rfl) (hc.1.1.1.s 0 14 18) rfl (Nat.le_of_ble_eq_true rfl) dL_law_1072 (by omega) (by omega) (by omega) (c_own (by omega) hc) (fun r μ1 hz => ?_)
  obtain ⟨rfl, hc1, hg⟩ := hz
  have hC := h.cls (Or.inl rfl) hc1 hg.out
  refine r_aload_n g dL_law_1075 rfl ?_
  refine r_aload_n g dL_law_1076 rfl ?_
  refine r_iload g dL_law_1077 rfl ?_
  refine r_iconst g 1 dL_law_1079 (by decide) ?_
  refine r_iadd g dL_law_1080 ?_
  refine r_nmV (.int (nI (i + 1))) (by rw [nIadd]; rfl) ?_
  refine hsl _ _ _ _ _ _ (i + 1) (by omega) dL_law_1081 ?_
  refine r_aload_n g dL_law_1082 rfl ?_
  refine r_iload g dL_law_1083 rfl ?_
  refine r_iconst g 2 dL_law_1085 (by decide) ?_
  refine r_iadd g dL_law_1086 ?_
  refine r_nmV (.int (nI (i + 2))) (by rw [nIadd]; rfl) ?_
  refine hsl _ _ _ _ _ _ (i + 2) (by omega) dL_law_1087 ?_
  refine r_aload_n g dL_law_1088 rfl ?_
  refine r_iload g dL_law_1089 rfl ?_
  refine r_iconst g 3 dL_law_1091 (by decide) ?_
  refine r_iadd g dL_law_1092 ?_
  refine r_nmV (.int (nI (i + 3))) (by rw [nIadd]; rfl) ?_
  refine hsl _ _ _ _ _ _ (i + 3) (by omega) dL_law_1093 ?_
  refine r_callV (d' := d - 1) (st := [.int _]) (As := [.int (xs (i + 1)), .int (xs (i + 2)), .int (xs (i + 3))]) g sL_98 iX12_own eX12_own (show vwCl[11]? = some (RX12, TX12, 65) from rfl) hC.2.1.1.1.1.1 rfl (Nat.le_of_ble_eq_true rfl) dL_law_1094 (by omega) (by omega) (by omega) (m_own (by omega) hC.2.1 hok) (fun r μ2 hz => ?_)
  obtain ⟨rfl, hm2, ho2⟩ := hz
  have hN := LI.mdl hC hm2 ho2 hC.1.2.ok
  exact r_icmp_eq g 2363 dL_law_1097 (by decide) (fun _ => nx _ _ _ hN) (fun c => absurd rfl c)
theorem L_case_17 (g : xCtx RL cL_law 7 d mc ms yn ro J) (hd : 40 ≤ d) (hsl : SL J b0 Ls xs) (hi : i + 7 ≤ Ls) (hk : k + 448 ≤ mc) (hn : n + 5600 ≤ ms) (h : LI x m w A X S μ) (nx : ∀ A' S' μ', LI x m w A' X S' μ' → J μ' k n 2363 [(4, .int (nI i)), (3, .ref w), (2, .ref m), (1, .ref x), (0, .ref b0)] []) : J μ k n 1102 [(4, .int (nI i)), (3, .ref w), (2, .ref m), (1, .ref x), (0, .ref b0)] [] := by
  obtain ⟨⟨rfl, hc⟩, hm, hok, hw, ⟨b, N, l, hsb, hbX⟩, hap⟩ := id h
  refine r_aload_n g dL_law_1102 rfl ?_
  refine r_aload_n g dL_law_1103 rfl ?_
  refine r_iload g dL_law_1104 rfl ?_
  refine r_iconst g 1 dL_law_1106 (by decide) ?_
  refine r_iadd g dL_law_1107 ?_
  refine r_nmV (.int (nI (i + 1))) (by rw [nIadd]; rfl) ?_
  refine hsl _ _ _ _ _ _ (i + 1) (by omega) dL_law_1108 ?_
  refine r_aload_n g dL_law_1109 rfl ?_
  refine r_iload g dL_law_1110 rfl ?_
  refine r_iconst g 2 dL_law_1112 (by decide) ?_
  refine r_iadd g dL_law_1113 ?_
  refine r_nmV (.int (nI (i + 2))) (by rw [nIadd]; rfl) ?_
  refine hsl _ _ _ _ _ _ (i + 2) (by omega) dL_law_1114 ?_
  refine r_callV (d' := d - 1) (st := []) (As := [.int (xs (i + 1)), .int (xs (i + 2))]) g sL_99 iX11_lend eX11_lend (show vwCl[10]? = some (RX11, TX11, 18) from rfl) (hc.1.1.1.s 0 14 18) rfl (Nat.le_of_ble_eq_true rfl) dL_law_1115 (by omega) (by omega) (by omega) (c_lend (by omega) hc) (fun r μ1 hz => ?_)
  obtain ⟨rfl, hc1, hg⟩ := hz
  have hC := h.cls (Or.inl rfl) hc1 hg.out
  refine r_aload_n g dL_law_1118 rfl ?_
  refine r_aload_n g dL_law_1119 rfl ?_
  refine r_iload g dL_law_1120 rfl ?_
  refine r_iconst g 1 dL_law_1122 (by decide) ?_
  refine r_iadd g dL_law_1123 ?_
  refine r_nmV (.int (nI (i + 1))) (by rw [nIadd]; rfl) ?_
  refine hsl _ _ _ _ _ _ (i + 1) (by omega) dL_law_1124 ?_
  refine r_aload_n g dL_law_1125 rfl ?_
  refine r_iload g dL_law_1126 rfl ?_
  refine r_iconst g 2 dL_law_1128 (by decide) ?_
  refine r_iadd g dL_law_1129 ?_
  refine r_nmV (.int (nI (i + 2))) (by rw [nIadd]; rfl) ?_
  refine hsl _ _ _ _ _ _ (i + 2) (by omega) dL_law_1130 ?_
  refine r_callV (d' := d - 1) (st := [.int _]) (As := [.int (xs (i + 1)), .int (xs (i + 2))]) g sL_102 iX12_lend eX12_lend (show vwCl[11]? = some (RX12, TX12, 65) from rfl) hC.2.1.1.1.1.1 rfl (Nat.le_of_ble_eq_true rfl) dL_law_1131 (by omega) (by omega) (by omega) (m_lend (by omega) hC.2.1 hok) (fun r μ2 hz => ?_)
  obtain ⟨rfl, hm2, ho2⟩ := hz
  have hN := LI.mdl hC hm2 ho2 hC.1.2.ok
  exact r_icmp_eq g 2363 dL_law_1134 (by decide) (fun _ => nx _ _ _ hN) (fun c => absurd rfl c)
theorem L_case_18 (g : xCtx RL cL_law 7 d mc ms yn ro J) (hd : 40 ≤ d) (hsl : SL J b0 Ls xs) (hi : i + 7 ≤ Ls) (hk : k + 448 ≤ mc) (hn : n + 5600 ≤ ms) (h : LI x m w A X S μ) (nx : ∀ A' S' μ', LI x m w A' X S' μ' → J μ' k n 2363 [(4, .int (nI i)), (3, .ref w), (2, .ref m), (1, .ref x), (0, .ref b0)] []) : J μ k n 1139 [(4, .int (nI i)), (3, .ref w), (2, .ref m), (1, .ref x), (0, .ref b0)] [] := by
  obtain ⟨⟨rfl, hc⟩, hm, hok, hw, ⟨b, N, l, hsb, hbX⟩, hap⟩ := id h
  refine r_aload_n g dL_law_1139 rfl ?_
  refine r_aload_n g dL_law_1140 rfl ?_
  refine r_iload g dL_law_1141 rfl ?_
  refine r_iconst g 1 dL_law_1143 (by decide) ?_
  refine r_iadd g dL_law_1144 ?_
  refine r_nmV (.int (nI (i + 1))) (by rw [nIadd]; rfl) ?_
  refine hsl _ _ _ _ _ _ (i + 1) (by omega) dL_law_1145 ?_
  refine r_aload_n g dL_law_1146 rfl ?_
  refine r_iload g dL_law_1147 rfl ?_
  refine r_iconst g 2 dL_law_1149 (by decide) ?_
  refine r_iadd g dL_law_1150 ?_
  refine r_nmV (.int (nI (i + 2))) (by rw [nIadd]; rfl) ?_
  refine hsl _ _ _ _ _ _ (i + 2) (by omega) dL_law_1151 ?_
  refine r_i2l g dL_law_1152 ?_
  refine r_bipush g 32 dL_law_1153 (by decide) ?_
  refine r_lshl g dL_law_1155 ?_
  refine r_aload_n g dL_law_1156 rfl ?_
  refine r_iload g dL_law_1157 rfl ?_
  refine r_iconst g 3 dL_law_1159 (by decide) ?_
  refine r_iadd g dL_law_1160 ?_
  refine r_nmV (.int (nI (i + 3))) (by rw [nIadd]; rfl) ?_
  refine hsl _ _ _ _ _ _ (i + 3) (by omega) dL_law_1161 ?_
  refine r_i2l g dL_law_1162 ?_
  refine r_ldc2 g 4294967295 kL_103 dL_law_1163 ?_
  refine r_land g dL_law_1166 ?_
  refine r_lor g dL_law_1167 ?_
  refine r_callV (d' := d - 1) (st := []) (As := [.int (xs (i + 1)), .long ((((xs (i + 2))).toInt64 <<< ((32 : Int32).toInt64 &&& 63)) ||| (((xs (i + 3))).toInt64 &&& 4294967295))]) g sL_105 iX11_years eX11_years (show vwCl[10]? = some (RX11, TX11, 18) from rfl) (hc.1.1.1.s 0 14 18) rfl (Nat.le_of_ble_eq_true rfl) dL_law_1168 (by omega) (by omega) (by omega) (c_years (by omega) hc) (fun r μ1 hz => ?_)
  obtain ⟨rfl, hc1, ho⟩ := hz
  have hC := h.cls (Or.inl rfl) hc1 ho
  refine r_aload_n g dL_law_1171 rfl ?_
  refine r_aload_n g dL_law_1172 rfl ?_
  refine r_iload g dL_law_1173 rfl ?_
  refine r_iconst g 1 dL_law_1175 (by decide) ?_
  refine r_iadd g dL_law_1176 ?_
  refine r_nmV (.int (nI (i + 1))) (by rw [nIadd]; rfl) ?_
  refine hsl _ _ _ _ _ _ (i + 1) (by omega) dL_law_1177 ?_
  refine r_aload_n g dL_law_1178 rfl ?_
  refine r_iload g dL_law_1179 rfl ?_
  refine r_iconst g 2 dL_law_1181 (by decide) ?_
  refine r_iadd g dL_law_1182 ?_
  refine r_nmV (.int (nI (i + 2))) (by rw [nIadd]; rfl) ?_
  refine hsl _ _ _ _ _ _ (i + 2) (by omega) dL_law_1183 ?_
  refine r_i2l g dL_law_1184 ?_
  refine r_bipush g 32 dL_law_1185 (by decide) ?_
  refine r_lshl g dL_law_1187 ?_
  refine r_aload_n g dL_law_1188 rfl ?_
  refine r_iload g dL_law_1189 rfl ?_
  refine r_iconst g 3 dL_law_1191 (by decide) ?_
  refine r_iadd g dL_law_1192 ?_
  refine r_nmV (.int (nI (i + 3))) (by rw [nIadd]; rfl) ?_
  refine hsl _ _ _ _ _ _ (i + 3) (by omega) dL_law_1193 ?_
  refine r_i2l g dL_law_1194 ?_
  refine r_ldc2 g 4294967295 kL_103 dL_law_1195 ?_
  refine r_land g dL_law_1198 ?_
  refine r_lor g dL_law_1199 ?_
  refine r_callV (d' := d - 1) (st := [.int _]) (As := [.int (xs (i + 1)), .long ((((xs (i + 2))).toInt64 <<< ((32 : Int32).toInt64 &&& 63)) ||| (((xs (i + 3))).toInt64 &&& 4294967295))]) g sL_109 iX12_years eX12_years (show vwCl[11]? = some (RX12, TX12, 65) from rfl) hC.2.1.1.1.1.1 rfl (Nat.le_of_ble_eq_true rfl) dL_law_1200 (by omega) (by omega) (by omega) (m_years (by omega) hC.2.1 hok) (fun r μ2 hz => ?_)
  obtain ⟨rfl, hm2, ho2⟩ := hz
  have hN := LI.mdl hC hm2 ho2 hC.1.2.ok
  exact r_icmp_eq g 2363 dL_law_1203 (by decide) (fun _ => nx _ _ _ hN) (fun c => absurd rfl c)
theorem L_case_19 (g : xCtx RL cL_law 7 d mc ms yn ro J) (hd : 40 ≤ d) (hsl : SL J b0 Ls xs) (hi : i + 7 ≤ Ls) (hk : k + 448 ≤ mc) (hn : n + 5600 ≤ ms) (h : LI x m w A X S μ) (nx : ∀ A' S' μ', LI x m w A' X S' μ' → J μ' k n 2363 [(4, .int (nI i)), (3, .ref w), (2, .ref m), (1, .ref x), (0, .ref b0)] []) : J μ k n 1208 [(4, .int (nI i)), (3, .ref w), (2, .ref m), (1, .ref x), (0, .ref b0)] [] := by
  obtain ⟨⟨rfl, hc⟩, hm, hok, hw, ⟨b, N, l, hsb, hbX⟩, hap⟩ := id h
  refine r_aload_n g dL_law_1208 rfl ?_
  refine r_aload_n g dL_law_1209 rfl ?_
  refine r_iload g dL_law_1210 rfl ?_
  refine r_iconst g 1 dL_law_1212 (by decide) ?_
  refine r_iadd g dL_law_1213 ?_
  refine r_nmV (.int (nI (i + 1))) (by rw [nIadd]; rfl) ?_
  refine hsl _ _ _ _ _ _ (i + 1) (by omega) dL_law_1214 ?_
  refine r_callV (d' := d - 1) (st := []) (As := [.int (xs (i + 1))]) g sL_110 iX11_status eX11_status (show vwCl[10]? = some (RX11, TX11, 18) from rfl) (hc.1.1.1.s 0 14 18) rfl (Nat.le_of_ble_eq_true rfl) dL_law_1215 (by omega) (by omega) (by omega) (c_status  hc) (fun r μ1 hz => ?_)
  obtain ⟨hq, rfl⟩ := hz
  have hC := h.cls (Or.inl rfl) (hc.fr hq) hq.out
  refine r_aload_n g dL_law_1218 rfl ?_
  refine r_aload_n g dL_law_1219 rfl ?_
  refine r_iload g dL_law_1220 rfl ?_
  refine r_iconst g 1 dL_law_1222 (by decide) ?_
  refine r_iadd g dL_law_1223 ?_
  refine r_nmV (.int (nI (i + 1))) (by rw [nIadd]; rfl) ?_
  refine hsl _ _ _ _ _ _ (i + 1) (by omega) dL_law_1224 ?_
  refine r_callV (d' := d - 1) (st := [.int _]) (As := [.int (xs (i + 1))]) g sL_113 iX12_status eX12_status (show vwCl[11]? = some (RX12, TX12, 65) from rfl) hC.2.1.1.1.1.1 rfl (Nat.le_of_ble_eq_true rfl) dL_law_1225 (by omega) (by omega) (by omega) (m_status (by omega) hC.2.1 ) (fun r μ2 hz => ?_)
  obtain ⟨hq2, rfl⟩ := hz
  have hN := LI.mdl hC (hC.2.1.fr hq2) hq2.out hok
  exact r_icmp_eq g 2363 dL_law_1228 (by decide) (fun _ => nx _ _ _ hN) (fun c => absurd rfl c)
theorem L_case_20 (g : xCtx RL cL_law 7 d mc ms yn ro J) (hd : 40 ≤ d) (hsl : SL J b0 Ls xs) (hi : i + 7 ≤ Ls) (hk : k + 448 ≤ mc) (hn : n + 5600 ≤ ms) (h : LI x m w A X S μ) (nx : ∀ A' S' μ', LI x m w A' X S' μ' → J μ' k n 2363 [(4, .int (nI i)), (3, .ref w), (2, .ref m), (1, .ref x), (0, .ref b0)] []) : J μ k n 1233 [(4, .int (nI i)), (3, .ref w), (2, .ref m), (1, .ref x), (0, .ref b0)] [] := by
  obtain ⟨⟨rfl, hc⟩, hm, hok, hw, ⟨b, N, l, hsb, hbX⟩, hap⟩ := id h
  refine r_aload_n g dL_law_1233 rfl ?_
  refine r_callV (d' := d - 1) (st := []) (As := []) g sL_114 iX11_undo eX11_undo (show vwCl[10]? = some (RX11, TX11, 18) from rfl) (hc.1.1.1.s 0 14 18) rfl (Nat.le_of_ble_eq_true rfl) dL_law_1234 (by omega) (by omega) (by omega) (c_undo (by omega) hc) (fun r μ1 hz => ?_)
  obtain ⟨rfl, hc1, hg⟩ := hz
  have hC := h.cls (Or.inl rfl) hc1 hg.out
  refine r_aload_n g dL_law_1237 rfl ?_
  refine r_callV (d' := d - 1) (st := [.int _]) (As := []) g sL_117 iX12_undo eX12_undo (show vwCl[11]? = some (RX12, TX12, 65) from rfl) hC.2.1.1.1.1.1 rfl (Nat.le_of_ble_eq_true rfl) dL_law_1238 (by omega) (by omega) (by omega) (m_undo (by omega) hC.2.1 hok) (fun r μ2 hz => ?_)
  obtain ⟨rfl, hm2, ho2⟩ := hz
  have hN := LI.mdl hC hm2 ho2 hC.1.2.ok
  exact r_icmp_eq g 2363 dL_law_1241 (by decide) (fun _ => nx _ _ _ hN) (fun c => absurd rfl c)
theorem L_case_21 (g : xCtx RL cL_law 7 d mc ms yn ro J) (hd : 40 ≤ d) (hsl : SL J b0 Ls xs) (hi : i + 7 ≤ Ls) (hk : k + 448 ≤ mc) (hn : n + 5600 ≤ ms) (h : LI x m w A X S μ) (nx : ∀ A' S' μ', LI x m w A' X S' μ' → J μ' k n 2363 [(4, .int (nI i)), (3, .ref w), (2, .ref m), (1, .ref x), (0, .ref b0)] []) : J μ k n 1246 [(4, .int (nI i)), (3, .ref w), (2, .ref m), (1, .ref x), (0, .ref b0)] [] := by
  obtain ⟨⟨rfl, hc⟩, hm, hok, hw, ⟨b, N, l, hsb, hbX⟩, hap⟩ := id h
  refine r_aload_n g dL_law_1246 rfl ?_
  refine r_aload_n g dL_law_1247 rfl ?_
  refine r_iload g dL_law_1248 rfl ?_
  refine r_iconst g 1 dL_law_1250 (by decide) ?_
  refine r_iadd g dL_law_1251 ?_
  refine r_nmV (.int (nI (i + 1))) (by rw [nIadd]; rfl) ?_
  refine hsl _ _ _ _ _ _ (i + 1) (by omega) dL_law_1252 ?_
  refine r_aload_n g dL_law_1253 rfl ?_
  refine r_iload g dL_law_1254 rfl ?_
  refine r_iconst g 2 dL_law_1256 (by decide) ?_
  refine r_iadd g dL_law_1257 ?_
  refine r_nmV (.int (nI (i + 2))) (by rw [nIadd]; rfl) ?_
  refine hsl _ _ _ _ _ _ (i + 2) (by omega) dL_law_1258 ?_
  refine r_callV (d' := d - 1) (st := []) (As := [.int (xs (i + 1)), .int (xs (i + 2))]) g sL_118 iX11_log eX11_log (show vwCl[10]? = some (RX11, TX11, 18) from rfl) (hc.1.1.1.s 0 14 18) rfl (Nat.le_of_ble_eq_true rfl) dL_law_1259 (by omega) (by omega) (by omega) (c_log (by omega) hc) (fun r μ1 hz => ?_)
  obtain ⟨hq, rfl⟩ := hz
  have hC := h.cls (Or.inl rfl) (hc.fr hq) hq.out
  refine r_aload_n g dL_law_1262 rfl ?_
  refine r_aload_n g dL_law_1263 rfl ?_
  refine r_iload g dL_law_1264 rfl ?_
  refine r_iconst g 1 dL_law_1266 (by decide) ?_
  refine r_iadd g dL_law_1267 ?_
  refine r_nmV (.int (nI (i + 1))) (by rw [nIadd]; rfl) ?_
  refine hsl _ _ _ _ _ _ (i + 1) (by omega) dL_law_1268 ?_
  refine r_aload_n g dL_law_1269 rfl ?_
  refine r_iload g dL_law_1270 rfl ?_
  refine r_iconst g 2 dL_law_1272 (by decide) ?_
  refine r_iadd g dL_law_1273 ?_
  refine r_nmV (.int (nI (i + 2))) (by rw [nIadd]; rfl) ?_
  refine hsl _ _ _ _ _ _ (i + 2) (by omega) dL_law_1274 ?_
  refine r_callV (d' := d - 1) (st := [.int _]) (As := [.int (xs (i + 1)), .int (xs (i + 2))]) g sL_121 iX12_log eX12_log (show vwCl[11]? = some (RX12, TX12, 65) from rfl) hC.2.1.1.1.1.1 rfl (Nat.le_of_ble_eq_true rfl) dL_law_1275 (by omega) (by omega) (by omega) (m_log (by omega) hC.2.1 ) (fun r μ2 hz => ?_)
  obtain ⟨hq2, rfl⟩ := hz
  have hN := LI.mdl hC (hC.2.1.fr hq2) hq2.out hok
  exact r_icmp_eq g 2363 dL_law_1278 (by decide) (fun _ => nx _ _ _ hN) (fun c => absurd rfl c)
theorem L_case_22 (g : xCtx RL cL_law 7 d mc ms yn ro J) (hd : 40 ≤ d) (hsl : SL J b0 Ls xs) (hi : i + 7 ≤ Ls) (hk : k + 448 ≤ mc) (hn : n + 5600 ≤ ms) (h : LI x m w A X S μ) (nx : ∀ A' S' μ', LI x m w A' X S' μ' → J μ' k n 2363 [(4, .int (nI i)), (3, .ref w), (2, .ref m), (1, .ref x), (0, .ref b0)] []) : J μ k n 1283 [(4, .int (nI i)), (3, .ref w), (2, .ref m), (1, .ref x), (0, .ref b0)] [] := by
  obtain ⟨⟨rfl, hc⟩, hm, hok, hw, ⟨b, N, l, hsb, hbX⟩, hap⟩ := id h
  refine r_aload_n g dL_law_1283 rfl ?_
  refine r_aload_n g dL_law_1284 rfl ?_
  refine r_iload g dL_law_1285 rfl ?_
  refine r_iconst g 1 dL_law_1287 (by decide) ?_
  refine r_iadd g dL_law_1288 ?_
  refine r_nmV (.int (nI (i + 1))) (by rw [nIadd]; rfl) ?_
  refine hsl _ _ _ _ _ _ (i + 1) (by omega) dL_law_1289 ?_
  refine r_aload_n g dL_law_1290 rfl ?_
  refine r_iload g dL_law_1291 rfl ?_
  refine r_iconst g 2 dL_law_1293 (by decide) ?_
  refine r_iadd g dL_law_1294 ?_
  refine r_nmV (.int (nI (i + 2))) (by rw [nIadd]; rfl) ?_
  refine hsl _ _ _ _ _ _ (i + 2) (by omega) dL_law_1295 ?_
  refine r_aload_n g dL_law_1296 rfl ?_
  refine r_iload g dL_law_1297 rfl ?_
  refine r_iconst g 3 dL_law_1299 (by decide) ?_
  refine r_iadd g dL_law_1300 ?_
  refine r_nmV (.int (nI (i + 3))) (by rw [nIadd]; rfl) ?_
  refine hsl _ _ _ _ _ _ (i + 3) (by omega) dL_law_1301 ?_
  refine r_aload_n g dL_law_1302 rfl ?_
  refine r_iload g dL_law_1303 rfl ?_
  refine r_iconst g 4 dL_law_1305 (by decide) ?_
  refine r_iadd g dL_law_1306 ?_
  refine r_nmV (.int (nI (i + 4))) (by rw [nIadd]; rfl) ?_
  refine hsl _ _ _ _ _ _ (i + 4) (by omega) dL_law_1307 ?_
  refine r_aload_n g dL_law_1308 rfl ?_
  refine r_iload g dL_law_1309 rfl ?_
  refine r_iconst g 5 dL_law_1311 (by decide) ?_
  refine r_iadd g dL_law_1312 ?_
  refine r_nmV (.int (nI (i + 5))) (by rw [nIadd]; rfl) ?_
  refine hsl _ _ _ _ _ _ (i + 5) (by omega) dL_law_1313 ?_
  refine r_aload_n g dL_law_1314 rfl ?_
  refine r_iload g dL_law_1315 rfl ?_
  refine r_bipush g 6 dL_law_1317 (by decide) ?_
  refine r_iadd g dL_law_1319 ?_
  refine r_nmV (.int (nI (i + 6))) (by rw [nIadd]; rfl) ?_
  refine hsl _ _ _ _ _ _ (i + 6) (by omega) dL_law_1320 ?_
  refine r_callV (d' := d - 1) (st := []) (As := [.int (xs (i + 1)), .int (xs (i + 2)), .int (xs (i + 3)), .int (xs (i + 4)), .int (xs (i + 5)), .int (xs (i + 6))]) g sL_122 iX11_asOf eX11_asOf (show vwCl[10]? = some (RX11, TX11, 18) from rfl) (hc.1.1.1.s 0 14 18) rfl (Nat.le_of_ble_eq_true rfl) dL_law_1321 (by omega) (by omega) (by omega) (c_asOf (by omega) hc.1) (fun r μ1 hz => ?_)
  obtain ⟨hq, rfl⟩ := hz
  have hC := h.cls (Or.inl rfl) (hc.fr hq) hq.out
  refine r_aload_n g dL_law_1324 rfl ?_
  refine r_aload_n g dL_law_1325 rfl ?_
  refine r_iload g dL_law_1326 rfl ?_
  refine r_iconst g 1 dL_law_1328 (by decide) ?_
  refine r_iadd g dL_law_1329 ?_
  refine r_nmV (.int (nI (i + 1))) (by rw [nIadd]; rfl) ?_
  refine hsl _ _ _ _ _ _ (i + 1) (by omega) dL_law_1330 ?_
  refine r_aload_n g dL_law_1331 rfl ?_
  refine r_iload g dL_law_1332 rfl ?_
  refine r_iconst g 2 dL_law_1334 (by decide) ?_
  refine r_iadd g dL_law_1335 ?_
  refine r_nmV (.int (nI (i + 2))) (by rw [nIadd]; rfl) ?_
  refine hsl _ _ _ _ _ _ (i + 2) (by omega) dL_law_1336 ?_
  refine r_aload_n g dL_law_1337 rfl ?_
  refine r_iload g dL_law_1338 rfl ?_
  refine r_iconst g 3 dL_law_1340 (by decide) ?_
  refine r_iadd g dL_law_1341 ?_
  refine r_nmV (.int (nI (i + 3))) (by rw [nIadd]; rfl) ?_
  refine hsl _ _ _ _ _ _ (i + 3) (by omega) dL_law_1342 ?_
  refine r_aload_n g dL_law_1343 rfl ?_
  refine r_iload g dL_law_1344 rfl ?_
  refine r_iconst g 4 dL_law_1346 (by decide) ?_
  refine r_iadd g dL_law_1347 ?_
  refine r_nmV (.int (nI (i + 4))) (by rw [nIadd]; rfl) ?_
  refine hsl _ _ _ _ _ _ (i + 4) (by omega) dL_law_1348 ?_
  refine r_aload_n g dL_law_1349 rfl ?_
  refine r_iload g dL_law_1350 rfl ?_
  refine r_iconst g 5 dL_law_1352 (by decide) ?_
  refine r_iadd g dL_law_1353 ?_
  refine r_nmV (.int (nI (i + 5))) (by rw [nIadd]; rfl) ?_
  refine hsl _ _ _ _ _ _ (i + 5) (by omega) dL_law_1354 ?_
  refine r_aload_n g dL_law_1355 rfl ?_
  refine r_iload g dL_law_1356 rfl ?_
  refine r_bipush g 6 dL_law_1358 (by decide) ?_
  refine r_iadd g dL_law_1360 ?_
  refine r_nmV (.int (nI (i + 6))) (by rw [nIadd]; rfl) ?_
  refine hsl _ _ _ _ _ _ (i + 6) (by omega) dL_law_1361 ?_
  refine r_callV (d' := d - 1) (st := [.int _]) (As := [.int (xs (i + 1)), .int (xs (i + 2)), .int (xs (i + 3)), .int (xs (i + 4)), .int (xs (i + 5)), .int (xs (i + 6))]) g sL_125 iX12_asOf eX12_asOf (show vwCl[11]? = some (RX12, TX12, 65) from rfl) hC.2.1.1.1.1.1 rfl (Nat.le_of_ble_eq_true rfl) dL_law_1362 (by omega) (by omega) (by omega) (m_asOf (by omega) hC.2.1.1 ) (fun r μ2 hz => ?_)
  obtain ⟨hq2, rfl⟩ := hz
  have hN := LI.mdl hC (hC.2.1.fr hq2) hq2.out hok
  exact r_icmp_eq g 2363 dL_law_1365 (by decide) (fun _ => nx _ _ _ hN) (fun c => absurd rfl c)
theorem L_case_23 (g : xCtx RL cL_law 7 d mc ms yn ro J) (hd : 40 ≤ d) (hsl : SL J b0 Ls xs) (hi : i + 7 ≤ Ls) (hk : k + 448 ≤ mc) (hn : n + 5600 ≤ ms) (h : LI x m w A X S μ) (nx : ∀ A' S' μ', LI x m w A' X S' μ' → J μ' k n 2363 [(4, .int (nI i)), (3, .ref w), (2, .ref m), (1, .ref x), (0, .ref b0)] []) : J μ k n 1370 [(4, .int (nI i)), (3, .ref w), (2, .ref m), (1, .ref x), (0, .ref b0)] [] := by
  obtain ⟨⟨rfl, hc⟩, hm, hok, hw, ⟨b, N, l, hsb, hbX⟩, hap⟩ := id h
  refine r_aload_n g dL_law_1370 rfl ?_
  refine r_aload_n g dL_law_1371 rfl ?_
  refine r_iload g dL_law_1372 rfl ?_
  refine r_iconst g 1 dL_law_1374 (by decide) ?_
  refine r_iadd g dL_law_1375 ?_
  refine r_nmV (.int (nI (i + 1))) (by rw [nIadd]; rfl) ?_
  refine hsl _ _ _ _ _ _ (i + 1) (by omega) dL_law_1376 ?_
  refine r_aload_n g dL_law_1377 rfl ?_
  refine r_iload g dL_law_1378 rfl ?_
  refine r_iconst g 2 dL_law_1380 (by decide) ?_
  refine r_iadd g dL_law_1381 ?_
  refine r_nmV (.int (nI (i + 2))) (by rw [nIadd]; rfl) ?_
  refine hsl _ _ _ _ _ _ (i + 2) (by omega) dL_law_1382 ?_
  refine r_aload_n g dL_law_1383 rfl ?_
  refine r_iload g dL_law_1384 rfl ?_
  refine r_iconst g 3 dL_law_1386 (by decide) ?_
  refine r_iadd g dL_law_1387 ?_
  refine r_nmV (.int (nI (i + 3))) (by rw [nIadd]; rfl) ?_
  refine hsl _ _ _ _ _ _ (i + 3) (by omega) dL_law_1388 ?_
  refine r_aload_n g dL_law_1389 rfl ?_
  refine r_iload g dL_law_1390 rfl ?_
  refine r_iconst g 4 dL_law_1392 (by decide) ?_
  refine r_iadd g dL_law_1393 ?_
  refine r_nmV (.int (nI (i + 4))) (by rw [nIadd]; rfl) ?_
  refine hsl _ _ _ _ _ _ (i + 4) (by omega) dL_law_1394 ?_
  refine r_aload_n g dL_law_1395 rfl ?_
  refine r_iload g dL_law_1396 rfl ?_
  refine r_iconst g 5 dL_law_1398 (by decide) ?_
  refine r_iadd g dL_law_1399 ?_
  refine r_nmV (.int (nI (i + 5))) (by rw [nIadd]; rfl) ?_
  refine hsl _ _ _ _ _ _ (i + 5) (by omega) dL_law_1400 ?_
  refine r_callV (d' := d - 1) (st := []) (As := [.int (xs (i + 1)), .int (xs (i + 2)), .int (xs (i + 3)), .int (xs (i + 4)), .int (xs (i + 5))]) g sL_126 iX11_hire eX11_hire (show vwCl[10]? = some (RX11, TX11, 18) from rfl) (hc.1.1.1.s 0 14 18) rfl (Nat.le_of_ble_eq_true rfl) dL_law_1401 (by omega) (by omega) (by omega) (c_hire (by omega) hc.1) (fun r μ1 hz => ?_)
  obtain ⟨hq, rfl⟩ := hz
  have hC := h.cls (Or.inl rfl) (hc.fr hq) hq.out
  refine r_aload_n g dL_law_1404 rfl ?_
  refine r_aload_n g dL_law_1405 rfl ?_
  refine r_iload g dL_law_1406 rfl ?_
  refine r_iconst g 1 dL_law_1408 (by decide) ?_
  refine r_iadd g dL_law_1409 ?_
  refine r_nmV (.int (nI (i + 1))) (by rw [nIadd]; rfl) ?_
  refine hsl _ _ _ _ _ _ (i + 1) (by omega) dL_law_1410 ?_
  refine r_aload_n g dL_law_1411 rfl ?_
  refine r_iload g dL_law_1412 rfl ?_
  refine r_iconst g 2 dL_law_1414 (by decide) ?_
  refine r_iadd g dL_law_1415 ?_
  refine r_nmV (.int (nI (i + 2))) (by rw [nIadd]; rfl) ?_
  refine hsl _ _ _ _ _ _ (i + 2) (by omega) dL_law_1416 ?_
  refine r_aload_n g dL_law_1417 rfl ?_
  refine r_iload g dL_law_1418 rfl ?_
  refine r_iconst g 3 dL_law_1420 (by decide) ?_
  refine r_iadd g dL_law_1421 ?_
  refine r_nmV (.int (nI (i + 3))) (by rw [nIadd]; rfl) ?_
  refine hsl _ _ _ _ _ _ (i + 3) (by omega) dL_law_1422 ?_
  refine r_aload_n g dL_law_1423 rfl ?_
  refine r_iload g dL_law_1424 rfl ?_
  refine r_iconst g 4 dL_law_1426 (by decide) ?_
  refine r_iadd g dL_law_1427 ?_
  refine r_nmV (.int (nI (i + 4))) (by rw [nIadd]; rfl) ?_
  refine hsl _ _ _ _ _ _ (i + 4) (by omega) dL_law_1428 ?_
  refine r_aload_n g dL_law_1429 rfl ?_
  refine r_iload g dL_law_1430 rfl ?_
  refine r_iconst g 5 dL_law_1432 (by decide) ?_
  refine r_iadd g dL_law_1433 ?_
  refine r_nmV (.int (nI (i + 5))) (by rw [nIadd]; rfl) ?_
  refine hsl _ _ _ _ _ _ (i + 5) (by omega) dL_law_1434 ?_
  refine r_callV (d' := d - 1) (st := [.int _]) (As := [.int (xs (i + 1)), .int (xs (i + 2)), .int (xs (i + 3)), .int (xs (i + 4)), .int (xs (i + 5))]) g sL_129 iX12_hire eX12_hire (show vwCl[11]? = some (RX12, TX12, 65) from rfl) hC.2.1.1.1.1.1 rfl (Nat.le_of_ble_eq_true rfl) dL_law_1435 (by omega) (by omega) (by omega) (m_hire (by omega) hC.2.1.1 ) (fun r μ2 hz => ?_)
  obtain ⟨hq2, rfl⟩ := hz
  have hN := LI.mdl hC (hC.2.1.fr hq2) hq2.out hok
  exact r_icmp_eq g 2363 dL_law_1438 (by decide) (fun _ => nx _ _ _ hN) (fun c => absurd rfl c)
theorem L_case_24 (g : xCtx RL cL_law 7 d mc ms yn ro J) (hd : 40 ≤ d) (hsl : SL J b0 Ls xs) (hi : i + 7 ≤ Ls) (hk : k + 448 ≤ mc) (hn : n + 5600 ≤ ms) (h : LI x m w A X S μ) (nx : ∀ A' S' μ', LI x m w A' X S' μ' → J μ' k n 2363 [(4, .int (nI i)), (3, .ref w), (2, .ref m), (1, .ref x), (0, .ref b0)] []) : J μ k n 1443 [(4, .int (nI i)), (3, .ref w), (2, .ref m), (1, .ref x), (0, .ref b0)] [] := by
  obtain ⟨⟨rfl, hc⟩, hm, hok, hw, ⟨b, N, l, hsb, hbX⟩, hap⟩ := id h
  refine r_aload_n g dL_law_1443 rfl ?_
  refine r_aload_n g dL_law_1444 rfl ?_
  refine r_iload g dL_law_1445 rfl ?_
  refine r_iconst g 1 dL_law_1447 (by decide) ?_
  refine r_iadd g dL_law_1448 ?_
  refine r_nmV (.int (nI (i + 1))) (by rw [nIadd]; rfl) ?_
  refine hsl _ _ _ _ _ _ (i + 1) (by omega) dL_law_1449 ?_
  refine r_aload_n g dL_law_1450 rfl ?_
  refine r_iload g dL_law_1451 rfl ?_
  refine r_iconst g 2 dL_law_1453 (by decide) ?_
  refine r_iadd g dL_law_1454 ?_
  refine r_nmV (.int (nI (i + 2))) (by rw [nIadd]; rfl) ?_
  refine hsl _ _ _ _ _ _ (i + 2) (by omega) dL_law_1455 ?_
  refine r_aload_n g dL_law_1456 rfl ?_
  refine r_iload g dL_law_1457 rfl ?_
  refine r_iconst g 3 dL_law_1459 (by decide) ?_
  refine r_iadd g dL_law_1460 ?_
  refine r_nmV (.int (nI (i + 3))) (by rw [nIadd]; rfl) ?_
  refine hsl _ _ _ _ _ _ (i + 3) (by omega) dL_law_1461 ?_
  refine r_aload_n g dL_law_1462 rfl ?_
  refine r_iload g dL_law_1463 rfl ?_
  refine r_iconst g 4 dL_law_1465 (by decide) ?_
  refine r_iadd g dL_law_1466 ?_
  refine r_nmV (.int (nI (i + 4))) (by rw [nIadd]; rfl) ?_
  refine hsl _ _ _ _ _ _ (i + 4) (by omega) dL_law_1467 ?_
  refine r_aload_n g dL_law_1468 rfl ?_
  refine r_iload g dL_law_1469 rfl ?_
  refine r_iconst g 5 dL_law_1471 (by decide) ?_
  refine r_iadd g dL_law_1472 ?_
  refine r_nmV (.int (nI (i + 5))) (by rw [nIadd]; rfl) ?_
  refine hsl _ _ _ _ _ _ (i + 5) (by omega) dL_law_1473 ?_
  refine r_callV (d' := d - 1) (st := []) (As := [.int (xs (i + 1)), .int (xs (i + 2)), .int (xs (i + 3)), .int (xs (i + 4)), .int (xs (i + 5))]) g sL_130 iX11_without eX11_without (show vwCl[10]? = some (RX11, TX11, 18) from rfl) (hc.1.1.1.s 0 14 18) rfl (Nat.le_of_ble_eq_true rfl) dL_law_1474 (by omega) (by omega) (by omega) (c_without (by omega) hc.1) (fun r μ1 hz => ?_)
  obtain ⟨hq, rfl⟩ := hz
  have hC := h.cls (Or.inl rfl) (hc.fr hq) hq.out
  refine r_aload_n g dL_law_1477 rfl ?_
  refine r_aload_n g dL_law_1478 rfl ?_
  refine r_iload g dL_law_1479 rfl ?_
  refine r_iconst g 1 dL_law_1481 (by decide) ?_
  refine r_iadd g dL_law_1482 ?_
  refine r_nmV (.int (nI (i + 1))) (by rw [nIadd]; rfl) ?_
  refine hsl _ _ _ _ _ _ (i + 1) (by omega) dL_law_1483 ?_
  refine r_aload_n g dL_law_1484 rfl ?_
  refine r_iload g dL_law_1485 rfl ?_
  refine r_iconst g 2 dL_law_1487 (by decide) ?_
  refine r_iadd g dL_law_1488 ?_
  refine r_nmV (.int (nI (i + 2))) (by rw [nIadd]; rfl) ?_
  refine hsl _ _ _ _ _ _ (i + 2) (by omega) dL_law_1489 ?_
  refine r_aload_n g dL_law_1490 rfl ?_
  refine r_iload g dL_law_1491 rfl ?_
  refine r_iconst g 3 dL_law_1493 (by decide) ?_
  refine r_iadd g dL_law_1494 ?_
  refine r_nmV (.int (nI (i + 3))) (by rw [nIadd]; rfl) ?_
  refine hsl _ _ _ _ _ _ (i + 3) (by omega) dL_law_1495 ?_
  refine r_aload_n g dL_law_1496 rfl ?_
  refine r_iload g dL_law_1497 rfl ?_
  refine r_iconst g 4 dL_law_1499 (by decide) ?_
  refine r_iadd g dL_law_1500 ?_
  refine r_nmV (.int (nI (i + 4))) (by rw [nIadd]; rfl) ?_
  refine hsl _ _ _ _ _ _ (i + 4) (by omega) dL_law_1501 ?_
  refine r_aload_n g dL_law_1502 rfl ?_
  refine r_iload g dL_law_1503 rfl ?_
  refine r_iconst g 5 dL_law_1505 (by decide) ?_
  refine r_iadd g dL_law_1506 ?_
  refine r_nmV (.int (nI (i + 5))) (by rw [nIadd]; rfl) ?_
  refine hsl _ _ _ _ _ _ (i + 5) (by omega) dL_law_1507 ?_
  refine r_callV (d' := d - 1) (st := [.int _]) (As := [.int (xs (i + 1)), .int (xs (i + 2)), .int (xs (i + 3)), .int (xs (i + 4)), .int (xs (i + 5))]) g sL_133 iX12_without eX12_without (show vwCl[11]? = some (RX12, TX12, 65) from rfl) hC.2.1.1.1.1.1 rfl (Nat.le_of_ble_eq_true rfl) dL_law_1508 (by omega) (by omega) (by omega) (m_without (by omega) hC.2.1.1 ) (fun r μ2 hz => ?_)
  obtain ⟨hq2, rfl⟩ := hz
  have hN := LI.mdl hC (hC.2.1.fr hq2) hq2.out hok
  exact r_icmp_eq g 2363 dL_law_1511 (by decide) (fun _ => nx _ _ _ hN) (fun c => absurd rfl c)
theorem L_case_25 (g : xCtx RL cL_law 7 d mc ms yn ro J) (hd : 40 ≤ d) (hsl : SL J b0 Ls xs) (hi : i + 7 ≤ Ls) (hk : k + 448 ≤ mc) (hn : n + 5600 ≤ ms) (h : LI x m w A X S μ) (nx : ∀ A' S' μ', LI x m w A' X S' μ' → J μ' k n 2363 [(4, .int (nI i)), (3, .ref w), (2, .ref m), (1, .ref x), (0, .ref b0)] []) : J μ k n 1516 [(4, .int (nI i)), (3, .ref w), (2, .ref m), (1, .ref x), (0, .ref b0)] [] := by
  obtain ⟨⟨rfl, hc⟩, hm, hok, hw, ⟨b, N, l, hsb, hbX⟩, hap⟩ := id h
  refine r_aload_n g dL_law_1516 rfl ?_
  refine r_aload_n g dL_law_1517 rfl ?_
  refine r_iload g dL_law_1518 rfl ?_
  refine r_iconst g 1 dL_law_1520 (by decide) ?_
  refine r_iadd g dL_law_1521 ?_
  refine r_nmV (.int (nI (i + 1))) (by rw [nIadd]; rfl) ?_
  refine hsl _ _ _ _ _ _ (i + 1) (by omega) dL_law_1522 ?_
  refine r_aload_n g dL_law_1523 rfl ?_
  refine r_iload g dL_law_1524 rfl ?_
  refine r_iconst g 2 dL_law_1526 (by decide) ?_
  refine r_iadd g dL_law_1527 ?_
  refine r_nmV (.int (nI (i + 2))) (by rw [nIadd]; rfl) ?_
  refine hsl _ _ _ _ _ _ (i + 2) (by omega) dL_law_1528 ?_
  refine r_aload_n g dL_law_1529 rfl ?_
  refine r_iload g dL_law_1530 rfl ?_
  refine r_iconst g 3 dL_law_1532 (by decide) ?_
  refine r_iadd g dL_law_1533 ?_
  refine r_nmV (.int (nI (i + 3))) (by rw [nIadd]; rfl) ?_
  refine hsl _ _ _ _ _ _ (i + 3) (by omega) dL_law_1534 ?_
  refine r_aload_n g dL_law_1535 rfl ?_
  refine r_iload g dL_law_1536 rfl ?_
  refine r_iconst g 4 dL_law_1538 (by decide) ?_
  refine r_iadd g dL_law_1539 ?_
  refine r_nmV (.int (nI (i + 4))) (by rw [nIadd]; rfl) ?_
  refine hsl _ _ _ _ _ _ (i + 4) (by omega) dL_law_1540 ?_
  refine r_callV (d' := d - 1) (st := []) (As := [.int (xs (i + 1)), .int (xs (i + 2)), .int (xs (i + 3)), .int (xs (i + 4))]) g sL_134 iX11_key eX11_key (show vwCl[10]? = some (RX11, TX11, 18) from rfl) (hc.1.1.1.s 0 14 18) rfl (Nat.le_of_ble_eq_true rfl) dL_law_1541 (by omega) (by omega) (by omega) (c_key (by omega) hc.1) (fun r μ1 hz => ?_)
  obtain ⟨hq, rfl⟩ := hz
  have hC := h.cls (Or.inl rfl) (hc.fr hq) hq.out
  refine r_aload_n g dL_law_1544 rfl ?_
  refine r_aload_n g dL_law_1545 rfl ?_
  refine r_iload g dL_law_1546 rfl ?_
  refine r_iconst g 1 dL_law_1548 (by decide) ?_
  refine r_iadd g dL_law_1549 ?_
  refine r_nmV (.int (nI (i + 1))) (by rw [nIadd]; rfl) ?_
  refine hsl _ _ _ _ _ _ (i + 1) (by omega) dL_law_1550 ?_
  refine r_aload_n g dL_law_1551 rfl ?_
  refine r_iload g dL_law_1552 rfl ?_
  refine r_iconst g 2 dL_law_1554 (by decide) ?_
  refine r_iadd g dL_law_1555 ?_
  refine r_nmV (.int (nI (i + 2))) (by rw [nIadd]; rfl) ?_
  refine hsl _ _ _ _ _ _ (i + 2) (by omega) dL_law_1556 ?_
  refine r_aload_n g dL_law_1557 rfl ?_
  refine r_iload g dL_law_1558 rfl ?_
  refine r_iconst g 3 dL_law_1560 (by decide) ?_
  refine r_iadd g dL_law_1561 ?_
  refine r_nmV (.int (nI (i + 3))) (by rw [nIadd]; rfl) ?_
  refine hsl _ _ _ _ _ _ (i + 3) (by omega) dL_law_1562 ?_
  refine r_aload_n g dL_law_1563 rfl ?_
  refine r_iload g dL_law_1564 rfl ?_
  refine r_iconst g 4 dL_law_1566 (by decide) ?_
  refine r_iadd g dL_law_1567 ?_
  refine r_nmV (.int (nI (i + 4))) (by rw [nIadd]; rfl) ?_
  refine hsl _ _ _ _ _ _ (i + 4) (by omega) dL_law_1568 ?_
  refine r_callV (d' := d - 1) (st := [.int _]) (As := [.int (xs (i + 1)), .int (xs (i + 2)), .int (xs (i + 3)), .int (xs (i + 4))]) g sL_137 iX12_key eX12_key (show vwCl[11]? = some (RX12, TX12, 65) from rfl) hC.2.1.1.1.1.1 rfl (Nat.le_of_ble_eq_true rfl) dL_law_1569 (by omega) (by omega) (by omega) (m_key (by omega) hC.2.1.1 ) (fun r μ2 hz => ?_)
  obtain ⟨hq2, rfl⟩ := hz
  have hN := LI.mdl hC (hC.2.1.fr hq2) hq2.out hok
  exact r_icmp_eq g 2363 dL_law_1572 (by decide) (fun _ => nx _ _ _ hN) (fun c => absurd rfl c)
theorem L_case_26 (g : xCtx RL cL_law 7 d mc ms yn ro J) (hd : 40 ≤ d) (hsl : SL J b0 Ls xs) (hi : i + 7 ≤ Ls) (hk : k + 448 ≤ mc) (hn : n + 5600 ≤ ms) (h : LI x m w A X S μ) (nx : ∀ A' S' μ', LI x m w A' X S' μ' → J μ' k n 2363 [(4, .int (nI i)), (3, .ref w), (2, .ref m), (1, .ref x), (0, .ref b0)] []) : J μ k n 1577 [(4, .int (nI i)), (3, .ref w), (2, .ref m), (1, .ref x), (0, .ref b0)] [] := by
  obtain ⟨⟨rfl, hc⟩, hm, hok, hw, ⟨b, N, l, hsb, hbX⟩, hap⟩ := id h
  refine r_aload_n g dL_law_1577 rfl ?_
  refine r_aload_n g dL_law_1578 rfl ?_
  refine r_iload g dL_law_1579 rfl ?_
  refine r_iconst g 1 dL_law_1581 (by decide) ?_
  refine r_iadd g dL_law_1582 ?_
  refine r_nmV (.int (nI (i + 1))) (by rw [nIadd]; rfl) ?_
  refine hsl _ _ _ _ _ _ (i + 1) (by omega) dL_law_1583 ?_
  refine r_aload_n g dL_law_1584 rfl ?_
  refine r_iload g dL_law_1585 rfl ?_
  refine r_iconst g 2 dL_law_1587 (by decide) ?_
  refine r_iadd g dL_law_1588 ?_
  refine r_nmV (.int (nI (i + 2))) (by rw [nIadd]; rfl) ?_
  refine hsl _ _ _ _ _ _ (i + 2) (by omega) dL_law_1589 ?_
  refine r_aload_n g dL_law_1590 rfl ?_
  refine r_iload g dL_law_1591 rfl ?_
  refine r_iconst g 3 dL_law_1593 (by decide) ?_
  refine r_iadd g dL_law_1594 ?_
  refine r_nmV (.int (nI (i + 3))) (by rw [nIadd]; rfl) ?_
  refine hsl _ _ _ _ _ _ (i + 3) (by omega) dL_law_1595 ?_
  refine r_aload_n g dL_law_1596 rfl ?_
  refine r_iload g dL_law_1597 rfl ?_
  refine r_iconst g 4 dL_law_1599 (by decide) ?_
  refine r_iadd g dL_law_1600 ?_
  refine r_nmV (.int (nI (i + 4))) (by rw [nIadd]; rfl) ?_
  refine hsl _ _ _ _ _ _ (i + 4) (by omega) dL_law_1601 ?_
  refine r_aload_n g dL_law_1602 rfl ?_
  refine r_iload g dL_law_1603 rfl ?_
  refine r_iconst g 5 dL_law_1605 (by decide) ?_
  refine r_iadd g dL_law_1606 ?_
  refine r_nmV (.int (nI (i + 5))) (by rw [nIadd]; rfl) ?_
  refine hsl _ _ _ _ _ _ (i + 5) (by omega) dL_law_1607 ?_
  refine r_aload_n g dL_law_1608 rfl ?_
  refine r_iload g dL_law_1609 rfl ?_
  refine r_bipush g 6 dL_law_1611 (by decide) ?_
  refine r_iadd g dL_law_1613 ?_
  refine r_nmV (.int (nI (i + 6))) (by rw [nIadd]; rfl) ?_
  refine hsl _ _ _ _ _ _ (i + 6) (by omega) dL_law_1614 ?_
  refine r_callV (d' := d - 1) (st := []) (As := [.int (xs (i + 1)), .int (xs (i + 2)), .int (xs (i + 3)), .int (xs (i + 4)), .int (xs (i + 5)), .int (xs (i + 6))]) g sL_138 iX11_lapsed eX11_lapsed (show vwCl[10]? = some (RX11, TX11, 18) from rfl) (hc.1.1.1.s 0 14 18) rfl (Nat.le_of_ble_eq_true rfl) dL_law_1615 (by omega) (by omega) (by omega) (c_lapsed (by omega) hc.1) (fun r μ1 hz => ?_)
  obtain ⟨hq, rfl⟩ := hz
  have hC := h.cls (Or.inl rfl) (hc.fr hq) hq.out
  refine r_aload_n g dL_law_1618 rfl ?_
  refine r_aload_n g dL_law_1619 rfl ?_
  refine r_iload g dL_law_1620 rfl ?_
  refine r_iconst g 1 dL_law_1622 (by decide) ?_
  refine r_iadd g dL_law_1623 ?_
  refine r_nmV (.int (nI (i + 1))) (by rw [nIadd]; rfl) ?_
  refine hsl _ _ _ _ _ _ (i + 1) (by omega) dL_law_1624 ?_
  refine r_aload_n g dL_law_1625 rfl ?_
  refine r_iload g dL_law_1626 rfl ?_
  refine r_iconst g 2 dL_law_1628 (by decide) ?_
  refine r_iadd g dL_law_1629 ?_
  refine r_nmV (.int (nI (i + 2))) (by rw [nIadd]; rfl) ?_
  refine hsl _ _ _ _ _ _ (i + 2) (by omega) dL_law_1630 ?_
  refine r_aload_n g dL_law_1631 rfl ?_
  refine r_iload g dL_law_1632 rfl ?_
  refine r_iconst g 3 dL_law_1634 (by decide) ?_
  refine r_iadd g dL_law_1635 ?_
  refine r_nmV (.int (nI (i + 3))) (by rw [nIadd]; rfl) ?_
  refine hsl _ _ _ _ _ _ (i + 3) (by omega) dL_law_1636 ?_
  refine r_aload_n g dL_law_1637 rfl ?_
  refine r_iload g dL_law_1638 rfl ?_
  refine r_iconst g 4 dL_law_1640 (by decide) ?_
  refine r_iadd g dL_law_1641 ?_
  refine r_nmV (.int (nI (i + 4))) (by rw [nIadd]; rfl) ?_
  refine hsl _ _ _ _ _ _ (i + 4) (by omega) dL_law_1642 ?_
  refine r_aload_n g dL_law_1643 rfl ?_
  refine r_iload g dL_law_1644 rfl ?_
  refine r_iconst g 5 dL_law_1646 (by decide) ?_
  refine r_iadd g dL_law_1647 ?_
  refine r_nmV (.int (nI (i + 5))) (by rw [nIadd]; rfl) ?_
  refine hsl _ _ _ _ _ _ (i + 5) (by omega) dL_law_1648 ?_
  refine r_aload_n g dL_law_1649 rfl ?_
  refine r_iload g dL_law_1650 rfl ?_
  refine r_bipush g 6 dL_law_1652 (by decide) ?_
  refine r_iadd g dL_law_1654 ?_
  refine r_nmV (.int (nI (i + 6))) (by rw [nIadd]; rfl) ?_
  refine hsl _ _ _ _ _ _ (i + 6) (by omega) dL_law_1655 ?_
  refine r_callV (d' := d - 1) (st := [.int _]) (As := [.int (xs (i + 1)), .int (xs (i + 2)), .int (xs (i + 3)), .int (xs (i + 4)), .int (xs (i + 5)), .int (xs (i + 6))]) g sL_141 iX12_lapsed eX12_lapsed (show vwCl[11]? = some (RX12, TX12, 65) from rfl) hC.2.1.1.1.1.1 rfl (Nat.le_of_ble_eq_true rfl) dL_law_1656 (by omega) (by omega) (by omega) (m_lapsed (by omega) hC.2.1.1 ) (fun r μ2 hz => ?_)
  obtain ⟨hq2, rfl⟩ := hz
  have hN := LI.mdl hC (hC.2.1.fr hq2) hq2.out hok
  exact r_icmp_eq g 2363 dL_law_1659 (by decide) (fun _ => nx _ _ _ hN) (fun c => absurd rfl c)
theorem L_case_27 (g : xCtx RL cL_law 7 d mc ms yn ro J) (hd : 40 ≤ d) (hsl : SL J b0 Ls xs) (hi : i + 7 ≤ Ls) (hk : k + 448 ≤ mc) (hn : n + 5600 ≤ ms) (h : LI x m w A X S μ) (nx : ∀ A' S' μ', LI x m w A' X S' μ' → J μ' k n 2363 [(4, .int (nI i)), (3, .ref w), (2, .ref m), (1, .ref x), (0, .ref b0)] []) : J μ k n 1664 [(4, .int (nI i)), (3, .ref w), (2, .ref m), (1, .ref x), (0, .ref b0)] [] := by
  obtain ⟨⟨rfl, hc⟩, hm, hok, hw, ⟨b, N, l, hsb, hbX⟩, hap⟩ := id h
  refine r_aload_n g dL_law_1664 rfl ?_
  refine r_aload_n g dL_law_1665 rfl ?_
  refine r_iload g dL_law_1666 rfl ?_
  refine r_iconst g 1 dL_law_1668 (by decide) ?_
  refine r_iadd g dL_law_1669 ?_
  refine r_nmV (.int (nI (i + 1))) (by rw [nIadd]; rfl) ?_
  refine hsl _ _ _ _ _ _ (i + 1) (by omega) dL_law_1670 ?_
  refine r_aload_n g dL_law_1671 rfl ?_
  refine r_iload g dL_law_1672 rfl ?_
  refine r_iconst g 2 dL_law_1674 (by decide) ?_
  refine r_iadd g dL_law_1675 ?_
  refine r_nmV (.int (nI (i + 2))) (by rw [nIadd]; rfl) ?_
  refine hsl _ _ _ _ _ _ (i + 2) (by omega) dL_law_1676 ?_
  refine r_aload_n g dL_law_1677 rfl ?_
  refine r_iload g dL_law_1678 rfl ?_
  refine r_iconst g 3 dL_law_1680 (by decide) ?_
  refine r_iadd g dL_law_1681 ?_
  refine r_nmV (.int (nI (i + 3))) (by rw [nIadd]; rfl) ?_
  refine hsl _ _ _ _ _ _ (i + 3) (by omega) dL_law_1682 ?_
  refine r_aload_n g dL_law_1683 rfl ?_
  refine r_iload g dL_law_1684 rfl ?_
  refine r_iconst g 4 dL_law_1686 (by decide) ?_
  refine r_iadd g dL_law_1687 ?_
  refine r_nmV (.int (nI (i + 4))) (by rw [nIadd]; rfl) ?_
  refine hsl _ _ _ _ _ _ (i + 4) (by omega) dL_law_1688 ?_
  refine r_callV (d' := d - 1) (st := []) (As := [.int (xs (i + 1)), .int (xs (i + 2)), .int (xs (i + 3)), .int (xs (i + 4))]) g sL_142 iX11_soon eX11_soon (show vwCl[10]? = some (RX11, TX11, 18) from rfl) (hc.1.1.1.s 0 14 18) rfl (Nat.le_of_ble_eq_true rfl) dL_law_1689 (by omega) (by omega) (by omega) (c_soon (by omega) hc.1) (fun r μ1 hz => ?_)
  obtain ⟨hq, rfl⟩ := hz
  have hC := h.cls (Or.inl rfl) (hc.fr hq) hq.out
  refine r_aload_n g dL_law_1692 rfl ?_
  refine r_aload_n g dL_law_1693 rfl ?_
  refine r_iload g dL_law_1694 rfl ?_
  refine r_iconst g 1 dL_law_1696 (by decide) ?_
  refine r_iadd g dL_law_1697 ?_
  refine r_nmV (.int (nI (i + 1))) (by rw [nIadd]; rfl) ?_
  refine hsl _ _ _ _ _ _ (i + 1) (by omega) dL_law_1698 ?_
  refine r_aload_n g dL_law_1699 rfl ?_
  refine r_iload g dL_law_1700 rfl ?_
  refine r_iconst g 2 dL_law_1702 (by decide) ?_
  refine r_iadd g dL_law_1703 ?_
  refine r_nmV (.int (nI (i + 2))) (by rw [nIadd]; rfl) ?_
  refine hsl _ _ _ _ _ _ (i + 2) (by omega) dL_law_1704 ?_
  refine r_aload_n g dL_law_1705 rfl ?_
  refine r_iload g dL_law_1706 rfl ?_
  refine r_iconst g 3 dL_law_1708 (by decide) ?_
  refine r_iadd g dL_law_1709 ?_
  refine r_nmV (.int (nI (i + 3))) (by rw [nIadd]; rfl) ?_
  refine hsl _ _ _ _ _ _ (i + 3) (by omega) dL_law_1710 ?_
  refine r_aload_n g dL_law_1711 rfl ?_
  refine r_iload g dL_law_1712 rfl ?_
  refine r_iconst g 4 dL_law_1714 (by decide) ?_
  refine r_iadd g dL_law_1715 ?_
  refine r_nmV (.int (nI (i + 4))) (by rw [nIadd]; rfl) ?_
  refine hsl _ _ _ _ _ _ (i + 4) (by omega) dL_law_1716 ?_
  refine r_callV (d' := d - 1) (st := [.int _]) (As := [.int (xs (i + 1)), .int (xs (i + 2)), .int (xs (i + 3)), .int (xs (i + 4))]) g sL_145 iX12_soon eX12_soon (show vwCl[11]? = some (RX12, TX12, 65) from rfl) hC.2.1.1.1.1.1 rfl (Nat.le_of_ble_eq_true rfl) dL_law_1717 (by omega) (by omega) (by omega) (m_soon (by omega) hC.2.1.1 ) (fun r μ2 hz => ?_)
  obtain ⟨hq2, rfl⟩ := hz
  have hN := LI.mdl hC (hC.2.1.fr hq2) hq2.out hok
  exact r_icmp_eq g 2363 dL_law_1720 (by decide) (fun _ => nx _ _ _ hN) (fun c => absurd rfl c)
theorem L_case_28 (g : xCtx RL cL_law 7 d mc ms yn ro J) (hd : 40 ≤ d) (hsl : SL J b0 Ls xs) (hi : i + 7 ≤ Ls) (hk : k + 448 ≤ mc) (hn : n + 5600 ≤ ms) (h : LI x m w A X S μ) (nx : ∀ A' S' μ', LI x m w A' X S' μ' → J μ' k n 2363 [(4, .int (nI i)), (3, .ref w), (2, .ref m), (1, .ref x), (0, .ref b0)] []) : J μ k n 1725 [(4, .int (nI i)), (3, .ref w), (2, .ref m), (1, .ref x), (0, .ref b0)] [] := by
  obtain ⟨⟨rfl, hc⟩, hm, hok, hw, ⟨b, N, l, hsb, hbX⟩, hap⟩ := id h
  refine r_aload_n g dL_law_1725 rfl ?_
  refine r_aload_n g dL_law_1726 rfl ?_
  refine r_iload g dL_law_1727 rfl ?_
  refine r_iconst g 1 dL_law_1729 (by decide) ?_
  refine r_iadd g dL_law_1730 ?_
  refine r_nmV (.int (nI (i + 1))) (by rw [nIadd]; rfl) ?_
  refine hsl _ _ _ _ _ _ (i + 1) (by omega) dL_law_1731 ?_
  refine r_aload_n g dL_law_1732 rfl ?_
  refine r_iload g dL_law_1733 rfl ?_
  refine r_iconst g 2 dL_law_1735 (by decide) ?_
  refine r_iadd g dL_law_1736 ?_
  refine r_nmV (.int (nI (i + 2))) (by rw [nIadd]; rfl) ?_
  refine hsl _ _ _ _ _ _ (i + 2) (by omega) dL_law_1737 ?_
  refine r_aload_n g dL_law_1738 rfl ?_
  refine r_iload g dL_law_1739 rfl ?_
  refine r_iconst g 3 dL_law_1741 (by decide) ?_
  refine r_iadd g dL_law_1742 ?_
  refine r_nmV (.int (nI (i + 3))) (by rw [nIadd]; rfl) ?_
  refine hsl _ _ _ _ _ _ (i + 3) (by omega) dL_law_1743 ?_
  refine r_callV (d' := d - 1) (st := []) (As := [.int (xs (i + 1)), .int (xs (i + 2)), .int (xs (i + 3))]) g sL_146 iX11_loops eX11_loops (show vwCl[10]? = some (RX11, TX11, 18) from rfl) (hc.1.1.1.s 0 14 18) rfl (Nat.le_of_ble_eq_true rfl) dL_law_1744 (by omega) (by omega) (by omega) (c_loops (by omega) hc.1) (fun r μ1 hz => ?_)
  obtain ⟨hq, rfl⟩ := hz
  have hC := h.cls (Or.inl rfl) (hc.fr hq) hq.out
  refine r_aload_n g dL_law_1747 rfl ?_
  refine r_aload_n g dL_law_1748 rfl ?_
  refine r_iload g dL_law_1749 rfl ?_
  refine r_iconst g 1 dL_law_1751 (by decide) ?_
  refine r_iadd g dL_law_1752 ?_
  refine r_nmV (.int (nI (i + 1))) (by rw [nIadd]; rfl) ?_
  refine hsl _ _ _ _ _ _ (i + 1) (by omega) dL_law_1753 ?_
  refine r_aload_n g dL_law_1754 rfl ?_
  refine r_iload g dL_law_1755 rfl ?_
  refine r_iconst g 2 dL_law_1757 (by decide) ?_
  refine r_iadd g dL_law_1758 ?_
  refine r_nmV (.int (nI (i + 2))) (by rw [nIadd]; rfl) ?_
  refine hsl _ _ _ _ _ _ (i + 2) (by omega) dL_law_1759 ?_
  refine r_aload_n g dL_law_1760 rfl ?_
  refine r_iload g dL_law_1761 rfl ?_
  refine r_iconst g 3 dL_law_1763 (by decide) ?_
  refine r_iadd g dL_law_1764 ?_
  refine r_nmV (.int (nI (i + 3))) (by rw [nIadd]; rfl) ?_
  refine hsl _ _ _ _ _ _ (i + 3) (by omega) dL_law_1765 ?_
  refine r_callV (d' := d - 1) (st := [.int _]) (As := [.int (xs (i + 1)), .int (xs (i + 2)), .int (xs (i + 3))]) g sL_149 iX12_loops eX12_loops (show vwCl[11]? = some (RX12, TX12, 65) from rfl) hC.2.1.1.1.1.1 rfl (Nat.le_of_ble_eq_true rfl) dL_law_1766 (by omega) (by omega) (by omega) (m_loops (by omega) hC.2.1.1 ) (fun r μ2 hz => ?_)
  obtain ⟨hq2, rfl⟩ := hz
  have hN := LI.mdl hC (hC.2.1.fr hq2) hq2.out hok
  exact r_icmp_eq g 2363 dL_law_1769 (by decide) (fun _ => nx _ _ _ hN) (fun c => absurd rfl c)
theorem L_case_29 (g : xCtx RL cL_law 7 d mc ms yn ro J) (hd : 40 ≤ d) (hsl : SL J b0 Ls xs) (hi : i + 7 ≤ Ls) (hk : k + 448 ≤ mc) (hn : n + 5600 ≤ ms) (h : LI x m w A X S μ) (nx : ∀ A' S' μ', LI x m w A' X S' μ' → J μ' k n 2363 [(4, .int (nI i)), (3, .ref w), (2, .ref m), (1, .ref x), (0, .ref b0)] []) : J μ k n 1774 [(4, .int (nI i)), (3, .ref w), (2, .ref m), (1, .ref x), (0, .ref b0)] [] := by
  obtain ⟨⟨rfl, hc⟩, hm, hok, hw, ⟨b, N, l, hsb, hbX⟩, hap⟩ := id h
  refine r_aload_n g dL_law_1774 rfl ?_
  refine r_aload_n g dL_law_1775 rfl ?_
  refine r_iload g dL_law_1776 rfl ?_
  refine r_iconst g 1 dL_law_1778 (by decide) ?_
  refine r_iadd g dL_law_1779 ?_
  refine r_nmV (.int (nI (i + 1))) (by rw [nIadd]; rfl) ?_
  refine hsl _ _ _ _ _ _ (i + 1) (by omega) dL_law_1780 ?_
  refine r_aload_n g dL_law_1781 rfl ?_
  refine r_iload g dL_law_1782 rfl ?_
  refine r_iconst g 2 dL_law_1784 (by decide) ?_
  refine r_iadd g dL_law_1785 ?_
  refine r_nmV (.int (nI (i + 2))) (by rw [nIadd]; rfl) ?_
  refine hsl _ _ _ _ _ _ (i + 2) (by omega) dL_law_1786 ?_
  refine r_aload_n g dL_law_1787 rfl ?_
  refine r_iload g dL_law_1788 rfl ?_
  refine r_iconst g 3 dL_law_1790 (by decide) ?_
  refine r_iadd g dL_law_1791 ?_
  refine r_nmV (.int (nI (i + 3))) (by rw [nIadd]; rfl) ?_
  refine hsl _ _ _ _ _ _ (i + 3) (by omega) dL_law_1792 ?_
  refine r_aload_n g dL_law_1793 rfl ?_
  refine r_iload g dL_law_1794 rfl ?_
  refine r_iconst g 4 dL_law_1796 (by decide) ?_
  refine r_iadd g dL_law_1797 ?_
  refine r_nmV (.int (nI (i + 4))) (by rw [nIadd]; rfl) ?_
  refine hsl _ _ _ _ _ _ (i + 4) (by omega) dL_law_1798 ?_
  refine r_aload_n g dL_law_1799 rfl ?_
  refine r_iload g dL_law_1800 rfl ?_
  refine r_iconst g 5 dL_law_1802 (by decide) ?_
  refine r_iadd g dL_law_1803 ?_
  refine r_nmV (.int (nI (i + 5))) (by rw [nIadd]; rfl) ?_
  refine hsl _ _ _ _ _ _ (i + 5) (by omega) dL_law_1804 ?_
  refine r_callV (d' := d - 1) (st := []) (As := [.int (xs (i + 1)), .int (xs (i + 2)), .int (xs (i + 3)), .int (xs (i + 4)), .int (xs (i + 5))]) g sL_150 iX11_least eX11_least (show vwCl[10]? = some (RX11, TX11, 18) from rfl) (hc.1.1.1.s 0 14 18) rfl (Nat.le_of_ble_eq_true rfl) dL_law_1805 (by omega) (by omega) (by omega) (c_least (by omega) hc.1) (fun r μ1 hz => ?_)
  obtain ⟨hq, rfl⟩ := hz
  have hC := h.cls (Or.inl rfl) (hc.fr hq) hq.out
  refine r_aload_n g dL_law_1808 rfl ?_
  refine r_aload_n g dL_law_1809 rfl ?_
  refine r_iload g dL_law_1810 rfl ?_
  refine r_iconst g 1 dL_law_1812 (by decide) ?_
  refine r_iadd g dL_law_1813 ?_
  refine r_nmV (.int (nI (i + 1))) (by rw [nIadd]; rfl) ?_
  refine hsl _ _ _ _ _ _ (i + 1) (by omega) dL_law_1814 ?_
  refine r_aload_n g dL_law_1815 rfl ?_
  refine r_iload g dL_law_1816 rfl ?_
  refine r_iconst g 2 dL_law_1818 (by decide) ?_
  refine r_iadd g dL_law_1819 ?_
  refine r_nmV (.int (nI (i + 2))) (by rw [nIadd]; rfl) ?_
  refine hsl _ _ _ _ _ _ (i + 2) (by omega) dL_law_1820 ?_
  refine r_aload_n g dL_law_1821 rfl ?_
  refine r_iload g dL_law_1822 rfl ?_
  refine r_iconst g 3 dL_law_1824 (by decide) ?_
  refine r_iadd g dL_law_1825 ?_
  refine r_nmV (.int (nI (i + 3))) (by rw [nIadd]; rfl) ?_
  refine hsl _ _ _ _ _ _ (i + 3) (by omega) dL_law_1826 ?_
  refine r_aload_n g dL_law_1827 rfl ?_
  refine r_iload g dL_law_1828 rfl ?_
  refine r_iconst g 4 dL_law_1830 (by decide) ?_
  refine r_iadd g dL_law_1831 ?_
  refine r_nmV (.int (nI (i + 4))) (by rw [nIadd]; rfl) ?_
  refine hsl _ _ _ _ _ _ (i + 4) (by omega) dL_law_1832 ?_
  refine r_aload_n g dL_law_1833 rfl ?_
  refine r_iload g dL_law_1834 rfl ?_
  refine r_iconst g 5 dL_law_1836 (by decide) ?_
  refine r_iadd g dL_law_1837 ?_
  refine r_nmV (.int (nI (i + 5))) (by rw [nIadd]; rfl) ?_
  refine hsl _ _ _ _ _ _ (i + 5) (by omega) dL_law_1838 ?_
  refine r_callV (d' := d - 1) (st := [.int _]) (As := [.int (xs (i + 1)), .int (xs (i + 2)), .int (xs (i + 3)), .int (xs (i + 4)), .int (xs (i + 5))]) g sL_153 iX12_least eX12_least (show vwCl[11]? = some (RX12, TX12, 65) from rfl) hC.2.1.1.1.1.1 rfl (Nat.le_of_ble_eq_true rfl) dL_law_1839 (by omega) (by omega) (by omega) (m_least (by omega) hC.2.1.1 ) (fun r μ2 hz => ?_)
  obtain ⟨hq2, rfl⟩ := hz
  have hN := LI.mdl hC (hC.2.1.fr hq2) hq2.out hok
  exact r_icmp_eq g 2363 dL_law_1842 (by decide) (fun _ => nx _ _ _ hN) (fun c => absurd rfl c)
theorem L_case_30 (g : xCtx RL cL_law 7 d mc ms yn ro J) (hd : 40 ≤ d) (hsl : SL J b0 Ls xs) (hi : i + 7 ≤ Ls) (hk : k + 448 ≤ mc) (hn : n + 5600 ≤ ms) (h : LI x m w A X S μ) (nx : ∀ A' S' μ', LI x m w A' X S' μ' → J μ' k n 2363 [(4, .int (nI i)), (3, .ref w), (2, .ref m), (1, .ref x), (0, .ref b0)] []) : J μ k n 1847 [(4, .int (nI i)), (3, .ref w), (2, .ref m), (1, .ref x), (0, .ref b0)] [] := by
  obtain ⟨⟨rfl, hc⟩, hm, hok, hw, ⟨b, N, l, hsb, hbX⟩, hap⟩ := id h
  refine r_aload_n g dL_law_1847 rfl ?_
  refine r_aload_n g dL_law_1848 rfl ?_
  refine r_iload g dL_law_1849 rfl ?_
  refine r_iconst g 1 dL_law_1851 (by decide) ?_
  refine r_iadd g dL_law_1852 ?_
  refine r_nmV (.int (nI (i + 1))) (by rw [nIadd]; rfl) ?_
  refine hsl _ _ _ _ _ _ (i + 1) (by omega) dL_law_1853 ?_
  refine r_aload_n g dL_law_1854 rfl ?_
  refine r_iload g dL_law_1855 rfl ?_
  refine r_iconst g 2 dL_law_1857 (by decide) ?_
  refine r_iadd g dL_law_1858 ?_
  refine r_nmV (.int (nI (i + 2))) (by rw [nIadd]; rfl) ?_
  refine hsl _ _ _ _ _ _ (i + 2) (by omega) dL_law_1859 ?_
  refine r_aload_n g dL_law_1860 rfl ?_
  refine r_iload g dL_law_1861 rfl ?_
  refine r_iconst g 3 dL_law_1863 (by decide) ?_
  refine r_iadd g dL_law_1864 ?_
  refine r_nmV (.int (nI (i + 3))) (by rw [nIadd]; rfl) ?_
  refine hsl _ _ _ _ _ _ (i + 3) (by omega) dL_law_1865 ?_
  refine r_aload_n g dL_law_1866 rfl ?_
  refine r_iload g dL_law_1867 rfl ?_
  refine r_iconst g 4 dL_law_1869 (by decide) ?_
  refine r_iadd g dL_law_1870 ?_
  refine r_nmV (.int (nI (i + 4))) (by rw [nIadd]; rfl) ?_
  refine hsl _ _ _ _ _ _ (i + 4) (by omega) dL_law_1871 ?_
  refine r_callV (d' := d - 1) (st := []) (As := [.int (xs (i + 1)), .int (xs (i + 2)), .int (xs (i + 3)), .int (xs (i + 4))]) g sL_154 iX11_direct eX11_direct (show vwCl[10]? = some (RX11, TX11, 18) from rfl) (hc.1.1.1.s 0 14 18) rfl (Nat.le_of_ble_eq_true rfl) dL_law_1872 (by omega) (by omega) (by omega) (c_direct (by omega) hc.1) (fun r μ1 hz => ?_)
  obtain ⟨hq, rfl⟩ := hz
  have hC := h.cls (Or.inl rfl) (hc.fr hq) hq.out
  refine r_aload_n g dL_law_1875 rfl ?_
  refine r_aload_n g dL_law_1876 rfl ?_
  refine r_iload g dL_law_1877 rfl ?_
  refine r_iconst g 1 dL_law_1879 (by decide) ?_
  refine r_iadd g dL_law_1880 ?_
  refine r_nmV (.int (nI (i + 1))) (by rw [nIadd]; rfl) ?_
  refine hsl _ _ _ _ _ _ (i + 1) (by omega) dL_law_1881 ?_
  refine r_aload_n g dL_law_1882 rfl ?_
  refine r_iload g dL_law_1883 rfl ?_
  refine r_iconst g 2 dL_law_1885 (by decide) ?_
  refine r_iadd g dL_law_1886 ?_
  refine r_nmV (.int (nI (i + 2))) (by rw [nIadd]; rfl) ?_
  refine hsl _ _ _ _ _ _ (i + 2) (by omega) dL_law_1887 ?_
  refine r_aload_n g dL_law_1888 rfl ?_
  refine r_iload g dL_law_1889 rfl ?_
  refine r_iconst g 3 dL_law_1891 (by decide) ?_
  refine r_iadd g dL_law_1892 ?_
  refine r_nmV (.int (nI (i + 3))) (by rw [nIadd]; rfl) ?_
  refine hsl _ _ _ _ _ _ (i + 3) (by omega) dL_law_1893 ?_
  refine r_aload_n g dL_law_1894 rfl ?_
  refine r_iload g dL_law_1895 rfl ?_
  refine r_iconst g 4 dL_law_1897 (by decide) ?_
  refine r_iadd g dL_law_1898 ?_
  refine r_nmV (.int (nI (i + 4))) (by rw [nIadd]; rfl) ?_
  refine hsl _ _ _ _ _ _ (i + 4) (by omega) dL_law_1899 ?_
  refine r_callV (d' := d - 1) (st := [.int _]) (As := [.int (xs (i + 1)), .int (xs (i + 2)), .int (xs (i + 3)), .int (xs (i + 4))]) g sL_157 iX12_direct eX12_direct (show vwCl[11]? = some (RX12, TX12, 65) from rfl) hC.2.1.1.1.1.1 rfl (Nat.le_of_ble_eq_true rfl) dL_law_1900 (by omega) (by omega) (by omega) (m_direct (by omega) hC.2.1.1 ) (fun r μ2 hz => ?_)
  obtain ⟨hq2, rfl⟩ := hz
  have hN := LI.mdl hC (hC.2.1.fr hq2) hq2.out hok
  exact r_icmp_eq g 2363 dL_law_1903 (by decide) (fun _ => nx _ _ _ hN) (fun c => absurd rfl c)
theorem L_case_31 (g : xCtx RL cL_law 7 d mc ms yn ro J) (hd : 40 ≤ d) (hsl : SL J b0 Ls xs) (hi : i + 7 ≤ Ls) (hk : k + 448 ≤ mc) (hn : n + 5600 ≤ ms) (h : LI x m w A X S μ) (nx : ∀ A' S' μ', LI x m w A' X S' μ' → J μ' k n 2363 [(4, .int (nI i)), (3, .ref w), (2, .ref m), (1, .ref x), (0, .ref b0)] []) : J μ k n 1908 [(4, .int (nI i)), (3, .ref w), (2, .ref m), (1, .ref x), (0, .ref b0)] [] := by
  obtain ⟨⟨rfl, hc⟩, hm, hok, hw, ⟨b, N, l, hsb, hbX⟩, hap⟩ := id h
  refine r_aload_n g dL_law_1908 rfl ?_
  refine r_aload_n g dL_law_1909 rfl ?_
  refine r_iload g dL_law_1910 rfl ?_
  refine r_iconst g 1 dL_law_1912 (by decide) ?_
  refine r_iadd g dL_law_1913 ?_
  refine r_nmV (.int (nI (i + 1))) (by rw [nIadd]; rfl) ?_
  refine hsl _ _ _ _ _ _ (i + 1) (by omega) dL_law_1914 ?_
  refine r_aload_n g dL_law_1915 rfl ?_
  refine r_iload g dL_law_1916 rfl ?_
  refine r_iconst g 2 dL_law_1918 (by decide) ?_
  refine r_iadd g dL_law_1919 ?_
  refine r_nmV (.int (nI (i + 2))) (by rw [nIadd]; rfl) ?_
  refine hsl _ _ _ _ _ _ (i + 2) (by omega) dL_law_1920 ?_
  refine r_aload_n g dL_law_1921 rfl ?_
  refine r_iload g dL_law_1922 rfl ?_
  refine r_iconst g 3 dL_law_1924 (by decide) ?_
  refine r_iadd g dL_law_1925 ?_
  refine r_nmV (.int (nI (i + 3))) (by rw [nIadd]; rfl) ?_
  refine hsl _ _ _ _ _ _ (i + 3) (by omega) dL_law_1926 ?_
  refine r_aload_n g dL_law_1927 rfl ?_
  refine r_iload g dL_law_1928 rfl ?_
  refine r_iconst g 4 dL_law_1930 (by decide) ?_
  refine r_iadd g dL_law_1931 ?_
  refine r_nmV (.int (nI (i + 4))) (by rw [nIadd]; rfl) ?_
  refine hsl _ _ _ _ _ _ (i + 4) (by omega) dL_law_1932 ?_
  refine r_aload_n g dL_law_1933 rfl ?_
  refine r_iload g dL_law_1934 rfl ?_
  refine r_iconst g 5 dL_law_1936 (by decide) ?_
  refine r_iadd g dL_law_1937 ?_
  refine r_nmV (.int (nI (i + 5))) (by rw [nIadd]; rfl) ?_
  refine hsl _ _ _ _ _ _ (i + 5) (by omega) dL_law_1938 ?_
  refine r_callV (d' := d - 1) (st := []) (As := [.int (xs (i + 1)), .int (xs (i + 2)), .int (xs (i + 3)), .int (xs (i + 4)), .int (xs (i + 5))]) g sL_158 iX11_take eX11_take (show vwCl[10]? = some (RX11, TX11, 18) from rfl) (hc.1.1.1.s 0 14 18) rfl (Nat.le_of_ble_eq_true rfl) dL_law_1939 (by omega) (by omega) (by omega) (c_take (by omega) hc.1) (fun r μ1 hz => ?_)
  obtain ⟨hq, rfl⟩ := hz
  have hC := h.cls (Or.inl rfl) (hc.fr hq) hq.out
  refine r_aload_n g dL_law_1942 rfl ?_
  refine r_aload_n g dL_law_1943 rfl ?_
  refine r_iload g dL_law_1944 rfl ?_
  refine r_iconst g 1 dL_law_1946 (by decide) ?_
  refine r_iadd g dL_law_1947 ?_
  refine r_nmV (.int (nI (i + 1))) (by rw [nIadd]; rfl) ?_
  refine hsl _ _ _ _ _ _ (i + 1) (by omega) dL_law_1948 ?_
  refine r_aload_n g dL_law_1949 rfl ?_
  refine r_iload g dL_law_1950 rfl ?_
  refine r_iconst g 2 dL_law_1952 (by decide) ?_
  refine r_iadd g dL_law_1953 ?_
  refine r_nmV (.int (nI (i + 2))) (by rw [nIadd]; rfl) ?_
  refine hsl _ _ _ _ _ _ (i + 2) (by omega) dL_law_1954 ?_
  refine r_aload_n g dL_law_1955 rfl ?_
  refine r_iload g dL_law_1956 rfl ?_
  refine r_iconst g 3 dL_law_1958 (by decide) ?_
  refine r_iadd g dL_law_1959 ?_
  refine r_nmV (.int (nI (i + 3))) (by rw [nIadd]; rfl) ?_
  refine hsl _ _ _ _ _ _ (i + 3) (by omega) dL_law_1960 ?_
  refine r_aload_n g dL_law_1961 rfl ?_
  refine r_iload g dL_law_1962 rfl ?_
  refine r_iconst g 4 dL_law_1964 (by decide) ?_
  refine r_iadd g dL_law_1965 ?_
  refine r_nmV (.int (nI (i + 4))) (by rw [nIadd]; rfl) ?_
  refine hsl _ _ _ _ _ _ (i + 4) (by omega) dL_law_1966 ?_
  refine r_aload_n g dL_law_1967 rfl ?_
  refine r_iload g dL_law_1968 rfl ?_
  refine r_iconst g 5 dL_law_1970 (by decide) ?_
  refine r_iadd g dL_law_1971 ?_
  refine r_nmV (.int (nI (i + 5))) (by rw [nIadd]; rfl) ?_
  refine hsl _ _ _ _ _ _ (i + 5) (by omega) dL_law_1972 ?_
  refine r_callV (d' := d - 1) (st := [.int _]) (As := [.int (xs (i + 1)), .int (xs (i + 2)), .int (xs (i + 3)), .int (xs (i + 4)), .int (xs (i + 5))]) g sL_161 iX12_take eX12_take (show vwCl[11]? = some (RX12, TX12, 65) from rfl) hC.2.1.1.1.1.1 rfl (Nat.le_of_ble_eq_true rfl) dL_law_1973 (by omega) (by omega) (by omega) (m_take (by omega) hC.2.1.1 ) (fun r μ2 hz => ?_)
  obtain ⟨hq2, rfl⟩ := hz
  have hN := LI.mdl hC (hC.2.1.fr hq2) hq2.out hok
  exact r_icmp_eq g 2363 dL_law_1976 (by decide) (fun _ => nx _ _ _ hN) (fun c => absurd rfl c)
theorem L_case_32 (g : xCtx RL cL_law 7 d mc ms yn ro J) (hd : 40 ≤ d) (hsl : SL J b0 Ls xs) (hi : i + 7 ≤ Ls) (hk : k + 448 ≤ mc) (hn : n + 5600 ≤ ms) (h : LI x m w A X S μ) (nx : ∀ A' S' μ', LI x m w A' X S' μ' → J μ' k n 2363 [(4, .int (nI i)), (3, .ref w), (2, .ref m), (1, .ref x), (0, .ref b0)] []) : J μ k n 1981 [(4, .int (nI i)), (3, .ref w), (2, .ref m), (1, .ref x), (0, .ref b0)] [] := by
  obtain ⟨⟨rfl, hc⟩, hm, hok, hw, ⟨b, N, l, hsb, hbX⟩, hap⟩ := id h
  refine r_aload_n g dL_law_1981 rfl ?_
  refine r_aload_n g dL_law_1982 rfl ?_
  refine r_iload g dL_law_1983 rfl ?_
  refine r_iconst g 1 dL_law_1985 (by decide) ?_
  refine r_iadd g dL_law_1986 ?_
  refine r_nmV (.int (nI (i + 1))) (by rw [nIadd]; rfl) ?_
  refine hsl _ _ _ _ _ _ (i + 1) (by omega) dL_law_1987 ?_
  refine r_aload_n g dL_law_1988 rfl ?_
  refine r_iload g dL_law_1989 rfl ?_
  refine r_iconst g 2 dL_law_1991 (by decide) ?_
  refine r_iadd g dL_law_1992 ?_
  refine r_nmV (.int (nI (i + 2))) (by rw [nIadd]; rfl) ?_
  refine hsl _ _ _ _ _ _ (i + 2) (by omega) dL_law_1993 ?_
  refine r_aload_n g dL_law_1994 rfl ?_
  refine r_iload g dL_law_1995 rfl ?_
  refine r_iconst g 3 dL_law_1997 (by decide) ?_
  refine r_iadd g dL_law_1998 ?_
  refine r_nmV (.int (nI (i + 3))) (by rw [nIadd]; rfl) ?_
  refine hsl _ _ _ _ _ _ (i + 3) (by omega) dL_law_1999 ?_
  refine r_aload_n g dL_law_2000 rfl ?_
  refine r_iload g dL_law_2001 rfl ?_
  refine r_iconst g 4 dL_law_2003 (by decide) ?_
  refine r_iadd g dL_law_2004 ?_
  refine r_nmV (.int (nI (i + 4))) (by rw [nIadd]; rfl) ?_
  refine hsl _ _ _ _ _ _ (i + 4) (by omega) dL_law_2005 ?_
  refine r_callV (d' := d - 1) (st := []) (As := [.int (xs (i + 1)), .int (xs (i + 2)), .int (xs (i + 3)), .int (xs (i + 4))]) g sL_162 iX11_twice eX11_twice (show vwCl[10]? = some (RX11, TX11, 18) from rfl) (hc.1.1.1.s 0 14 18) rfl (Nat.le_of_ble_eq_true rfl) dL_law_2006 (by omega) (by omega) (by omega) (c_twice (by omega) hc.1) (fun r μ1 hz => ?_)
  obtain ⟨hq, rfl⟩ := hz
  have hC := h.cls (Or.inl rfl) (hc.fr hq) hq.out
  refine r_aload_n g dL_law_2009 rfl ?_
  refine r_aload_n g dL_law_2010 rfl ?_
  refine r_iload g dL_law_2011 rfl ?_
  refine r_iconst g 1 dL_law_2013 (by decide) ?_
  refine r_iadd g dL_law_2014 ?_
  refine r_nmV (.int (nI (i + 1))) (by rw [nIadd]; rfl) ?_
  refine hsl _ _ _ _ _ _ (i + 1) (by omega) dL_law_2015 ?_
  refine r_aload_n g dL_law_2016 rfl ?_
  refine r_iload g dL_law_2017 rfl ?_
  refine r_iconst g 2 dL_law_2019 (by decide) ?_
  refine r_iadd g dL_law_2020 ?_
  refine r_nmV (.int (nI (i + 2))) (by rw [nIadd]; rfl) ?_
  refine hsl _ _ _ _ _ _ (i + 2) (by omega) dL_law_2021 ?_
  refine r_aload_n g dL_law_2022 rfl ?_
  refine r_iload g dL_law_2023 rfl ?_
  refine r_iconst g 3 dL_law_2025 (by decide) ?_
  refine r_iadd g dL_law_2026 ?_
  refine r_nmV (.int (nI (i + 3))) (by rw [nIadd]; rfl) ?_
  refine hsl _ _ _ _ _ _ (i + 3) (by omega) dL_law_2027 ?_
  refine r_aload_n g dL_law_2028 rfl ?_
  refine r_iload g dL_law_2029 rfl ?_
  refine r_iconst g 4 dL_law_2031 (by decide) ?_
  refine r_iadd g dL_law_2032 ?_
  refine r_nmV (.int (nI (i + 4))) (by rw [nIadd]; rfl) ?_
  refine hsl _ _ _ _ _ _ (i + 4) (by omega) dL_law_2033 ?_
  refine r_callV (d' := d - 1) (st := [.int _]) (As := [.int (xs (i + 1)), .int (xs (i + 2)), .int (xs (i + 3)), .int (xs (i + 4))]) g sL_165 iX12_twice eX12_twice (show vwCl[11]? = some (RX12, TX12, 65) from rfl) hC.2.1.1.1.1.1 rfl (Nat.le_of_ble_eq_true rfl) dL_law_2034 (by omega) (by omega) (by omega) (m_twice (by omega) hC.2.1.1 ) (fun r μ2 hz => ?_)
  obtain ⟨hq2, rfl⟩ := hz
  have hN := LI.mdl hC (hC.2.1.fr hq2) hq2.out hok
  exact r_icmp_eq g 2363 dL_law_2037 (by decide) (fun _ => nx _ _ _ hN) (fun c => absurd rfl c)
theorem L_case_33 (g : xCtx RL cL_law 7 d mc ms yn ro J) (hd : 40 ≤ d) (hsl : SL J b0 Ls xs) (hi : i + 7 ≤ Ls) (hk : k + 448 ≤ mc) (hn : n + 5600 ≤ ms) (h : LI x m w A X S μ) (nx : ∀ A' S' μ', LI x m w A' X S' μ' → J μ' k n 2363 [(4, .int (nI i)), (3, .ref w), (2, .ref m), (1, .ref x), (0, .ref b0)] []) : J μ k n 2042 [(4, .int (nI i)), (3, .ref w), (2, .ref m), (1, .ref x), (0, .ref b0)] [] := by
  obtain ⟨⟨rfl, hc⟩, hm, hok, hw, ⟨b, N, l, hsb, hbX⟩, hap⟩ := id h
  refine r_aload_n g dL_law_2042 rfl ?_
  refine r_aload_n g dL_law_2043 rfl ?_
  refine r_iload g dL_law_2044 rfl ?_
  refine r_iconst g 1 dL_law_2046 (by decide) ?_
  refine r_iadd g dL_law_2047 ?_
  refine r_nmV (.int (nI (i + 1))) (by rw [nIadd]; rfl) ?_
  refine hsl _ _ _ _ _ _ (i + 1) (by omega) dL_law_2048 ?_
  refine r_aload_n g dL_law_2049 rfl ?_
  refine r_iload g dL_law_2050 rfl ?_
  refine r_iconst g 2 dL_law_2052 (by decide) ?_
  refine r_iadd g dL_law_2053 ?_
  refine r_nmV (.int (nI (i + 2))) (by rw [nIadd]; rfl) ?_
  refine hsl _ _ _ _ _ _ (i + 2) (by omega) dL_law_2054 ?_
  refine r_aload_n g dL_law_2055 rfl ?_
  refine r_iload g dL_law_2056 rfl ?_
  refine r_iconst g 3 dL_law_2058 (by decide) ?_
  refine r_iadd g dL_law_2059 ?_
  refine r_nmV (.int (nI (i + 3))) (by rw [nIadd]; rfl) ?_
  refine hsl _ _ _ _ _ _ (i + 3) (by omega) dL_law_2060 ?_
  refine r_aload_n g dL_law_2061 rfl ?_
  refine r_iload g dL_law_2062 rfl ?_
  refine r_iconst g 4 dL_law_2064 (by decide) ?_
  refine r_iadd g dL_law_2065 ?_
  refine r_nmV (.int (nI (i + 4))) (by rw [nIadd]; rfl) ?_
  refine hsl _ _ _ _ _ _ (i + 4) (by omega) dL_law_2066 ?_
  refine r_callV (d' := d - 1) (st := []) (As := [.int (xs (i + 1)), .int (xs (i + 2)), .int (xs (i + 3)), .int (xs (i + 4))]) g sL_166 iX11_gross eX11_gross (show vwCl[10]? = some (RX11, TX11, 18) from rfl) (hc.1.1.1.s 0 14 18) rfl (Nat.le_of_ble_eq_true rfl) dL_law_2067 (by omega) (by omega) (by omega) (c_gross (by omega) hc.1) (fun r μ1 hz => ?_)
  obtain ⟨hq, rfl⟩ := hz
  have hC := h.cls (Or.inl rfl) (hc.fr hq) hq.out
  refine r_aload_n g dL_law_2070 rfl ?_
  refine r_aload_n g dL_law_2071 rfl ?_
  refine r_iload g dL_law_2072 rfl ?_
  refine r_iconst g 1 dL_law_2074 (by decide) ?_
  refine r_iadd g dL_law_2075 ?_
  refine r_nmV (.int (nI (i + 1))) (by rw [nIadd]; rfl) ?_
  refine hsl _ _ _ _ _ _ (i + 1) (by omega) dL_law_2076 ?_
  refine r_aload_n g dL_law_2077 rfl ?_
  refine r_iload g dL_law_2078 rfl ?_
  refine r_iconst g 2 dL_law_2080 (by decide) ?_
  refine r_iadd g dL_law_2081 ?_
  refine r_nmV (.int (nI (i + 2))) (by rw [nIadd]; rfl) ?_
  refine hsl _ _ _ _ _ _ (i + 2) (by omega) dL_law_2082 ?_
  refine r_aload_n g dL_law_2083 rfl ?_
  refine r_iload g dL_law_2084 rfl ?_
  refine r_iconst g 3 dL_law_2086 (by decide) ?_
  refine r_iadd g dL_law_2087 ?_
  refine r_nmV (.int (nI (i + 3))) (by rw [nIadd]; rfl) ?_
  refine hsl _ _ _ _ _ _ (i + 3) (by omega) dL_law_2088 ?_
  refine r_aload_n g dL_law_2089 rfl ?_
  refine r_iload g dL_law_2090 rfl ?_
  refine r_iconst g 4 dL_law_2092 (by decide) ?_
  refine r_iadd g dL_law_2093 ?_
  refine r_nmV (.int (nI (i + 4))) (by rw [nIadd]; rfl) ?_
  refine hsl _ _ _ _ _ _ (i + 4) (by omega) dL_law_2094 ?_
  refine r_callV (d' := d - 1) (st := [.int _]) (As := [.int (xs (i + 1)), .int (xs (i + 2)), .int (xs (i + 3)), .int (xs (i + 4))]) g sL_169 iX12_gross eX12_gross (show vwCl[11]? = some (RX12, TX12, 65) from rfl) hC.2.1.1.1.1.1 rfl (Nat.le_of_ble_eq_true rfl) dL_law_2095 (by omega) (by omega) (by omega) (m_gross (by omega) hC.2.1.1 ) (fun r μ2 hz => ?_)
  obtain ⟨hq2, rfl⟩ := hz
  have hN := LI.mdl hC (hC.2.1.fr hq2) hq2.out hok
  exact r_icmp_eq g 2363 dL_law_2098 (by decide) (fun _ => nx _ _ _ hN) (fun c => absurd rfl c)
theorem L_case_34 (g : xCtx RL cL_law 7 d mc ms yn ro J) (hd : 40 ≤ d) (hsl : SL J b0 Ls xs) (hi : i + 7 ≤ Ls) (hk : k + 448 ≤ mc) (hn : n + 5600 ≤ ms) (h : LI x m w A X S μ) (nx : ∀ A' S' μ', LI x m w A' X S' μ' → J μ' k n 2363 [(4, .int (nI i)), (3, .ref w), (2, .ref m), (1, .ref x), (0, .ref b0)] []) : J μ k n 2103 [(4, .int (nI i)), (3, .ref w), (2, .ref m), (1, .ref x), (0, .ref b0)] [] := by
  obtain ⟨⟨rfl, hc⟩, hm, hok, hw, ⟨b, N, l, hsb, hbX⟩, hap⟩ := id h
  refine r_aload_n g dL_law_2103 rfl ?_
  refine r_aload_n g dL_law_2104 rfl ?_
  refine r_iload g dL_law_2105 rfl ?_
  refine r_iconst g 1 dL_law_2107 (by decide) ?_
  refine r_iadd g dL_law_2108 ?_
  refine r_nmV (.int (nI (i + 1))) (by rw [nIadd]; rfl) ?_
  refine hsl _ _ _ _ _ _ (i + 1) (by omega) dL_law_2109 ?_
  refine r_aload_n g dL_law_2110 rfl ?_
  refine r_iload g dL_law_2111 rfl ?_
  refine r_iconst g 2 dL_law_2113 (by decide) ?_
  refine r_iadd g dL_law_2114 ?_
  refine r_nmV (.int (nI (i + 2))) (by rw [nIadd]; rfl) ?_
  refine hsl _ _ _ _ _ _ (i + 2) (by omega) dL_law_2115 ?_
  refine r_aload_n g dL_law_2116 rfl ?_
  refine r_iload g dL_law_2117 rfl ?_
  refine r_iconst g 3 dL_law_2119 (by decide) ?_
  refine r_iadd g dL_law_2120 ?_
  refine r_nmV (.int (nI (i + 3))) (by rw [nIadd]; rfl) ?_
  refine hsl _ _ _ _ _ _ (i + 3) (by omega) dL_law_2121 ?_
  refine r_aload_n g dL_law_2122 rfl ?_
  refine r_iload g dL_law_2123 rfl ?_
  refine r_iconst g 4 dL_law_2125 (by decide) ?_
  refine r_iadd g dL_law_2126 ?_
  refine r_nmV (.int (nI (i + 4))) (by rw [nIadd]; rfl) ?_
  refine hsl _ _ _ _ _ _ (i + 4) (by omega) dL_law_2127 ?_
  refine r_aload_n g dL_law_2128 rfl ?_
  refine r_iload g dL_law_2129 rfl ?_
  refine r_iconst g 5 dL_law_2131 (by decide) ?_
  refine r_iadd g dL_law_2132 ?_
  refine r_nmV (.int (nI (i + 5))) (by rw [nIadd]; rfl) ?_
  refine hsl _ _ _ _ _ _ (i + 5) (by omega) dL_law_2133 ?_
  refine r_callV (d' := d - 1) (st := []) (As := [.int (xs (i + 1)), .int (xs (i + 2)), .int (xs (i + 3)), .int (xs (i + 4)), .int (xs (i + 5))]) g sL_170 iX11_worth eX11_worth (show vwCl[10]? = some (RX11, TX11, 18) from rfl) (hc.1.1.1.s 0 14 18) rfl (Nat.le_of_ble_eq_true rfl) dL_law_2134 (by omega) (by omega) (by omega) (c_worth (by omega) hc.1) (fun r μ1 hz => ?_)
  obtain ⟨hq, rfl⟩ := hz
  have hC := h.cls (Or.inl rfl) (hc.fr hq) hq.out
  refine r_aload_n g dL_law_2137 rfl ?_
  refine r_aload_n g dL_law_2138 rfl ?_
  refine r_iload g dL_law_2139 rfl ?_
  refine r_iconst g 1 dL_law_2141 (by decide) ?_
  refine r_iadd g dL_law_2142 ?_
  refine r_nmV (.int (nI (i + 1))) (by rw [nIadd]; rfl) ?_
  refine hsl _ _ _ _ _ _ (i + 1) (by omega) dL_law_2143 ?_
  refine r_aload_n g dL_law_2144 rfl ?_
  refine r_iload g dL_law_2145 rfl ?_
  refine r_iconst g 2 dL_law_2147 (by decide) ?_
  refine r_iadd g dL_law_2148 ?_
  refine r_nmV (.int (nI (i + 2))) (by rw [nIadd]; rfl) ?_
  refine hsl _ _ _ _ _ _ (i + 2) (by omega) dL_law_2149 ?_
  refine r_aload_n g dL_law_2150 rfl ?_
  refine r_iload g dL_law_2151 rfl ?_
  refine r_iconst g 3 dL_law_2153 (by decide) ?_
  refine r_iadd g dL_law_2154 ?_
  refine r_nmV (.int (nI (i + 3))) (by rw [nIadd]; rfl) ?_
  refine hsl _ _ _ _ _ _ (i + 3) (by omega) dL_law_2155 ?_
  refine r_aload_n g dL_law_2156 rfl ?_
  refine r_iload g dL_law_2157 rfl ?_
  refine r_iconst g 4 dL_law_2159 (by decide) ?_
  refine r_iadd g dL_law_2160 ?_
  refine r_nmV (.int (nI (i + 4))) (by rw [nIadd]; rfl) ?_
  refine hsl _ _ _ _ _ _ (i + 4) (by omega) dL_law_2161 ?_
  refine r_aload_n g dL_law_2162 rfl ?_
  refine r_iload g dL_law_2163 rfl ?_
  refine r_iconst g 5 dL_law_2165 (by decide) ?_
  refine r_iadd g dL_law_2166 ?_
  refine r_nmV (.int (nI (i + 5))) (by rw [nIadd]; rfl) ?_
  refine hsl _ _ _ _ _ _ (i + 5) (by omega) dL_law_2167 ?_
  refine r_callV (d' := d - 1) (st := [.int _]) (As := [.int (xs (i + 1)), .int (xs (i + 2)), .int (xs (i + 3)), .int (xs (i + 4)), .int (xs (i + 5))]) g sL_173 iX12_worth eX12_worth (show vwCl[11]? = some (RX12, TX12, 65) from rfl) hC.2.1.1.1.1.1 rfl (Nat.le_of_ble_eq_true rfl) dL_law_2168 (by omega) (by omega) (by omega) (m_worth (by omega) hC.2.1.1 ) (fun r μ2 hz => ?_)
  obtain ⟨hq2, rfl⟩ := hz
  have hN := LI.mdl hC (hC.2.1.fr hq2) hq2.out hok
  exact r_icmp_eq g 2363 dL_law_2171 (by decide) (fun _ => nx _ _ _ hN) (fun c => absurd rfl c)
theorem L_case_35 (g : xCtx RL cL_law 7 d mc ms yn ro J) (hd : 40 ≤ d) (hsl : SL J b0 Ls xs) (hi : i + 7 ≤ Ls) (hk : k + 448 ≤ mc) (hn : n + 5600 ≤ ms) (h : LI x m w A X S μ) (nx : ∀ A' S' μ', LI x m w A' X S' μ' → J μ' k n 2363 [(4, .int (nI i)), (3, .ref w), (2, .ref m), (1, .ref x), (0, .ref b0)] []) : J μ k n 2176 [(4, .int (nI i)), (3, .ref w), (2, .ref m), (1, .ref x), (0, .ref b0)] [] := by
  obtain ⟨⟨rfl, hc⟩, hm, hok, hw, ⟨b, N, l, hsb, hbX⟩, hap⟩ := id h
  refine r_aload_n g dL_law_2176 rfl ?_
  refine r_aload_n g dL_law_2177 rfl ?_
  refine r_iload g dL_law_2178 rfl ?_
  refine r_iconst g 1 dL_law_2180 (by decide) ?_
  refine r_iadd g dL_law_2181 ?_
  refine r_nmV (.int (nI (i + 1))) (by rw [nIadd]; rfl) ?_
  refine hsl _ _ _ _ _ _ (i + 1) (by omega) dL_law_2182 ?_
  refine r_aload_n g dL_law_2183 rfl ?_
  refine r_iload g dL_law_2184 rfl ?_
  refine r_iconst g 2 dL_law_2186 (by decide) ?_
  refine r_iadd g dL_law_2187 ?_
  refine r_nmV (.int (nI (i + 2))) (by rw [nIadd]; rfl) ?_
  refine hsl _ _ _ _ _ _ (i + 2) (by omega) dL_law_2188 ?_
  refine r_aload_n g dL_law_2189 rfl ?_
  refine r_iload g dL_law_2190 rfl ?_
  refine r_iconst g 3 dL_law_2192 (by decide) ?_
  refine r_iadd g dL_law_2193 ?_
  refine r_nmV (.int (nI (i + 3))) (by rw [nIadd]; rfl) ?_
  refine hsl _ _ _ _ _ _ (i + 3) (by omega) dL_law_2194 ?_
  refine r_callV (d' := d - 1) (st := []) (As := [.int (xs (i + 1)), .int (xs (i + 2)), .int (xs (i + 3))]) g sL_174 iX11_step eX11_step (show vwCl[10]? = some (RX11, TX11, 18) from rfl) (hc.1.1.1.s 0 14 18) rfl (Nat.le_of_ble_eq_true rfl) dL_law_2195 (by omega) (by omega) (by omega) (c_step (by omega) hc) (fun r μ1 hz => ?_)
  obtain ⟨hq, rfl⟩ := hz
  have hC := h.cls (Or.inl rfl) (hc.fr hq) hq.out
  refine r_aload_n g dL_law_2198 rfl ?_
  refine r_aload_n g dL_law_2199 rfl ?_
  refine r_iload g dL_law_2200 rfl ?_
  refine r_iconst g 1 dL_law_2202 (by decide) ?_
  refine r_iadd g dL_law_2203 ?_
  refine r_nmV (.int (nI (i + 1))) (by rw [nIadd]; rfl) ?_
  refine hsl _ _ _ _ _ _ (i + 1) (by omega) dL_law_2204 ?_
  refine r_aload_n g dL_law_2205 rfl ?_
  refine r_iload g dL_law_2206 rfl ?_
  refine r_iconst g 2 dL_law_2208 (by decide) ?_
  refine r_iadd g dL_law_2209 ?_
  refine r_nmV (.int (nI (i + 2))) (by rw [nIadd]; rfl) ?_
  refine hsl _ _ _ _ _ _ (i + 2) (by omega) dL_law_2210 ?_
  refine r_aload_n g dL_law_2211 rfl ?_
  refine r_iload g dL_law_2212 rfl ?_
  refine r_iconst g 3 dL_law_2214 (by decide) ?_
  refine r_iadd g dL_law_2215 ?_
  refine r_nmV (.int (nI (i + 3))) (by rw [nIadd]; rfl) ?_
  refine hsl _ _ _ _ _ _ (i + 3) (by omega) dL_law_2216 ?_
  refine r_callV (d' := d - 1) (st := [.int _]) (As := [.int (xs (i + 1)), .int (xs (i + 2)), .int (xs (i + 3))]) g sL_177 iX12_step eX12_step (show vwCl[11]? = some (RX12, TX12, 65) from rfl) hC.2.1.1.1.1.1 rfl (Nat.le_of_ble_eq_true rfl) dL_law_2217 (by omega) (by omega) (by omega) (m_step (by omega) hC.2.1  hok.2.2.2.2.2.1.2 hok.2.2.2.2.2.2.1) (fun r μ2 hz => ?_)
  obtain ⟨hq2, rfl⟩ := hz
  have hN := LI.mdl hC (hC.2.1.fr hq2) hq2.out hok
  exact r_icmp_eq g 2363 dL_law_2220 (by decide) (fun _ => nx _ _ _ hN) (fun c => absurd rfl c)
theorem L_case_36 (g : xCtx RL cL_law 7 d mc ms yn ro J) (hd : 40 ≤ d) (hsl : SL J b0 Ls xs) (hi : i + 7 ≤ Ls) (hk : k + 448 ≤ mc) (hn : n + 5600 ≤ ms) (h : LI x m w A X S μ) (nx : ∀ A' S' μ', LI x m w A' X S' μ' → J μ' k n 2363 [(4, .int (nI i)), (3, .ref w), (2, .ref m), (1, .ref x), (0, .ref b0)] []) : J μ k n 2225 [(4, .int (nI i)), (3, .ref w), (2, .ref m), (1, .ref x), (0, .ref b0)] [] := by
  obtain ⟨⟨rfl, hc⟩, hm, hok, hw, ⟨b, N, l, hsb, hbX⟩, hap⟩ := id h
  refine r_aload_n g dL_law_2225 rfl ?_
  refine r_aload_n g dL_law_2226 rfl ?_
  refine r_iload g dL_law_2227 rfl ?_
  refine r_iconst g 1 dL_law_2229 (by decide) ?_
  refine r_iadd g dL_law_2230 ?_
  refine r_nmV (.int (nI (i + 1))) (by rw [nIadd]; rfl) ?_
  refine hsl _ _ _ _ _ _ (i + 1) (by omega) dL_law_2231 ?_
  refine r_aload_n g dL_law_2232 rfl ?_
  refine r_iload g dL_law_2233 rfl ?_
  refine r_iconst g 2 dL_law_2235 (by decide) ?_
  refine r_iadd g dL_law_2236 ?_
  refine r_nmV (.int (nI (i + 2))) (by rw [nIadd]; rfl) ?_
  refine hsl _ _ _ _ _ _ (i + 2) (by omega) dL_law_2237 ?_
  refine r_callV (d' := d - 1) (st := []) (As := [.int (xs (i + 1)), .int (xs (i + 2))]) g sL_178 iX11_run eX11_run (show vwCl[10]? = some (RX11, TX11, 18) from rfl) (hc.1.1.1.s 0 14 18) rfl (Nat.le_of_ble_eq_true rfl) dL_law_2238 (by omega) (by omega) (by omega) (c_run (by omega) hc) (fun r μ1 hz => ?_)
  obtain ⟨hq, rfl⟩ := hz
  have hC := h.cls (Or.inl rfl) (hc.fr hq) hq.out
  refine r_aload_n g dL_law_2241 rfl ?_
  refine r_aload_n g dL_law_2242 rfl ?_
  refine r_iload g dL_law_2243 rfl ?_
  refine r_iconst g 1 dL_law_2245 (by decide) ?_
  refine r_iadd g dL_law_2246 ?_
  refine r_nmV (.int (nI (i + 1))) (by rw [nIadd]; rfl) ?_
  refine hsl _ _ _ _ _ _ (i + 1) (by omega) dL_law_2247 ?_
  refine r_aload_n g dL_law_2248 rfl ?_
  refine r_iload g dL_law_2249 rfl ?_
  refine r_iconst g 2 dL_law_2251 (by decide) ?_
  refine r_iadd g dL_law_2252 ?_
  refine r_nmV (.int (nI (i + 2))) (by rw [nIadd]; rfl) ?_
  refine hsl _ _ _ _ _ _ (i + 2) (by omega) dL_law_2253 ?_
  refine r_callV (d' := d - 1) (st := [.int _]) (As := [.int (xs (i + 1)), .int (xs (i + 2))]) g sL_181 iX12_run eX12_run (show vwCl[11]? = some (RX12, TX12, 65) from rfl) hC.2.1.1.1.1.1 rfl (Nat.le_of_ble_eq_true rfl) dL_law_2254 (by omega) (by omega) (by omega) (m_run (by omega) hC.2.1 hok) (fun r μ2 hz => ?_)
  obtain ⟨hq2, rfl⟩ := hz
  have hN := LI.mdl hC (hC.2.1.fr hq2) hq2.out hok
  exact r_icmp_eq g 2363 dL_law_2257 (by decide) (fun _ => nx _ _ _ hN) (fun c => absurd rfl c)
theorem L_case_37 (g : xCtx RL cL_law 7 d mc ms yn ro J) (hd : 40 ≤ d) (hsl : SL J b0 Ls xs) (hi : i + 7 ≤ Ls) (hk : k + 448 ≤ mc) (hn : n + 5600 ≤ ms) (h : LI x m w A X S μ) (nx : ∀ A' S' μ', LI x m w A' X S' μ' → J μ' k n 2363 [(4, .int (nI i)), (3, .ref w), (2, .ref m), (1, .ref x), (0, .ref b0)] []) : J μ k n 2262 [(4, .int (nI i)), (3, .ref w), (2, .ref m), (1, .ref x), (0, .ref b0)] [] := by
  obtain ⟨⟨rfl, hc⟩, hm, hok, hw, ⟨b, N, l, hsb, hbX⟩, hap⟩ := id h
  refine r_aload_n g dL_law_2262 rfl ?_
  refine r_aload_n g dL_law_2263 rfl ?_
  refine r_iload g dL_law_2264 rfl ?_
  refine r_iconst g 1 dL_law_2266 (by decide) ?_
  refine r_iadd g dL_law_2267 ?_
  refine r_nmV (.int (nI (i + 1))) (by rw [nIadd]; rfl) ?_
  refine hsl _ _ _ _ _ _ (i + 1) (by omega) dL_law_2268 ?_
  refine r_callV (d' := d - 1) (st := []) (As := [.int (xs (i + 1))]) g sL_182 iX11_perform eX11_perform (show vwCl[10]? = some (RX11, TX11, 18) from rfl) (hc.1.1.1.s 0 14 18) rfl (Nat.le_of_ble_eq_true rfl) dL_law_2269 (by omega) (by omega) (by omega) (c_perform (by omega) hc) (fun r μ1 hz => ?_)
  obtain ⟨rfl, hc1, ho⟩ := hz
  have hC := h.cls (Or.inl rfl) hc1 ho
  refine r_aload_n g dL_law_2272 rfl ?_
  refine r_aload_n g dL_law_2273 rfl ?_
  refine r_iload g dL_law_2274 rfl ?_
  refine r_iconst g 1 dL_law_2276 (by decide) ?_
  refine r_iadd g dL_law_2277 ?_
  refine r_nmV (.int (nI (i + 1))) (by rw [nIadd]; rfl) ?_
  refine hsl _ _ _ _ _ _ (i + 1) (by omega) dL_law_2278 ?_
  refine r_callV (d' := d - 1) (st := [.int _]) (As := [.int (xs (i + 1))]) g sL_185 iX12_perform eX12_perform (show vwCl[11]? = some (RX12, TX12, 65) from rfl) hC.2.1.1.1.1.1 rfl (Nat.le_of_ble_eq_true rfl) dL_law_2279 (by omega) (by omega) (by omega) (m_perform (by omega) hC.2.1 hok) (fun r μ2 hz => ?_)
  obtain ⟨rfl, hm2, ho2⟩ := hz
  have hN := LI.mdl hC hm2 ho2 hC.1.2.ok
  exact r_icmp_eq g 2363 dL_law_2282 (by decide) (fun _ => nx _ _ _ hN) (fun c => absurd rfl c)
theorem L_case_38 (g : xCtx RL cL_law 7 d mc ms yn ro J) (hd : 40 ≤ d) (hsl : SL J b0 Ls xs) (hi : i + 7 ≤ Ls) (hk : k + 448 ≤ mc) (hn : n + 5600 ≤ ms) (h : LI x m w A X S μ) (nx : ∀ A' S' μ', LI x m w A' X S' μ' → J μ' k n 2363 [(4, .int (nI i)), (3, .ref w), (2, .ref m), (1, .ref x), (0, .ref b0)] []) : J μ k n 2287 [(4, .int (nI i)), (3, .ref w), (2, .ref m), (1, .ref x), (0, .ref b0)] [] := by
  obtain ⟨⟨rfl, hc⟩, hm, hok, hw, ⟨b, N, l, hsb, hbX⟩, hap⟩ := id h
  refine r_aload_n g dL_law_2287 rfl ?_
  refine r_aload_n g dL_law_2288 rfl ?_
  refine r_iload g dL_law_2289 rfl ?_
  refine r_iconst g 1 dL_law_2291 (by decide) ?_
  refine r_iadd g dL_law_2292 ?_
  refine r_nmV (.int (nI (i + 1))) (by rw [nIadd]; rfl) ?_
  refine hsl _ _ _ _ _ _ (i + 1) (by omega) dL_law_2293 ?_
  refine r_callV (d' := d - 1) (st := []) (As := [.int (xs (i + 1))]) g sL_186 iX11_all eX11_all (show vwCl[10]? = some (RX11, TX11, 18) from rfl) (hc.1.1.1.s 0 14 18) rfl (Nat.le_of_ble_eq_true rfl) dL_law_2294 (by omega) (by omega) (by omega) (c_all (by omega) hc.1) (fun r μ1 hz => ?_)
  obtain ⟨hq, rfl⟩ := hz
  have hC := h.cls (Or.inl rfl) (hc.fr hq) hq.out
  refine r_aload_n g dL_law_2297 rfl ?_
  refine r_aload_n g dL_law_2298 rfl ?_
  refine r_iload g dL_law_2299 rfl ?_
  refine r_iconst g 1 dL_law_2301 (by decide) ?_
  refine r_iadd g dL_law_2302 ?_
  refine r_nmV (.int (nI (i + 1))) (by rw [nIadd]; rfl) ?_
  refine hsl _ _ _ _ _ _ (i + 1) (by omega) dL_law_2303 ?_
  refine r_callV (d' := d - 1) (st := [.int _]) (As := [.int (xs (i + 1))]) g sL_189 iX12_all eX12_all (show vwCl[11]? = some (RX12, TX12, 65) from rfl) hC.2.1.1.1.1.1 rfl (Nat.le_of_ble_eq_true rfl) dL_law_2304 (by omega) (by omega) (by omega) (m_all (by omega) hC.2.1.1 ) (fun r μ2 hz => ?_)
  obtain ⟨hq2, rfl⟩ := hz
  have hN := LI.mdl hC (hC.2.1.fr hq2) hq2.out hok
  exact r_icmp_eq g 2363 dL_law_2307 (by decide) (fun _ => nx _ _ _ hN) (fun c => absurd rfl c)
theorem L_case_39 (g : xCtx RL cL_law 7 d mc ms yn ro J) (hd : 40 ≤ d) (hsl : SL J b0 Ls xs) (hi : i + 7 ≤ Ls) (hk : k + 448 ≤ mc) (hn : n + 5600 ≤ ms) (h : LI x m w A X S μ) (nx : ∀ A' S' μ', LI x m w A' X S' μ' → J μ' k n 2363 [(4, .int (nI i)), (3, .ref w), (2, .ref m), (1, .ref x), (0, .ref b0)] []) : J μ k n 2312 [(4, .int (nI i)), (3, .ref w), (2, .ref m), (1, .ref x), (0, .ref b0)] [] := by
  obtain ⟨⟨rfl, hc⟩, hm, hok, hw, ⟨b, N, l, hsb, hbX⟩, hap⟩ := id h
  refine r_aload_n g dL_law_2312 rfl ?_
  refine r_callV (d' := d - 1) (st := []) (As := []) g sL_190 iX11_image eX11_image (show vwCl[10]? = some (RX11, TX11, 18) from rfl) (hc.1.1.1.s 0 14 18) rfl (Nat.le_of_ble_eq_true rfl) dL_law_2313 (by omega) (by omega) (by omega) (c_image (by omega) hc) (fun r μ1 hz => ?_)
  obtain ⟨rfl, hc1, ho⟩ := hz
  have hC := h.cls (Or.inl rfl) hc1 ho
  refine r_aload_n g dL_law_2316 rfl ?_
  refine r_callV (d' := d - 1) (st := [.int _]) (As := []) g sL_193 iX12_image eX12_image (show vwCl[11]? = some (RX12, TX12, 65) from rfl) hC.2.1.1.1.1.1 rfl (Nat.le_of_ble_eq_true rfl) dL_law_2317 (by omega) (by omega) (by omega) (m_image (by omega) hC.2.1 hok) (fun r μ2 hz => ?_)
  obtain ⟨rfl, hm2, ho2⟩ := hz
  have hN := LI.mdl hC hm2 ho2 hC.1.2.ok
  exact r_icmp_eq g 2363 dL_law_2320 (by decide) (fun _ => nx _ _ _ hN) (fun c => absurd rfl c)
theorem L_case_40 (g : xCtx RL cL_law 7 d mc ms yn ro J) (hd : 40 ≤ d) (hsl : SL J b0 Ls xs) (hi : i + 7 ≤ Ls) (hk : k + 448 ≤ mc) (hn : n + 5600 ≤ ms) (h : LI x m w A X S μ) (nx : ∀ A' S' μ', LI x m w A' X S' μ' → J μ' k n 2363 [(4, .int (nI i)), (3, .ref w), (2, .ref m), (1, .ref x), (0, .ref b0)] []) : J μ k n 2325 [(4, .int (nI i)), (3, .ref w), (2, .ref m), (1, .ref x), (0, .ref b0)] [] := by
  obtain ⟨⟨rfl, hc⟩, hm, hok, hw, ⟨b, N, l, hsb, hbX⟩, hap⟩ := id h
  refine r_aload_n g dL_law_2325 rfl ?_
  refine r_callV (d' := d - 1) (st := []) (As := []) g sL_194 iX11_back eX11_back (show vwCl[10]? = some (RX11, TX11, 18) from rfl) (hc.1.1.1.s 0 14 18) rfl (Nat.le_of_ble_eq_true rfl) dL_law_2326 (by omega) (by omega) (by omega) (c_back (by omega) hc) (fun r μ1 hz => ?_)
  obtain ⟨rfl, hc1, ho⟩ := hz
  have hC := h.cls (Or.inl rfl) hc1 ho
  refine r_aload_n g dL_law_2329 rfl ?_
  refine r_callV (d' := d - 1) (st := [.int _]) (As := []) g sL_197 iX12_back eX12_back (show vwCl[11]? = some (RX12, TX12, 65) from rfl) hC.2.1.1.1.1.1 rfl (Nat.le_of_ble_eq_true rfl) dL_law_2330 (by omega) (by omega) (by omega) (m_back (by omega) hC.2.1 hok) (fun r μ2 hz => ?_)
  obtain ⟨rfl, hm2, ho2⟩ := hz
  have hN := LI.mdl hC hm2 ho2 hC.1.2.ok
  exact r_icmp_eq g 2363 dL_law_2333 (by decide) (fun _ => nx _ _ _ hN) (fun c => absurd rfl c)
theorem L_case_41 (g : xCtx RL cL_law 7 d mc ms yn ro J) (hd : 40 ≤ d) (hsl : SL J b0 Ls xs) (hi : i + 7 ≤ Ls) (hk : k + 448 ≤ mc) (hn : n + 5600 ≤ ms) (h : LI x m w A X S μ) (nx : ∀ A' S' μ', LI x m w A' X S' μ' → J μ' k n 2363 [(4, .int (nI i)), (3, .ref w), (2, .ref m), (1, .ref x), (0, .ref b0)] []) : J μ k n 2338 [(4, .int (nI i)), (3, .ref w), (2, .ref m), (1, .ref x), (0, .ref b0)] [] := by
  obtain ⟨⟨rfl, hc⟩, hm, hok, hw, ⟨b, N, l, hsb, hbX⟩, hap⟩ := id h
  refine r_aload_n g dL_law_2338 rfl ?_
  refine r_aload_n g dL_law_2339 rfl ?_
  refine r_iload g dL_law_2340 rfl ?_
  refine r_iconst g 1 dL_law_2342 (by decide) ?_
  refine r_iadd g dL_law_2343 ?_
  refine r_nmV (.int (nI (i + 1))) (by rw [nIadd]; rfl) ?_
  refine hsl _ _ _ _ _ _ (i + 1) (by omega) dL_law_2344 ?_
  refine r_callV (d' := d - 1) (st := []) (As := [.int (xs (i + 1))]) g sL_198 iX11_count eX11_count (show vwCl[10]? = some (RX11, TX11, 18) from rfl) (hc.1.1.1.s 0 14 18) rfl (Nat.le_of_ble_eq_true rfl) dL_law_2345 (by omega) (by omega) (by omega) (c_count (by omega) hc) (fun r μ1 hz => ?_)
  obtain ⟨hq, rfl⟩ := hz
  have hC := h.cls (Or.inl rfl) (hc.fr hq) hq.out
  refine r_aload_n g dL_law_2348 rfl ?_
  refine r_aload_n g dL_law_2349 rfl ?_
  refine r_iload g dL_law_2350 rfl ?_
  refine r_iconst g 1 dL_law_2352 (by decide) ?_
  refine r_iadd g dL_law_2353 ?_
  refine r_nmV (.int (nI (i + 1))) (by rw [nIadd]; rfl) ?_
  refine hsl _ _ _ _ _ _ (i + 1) (by omega) dL_law_2354 ?_
  refine r_callV (d' := d - 1) (st := [.int _]) (As := [.int (xs (i + 1))]) g sL_201 iX12_count eX12_count (show vwCl[11]? = some (RX12, TX12, 65) from rfl) hC.2.1.1.1.1.1 rfl (Nat.le_of_ble_eq_true rfl) dL_law_2355 (by omega) (by omega) (by omega) (m_count  hC.2.1 ) (fun r μ2 hz => ?_)
  obtain ⟨hq2, rfl⟩ := hz
  have hN := LI.mdl hC (hC.2.1.fr hq2) hq2.out hok
  exact r_icmp_eq g 2363 dL_law_2358 (by decide) (fun _ => nx _ _ _ hN) (fun c => absurd rfl c)
end lawc
