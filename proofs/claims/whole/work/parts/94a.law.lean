/-! The law's roads: at, owners, ofOwner, stretch, inRow -/
section LB
variable {p : Program} {l : Launch} {e : Env} {s : State} {m : MethodId} {below : List Frame} {meth : Method} {c : Code} {b L : Nat} {xs : Nat → Int32} {dC : Nat → ClassId} {dI : Nat → Nat → Nat} {cA : Nat → ClassId} {q : Nat → Nat} {h : Nat} {ad : Nat → Nat} {H : Heap} {locs : List Loc} {cells slots N i : Nat} {Q : State → Prop} {ls : Array Slot} {σN σW σP κ τ : St} {M : Mk}
set_option maxHeartbeats 4000000 in
set_option maxRecDepth 100000 in
theorem cs_at (C : lwC p s m meth c b L xs dC dI cA) (hl : lv_has ls 4 [(0, .ref b), (1, .ref (q 0)), (2, .ref h), (3, .int (nI i))]) (hi : i + 6 ≤ L) (hL : L ≤ 3072) (hN : N + 8100 < 2147483648) (hf : cells + 17 ≤ 600000 ∧ slots + 1303 ≤ 7302250) (I : INV N σN σP κ M τ) (hP : va_P (dC, dI) vwCl (lwW cA q h ad σN σW σP κ M τ) H) (hD : va_D (fun q : Nat => s.heap.size ≤ q) (lwW cA q h ad σN σW σP κ M τ)) (hS : va_S (fun q : Nat => s.heap.size ≤ q) s.heap H locs) (kk : lwK p l e s m below meth c b dC dI cA q h ad cells slots (N + 8100) Q ls) : W p l e room_1 s m #[Value.ref b] below meth c H locs cells slots Q (F0 m 364 ls []) := by
  obtain ⟨⟨hx, hb, hr, hml, hown, hts0, hX, hbl, hlocks, hgv⟩, hK, hO, hN0, hV⟩ := C
  have hts : ∀ w ∈ wsL_law, w.before #[Value.ref b] s = true := fun w hw => hts0 w (wsL_law_in w hw)
  have hC : CallFix p m c code 4 s #[Value.ref b] wsL_law RL := ⟨hx, hb, hml, hown, hts⟩
  have hA : ∀ z : Nat, s.heap.size ≤ z → (fun q : Nat => s.heap.size ≤ q) z := fun _ h => h
  have hf0 : cells ≤ 600000 ∧ slots ≤ 7302250 := by omega
  obtain ⟨v, e1, e2⟩ := I.rdr (cl := fun σ => fX3_at (xs (i + 1)) (xs (i + 2)) σ σW σP κ) (rf := fX4_at (xs (i + 1)) (xs (i + 2))) (fun A hw => at_b hw (xs (i + 1)) (xs (i + 2)))
  refine lv_aload_n hx hb dL_law_364 rfl (lv_at hl 1 rfl) ?_
  refine lw_arg (k := 1) hx hb hX hbl hS (lv_at hl 0 rfl) (lv_at hl 3 rfl) dL_law_365 dL_law_366 dL_law_367 (by decide) dL_law_368 dL_law_369 (by omega) (by omega) ?_
  refine lw_arg (k := 2) hx hb hX hbl hS (lv_at hl 0 rfl) (lv_at hl 3 rfl) dL_law_370 dL_law_371 dL_law_372 (by decide) dL_law_373 dL_law_374 (by omega) (by omega) ?_
  refine x_PI (As := [.int (xs (i + 1)), .int (xs (i + 2))]) (rest := []) (wr := wM cA h ad τ) (w' := wM cA h ad τ ++ wXK cA q σN σW σP κ M) hC (kX3_at l dC dI cA q (wRs cA q M ++ wkL cA M (List.range 9)) (xs (i + 1)) (xs (i + 2)) σN σW σP κ v e1) (cwV 2 hts gL_law_X3_at rfl rfl rfl (by decide +kernel) ⟨(Nat.le_of_ble_eq_true rfl), (Nat.le_of_ble_eq_true rfl)⟩) 11 3 hV hN0 hK hP hD hS hA List.perm_append_comm List.perm_append_comm rfl rfl rfl rfl hl.1 rfl (Nat.le_of_ble_eq_true rfl) hf0 dL_law_375 (fun H locs hP hD hS => ?_)
  refine lv_aload_n hx hb dL_law_378 rfl (lv_at hl 2 rfl) ?_
  refine lw_arg (k := 1) hx hb hX hbl hS (lv_at hl 0 rfl) (lv_at hl 3 rfl) dL_law_379 dL_law_380 dL_law_381 (by decide) dL_law_382 dL_law_383 (by omega) (by omega) ?_
  refine lw_arg (k := 2) hx hb hX hbl hS (lv_at hl 0 rfl) (lv_at hl 3 rfl) dL_law_384 dL_law_385 dL_law_386 (by decide) dL_law_387 dL_law_388 (by omega) (by omega) ?_
  refine x_PI (As := [.int (xs (i + 1)), .int (xs (i + 2))]) (rest := [.int v]) (wr := wXK cA q σN σW σP κ M) (w' := wM cA h ad τ ++ wXK cA q σN σW σP κ M) hC (kX4_at l dC dI cA h ad (xs (i + 1)) (xs (i + 2)) τ v e2) (cwV 2 hts gL_law_X4_at rfl rfl rfl (by decide +kernel) ⟨(Nat.le_of_ble_eq_true rfl), (Nat.le_of_ble_eq_true rfl)⟩) 0 4 hV hN0 hK hP hD hS hA (List.Perm.refl _) (List.Perm.refl _) rfl rfl rfl rfl hl.1 rfl (Nat.le_of_ble_eq_true rfl) hf0 dL_law_389 (fun H locs hP hD hS => ?_)
  refine lv_icmp_eq (tgt := 1027) hx hb dL_law_392 (by decide) (fun _ => ?_) (fun hc => absurd rfl hc)
  refine W.widen (k := cells + 17) (n := slots + 1303) (by omega) (by omega) ?_
  exact kk _ _ _ _ _ _ _ _ (I.mono (by omega)) hP hD hS
set_option maxHeartbeats 4000000 in
set_option maxRecDepth 100000 in
theorem cs_owners (C : lwC p s m meth c b L xs dC dI cA) (hl : lv_has ls 4 [(0, .ref b), (1, .ref (q 0)), (2, .ref h), (3, .int (nI i))]) (hi : i + 6 ≤ L) (hL : L ≤ 3072) (hN : N + 8100 < 2147483648) (hf : cells + 17 ≤ 600000 ∧ slots + 1303 ≤ 7302250) (I : INV N σN σP κ M τ) (hP : va_P (dC, dI) vwCl (lwW cA q h ad σN σW σP κ M τ) H) (hD : va_D (fun q : Nat => s.heap.size ≤ q) (lwW cA q h ad σN σW σP κ M τ)) (hS : va_S (fun q : Nat => s.heap.size ≤ q) s.heap H locs) (kk : lwK p l e s m below meth c b dC dI cA q h ad cells slots (N + 8100) Q ls) : W p l e room_1 s m #[Value.ref b] below meth c H locs cells slots Q (F0 m 397 ls []) := by
  obtain ⟨⟨hx, hb, hr, hml, hown, hts0, hX, hbl, hlocks, hgv⟩, hK, hO, hN0, hV⟩ := C
  have hts : ∀ w ∈ wsL_law, w.before #[Value.ref b] s = true := fun w hw => hts0 w (wsL_law_in w hw)
  have hC : CallFix p m c code 4 s #[Value.ref b] wsL_law RL := ⟨hx, hb, hml, hown, hts⟩
  have hA : ∀ z : Nat, s.heap.size ≤ z → (fun q : Nat => s.heap.size ≤ q) z := fun _ h => h
  have hf0 : cells ≤ 600000 ∧ slots ≤ 7302250 := by omega
  obtain ⟨v, e1, e2⟩ := I.rdr (cl := fun σ => fX3_owners (xs (i + 1)) (xs (i + 2)) σ σW σP κ) (rf := fX4_owners (xs (i + 1)) (xs (i + 2))) (fun A hw => owners_b hw (xs (i + 1)) (xs (i + 2)))
  refine lv_aload_n hx hb dL_law_397 rfl (lv_at hl 1 rfl) ?_
  refine lw_arg (k := 1) hx hb hX hbl hS (lv_at hl 0 rfl) (lv_at hl 3 rfl) dL_law_398 dL_law_399 dL_law_400 (by decide) dL_law_401 dL_law_402 (by omega) (by omega) ?_
  refine lw_arg (k := 2) hx hb hX hbl hS (lv_at hl 0 rfl) (lv_at hl 3 rfl) dL_law_403 dL_law_404 dL_law_405 (by decide) dL_law_406 dL_law_407 (by omega) (by omega) ?_
  refine x_PI (As := [.int (xs (i + 1)), .int (xs (i + 2))]) (rest := []) (wr := wM cA h ad τ) (w' := wM cA h ad τ ++ wXK cA q σN σW σP κ M) hC (kX3_owners l dC dI cA q (wRs cA q M ++ wkL cA M (List.range 9)) (xs (i + 1)) (xs (i + 2)) σN σW σP κ v e1) (cwV 2 hts gL_law_X3_owners rfl rfl rfl (by decide +kernel) ⟨(Nat.le_of_ble_eq_true rfl), (Nat.le_of_ble_eq_true rfl)⟩) 11 3 hV hN0 hK hP hD hS hA List.perm_append_comm List.perm_append_comm rfl rfl rfl rfl hl.1 rfl (Nat.le_of_ble_eq_true rfl) hf0 dL_law_408 (fun H locs hP hD hS => ?_)
  refine lv_aload_n hx hb dL_law_411 rfl (lv_at hl 2 rfl) ?_
  refine lw_arg (k := 1) hx hb hX hbl hS (lv_at hl 0 rfl) (lv_at hl 3 rfl) dL_law_412 dL_law_413 dL_law_414 (by decide) dL_law_415 dL_law_416 (by omega) (by omega) ?_
  refine lw_arg (k := 2) hx hb hX hbl hS (lv_at hl 0 rfl) (lv_at hl 3 rfl) dL_law_417 dL_law_418 dL_law_419 (by decide) dL_law_420 dL_law_421 (by omega) (by omega) ?_
  refine x_PI (As := [.int (xs (i + 1)), .int (xs (i + 2))]) (rest := [.int v]) (wr := wXK cA q σN σW σP κ M) (w' := wM cA h ad τ ++ wXK cA q σN σW σP κ M) hC (kX4_owners l dC dI cA h ad (xs (i + 1)) (xs (i + 2)) τ v e2) (cwV 2 hts gL_law_X4_owners rfl rfl rfl (by decide +kernel) ⟨(Nat.le_of_ble_eq_true rfl), (Nat.le_of_ble_eq_true rfl)⟩) 0 4 hV hN0 hK hP hD hS hA (List.Perm.refl _) (List.Perm.refl _) rfl rfl rfl rfl hl.1 rfl (Nat.le_of_ble_eq_true rfl) hf0 dL_law_422 (fun H locs hP hD hS => ?_)
  refine lv_icmp_eq (tgt := 1027) hx hb dL_law_425 (by decide) (fun _ => ?_) (fun hc => absurd rfl hc)
  refine W.widen (k := cells + 17) (n := slots + 1303) (by omega) (by omega) ?_
  exact kk _ _ _ _ _ _ _ _ (I.mono (by omega)) hP hD hS
set_option maxHeartbeats 4000000 in
set_option maxRecDepth 100000 in
theorem cs_ofOwner (C : lwC p s m meth c b L xs dC dI cA) (hl : lv_has ls 4 [(0, .ref b), (1, .ref (q 0)), (2, .ref h), (3, .int (nI i))]) (hi : i + 6 ≤ L) (hL : L ≤ 3072) (hN : N + 8100 < 2147483648) (hf : cells + 17 ≤ 600000 ∧ slots + 1303 ≤ 7302250) (I : INV N σN σP κ M τ) (hP : va_P (dC, dI) vwCl (lwW cA q h ad σN σW σP κ M τ) H) (hD : va_D (fun q : Nat => s.heap.size ≤ q) (lwW cA q h ad σN σW σP κ M τ)) (hS : va_S (fun q : Nat => s.heap.size ≤ q) s.heap H locs) (kk : lwK p l e s m below meth c b dC dI cA q h ad cells slots (N + 8100) Q ls) : W p l e room_1 s m #[Value.ref b] below meth c H locs cells slots Q (F0 m 430 ls []) := by
  obtain ⟨⟨hx, hb, hr, hml, hown, hts0, hX, hbl, hlocks, hgv⟩, hK, hO, hN0, hV⟩ := C
  have hts : ∀ w ∈ wsL_law, w.before #[Value.ref b] s = true := fun w hw => hts0 w (wsL_law_in w hw)
  have hC : CallFix p m c code 4 s #[Value.ref b] wsL_law RL := ⟨hx, hb, hml, hown, hts⟩
  have hA : ∀ z : Nat, s.heap.size ≤ z → (fun q : Nat => s.heap.size ≤ q) z := fun _ h => h
  have hf0 : cells ≤ 600000 ∧ slots ≤ 7302250 := by omega
  obtain ⟨v, e1, e2⟩ := I.rdr (cl := fun σ => fX3_ofOwner (xs (i + 1)) (xs (i + 2)) σ σW σP κ) (rf := fX4_ofOwner (xs (i + 1)) (xs (i + 2))) (fun A hw => ofOwner_b hw (xs (i + 1)) (xs (i + 2)))
  refine lv_aload_n hx hb dL_law_430 rfl (lv_at hl 1 rfl) ?_
  refine lw_arg (k := 1) hx hb hX hbl hS (lv_at hl 0 rfl) (lv_at hl 3 rfl) dL_law_431 dL_law_432 dL_law_433 (by decide) dL_law_434 dL_law_435 (by omega) (by omega) ?_
  refine lw_arg (k := 2) hx hb hX hbl hS (lv_at hl 0 rfl) (lv_at hl 3 rfl) dL_law_436 dL_law_437 dL_law_438 (by decide) dL_law_439 dL_law_440 (by omega) (by omega) ?_
  refine x_PI (As := [.int (xs (i + 1)), .int (xs (i + 2))]) (rest := []) (wr := wM cA h ad τ) (w' := wM cA h ad τ ++ wXK cA q σN σW σP κ M) hC (kX3_ofOwner l dC dI cA q (wRs cA q M ++ wkL cA M (List.range 9)) (xs (i + 1)) (xs (i + 2)) σN σW σP κ v e1) (cwV 2 hts gL_law_X3_ofOwner rfl rfl rfl (by decide +kernel) ⟨(Nat.le_of_ble_eq_true rfl), (Nat.le_of_ble_eq_true rfl)⟩) 11 3 hV hN0 hK hP hD hS hA List.perm_append_comm List.perm_append_comm rfl rfl rfl rfl hl.1 rfl (Nat.le_of_ble_eq_true rfl) hf0 dL_law_441 (fun H locs hP hD hS => ?_)
  refine lv_aload_n hx hb dL_law_444 rfl (lv_at hl 2 rfl) ?_
  refine lw_arg (k := 1) hx hb hX hbl hS (lv_at hl 0 rfl) (lv_at hl 3 rfl) dL_law_445 dL_law_446 dL_law_447 (by decide) dL_law_448 dL_law_449 (by omega) (by omega) ?_
  refine lw_arg (k := 2) hx hb hX hbl hS (lv_at hl 0 rfl) (lv_at hl 3 rfl) dL_law_450 dL_law_451 dL_law_452 (by decide) dL_law_453 dL_law_454 (by omega) (by omega) ?_
  refine x_PI (As := [.int (xs (i + 1)), .int (xs (i + 2))]) (rest := [.int v]) (wr := wXK cA q σN σW σP κ M) (w' := wM cA h ad τ ++ wXK cA q σN σW σP κ M) hC (kX4_ofOwner l dC dI cA h ad (xs (i + 1)) (xs (i + 2)) τ v e2) (cwV 2 hts gL_law_X4_ofOwner rfl rfl rfl (by decide +kernel) ⟨(Nat.le_of_ble_eq_true rfl), (Nat.le_of_ble_eq_true rfl)⟩) 0 4 hV hN0 hK hP hD hS hA (List.Perm.refl _) (List.Perm.refl _) rfl rfl rfl rfl hl.1 rfl (Nat.le_of_ble_eq_true rfl) hf0 dL_law_455 (fun H locs hP hD hS => ?_)
  refine lv_icmp_eq (tgt := 1027) hx hb dL_law_458 (by decide) (fun _ => ?_) (fun hc => absurd rfl hc)
  refine W.widen (k := cells + 17) (n := slots + 1303) (by omega) (by omega) ?_
  exact kk _ _ _ _ _ _ _ _ (I.mono (by omega)) hP hD hS
set_option maxHeartbeats 4000000 in
set_option maxRecDepth 100000 in
theorem cs_stretch (C : lwC p s m meth c b L xs dC dI cA) (hl : lv_has ls 4 [(0, .ref b), (1, .ref (q 0)), (2, .ref h), (3, .int (nI i))]) (hi : i + 6 ≤ L) (hL : L ≤ 3072) (hN : N + 8100 < 2147483648) (hf : cells + 17 ≤ 600000 ∧ slots + 1303 ≤ 7302250) (I : INV N σN σP κ M τ) (hP : va_P (dC, dI) vwCl (lwW cA q h ad σN σW σP κ M τ) H) (hD : va_D (fun q : Nat => s.heap.size ≤ q) (lwW cA q h ad σN σW σP κ M τ)) (hS : va_S (fun q : Nat => s.heap.size ≤ q) s.heap H locs) (kk : lwK p l e s m below meth c b dC dI cA q h ad cells slots (N + 8100) Q ls) : W p l e room_1 s m #[Value.ref b] below meth c H locs cells slots Q (F0 m 463 ls []) := by
  obtain ⟨⟨hx, hb, hr, hml, hown, hts0, hX, hbl, hlocks, hgv⟩, hK, hO, hN0, hV⟩ := C
  have hts : ∀ w ∈ wsL_law, w.before #[Value.ref b] s = true := fun w hw => hts0 w (wsL_law_in w hw)
  have hC : CallFix p m c code 4 s #[Value.ref b] wsL_law RL := ⟨hx, hb, hml, hown, hts⟩
  have hA : ∀ z : Nat, s.heap.size ≤ z → (fun q : Nat => s.heap.size ≤ q) z := fun _ h => h
  have hf0 : cells ≤ 600000 ∧ slots ≤ 7302250 := by omega
  obtain ⟨v, e1, e2⟩ := I.rdr (cl := fun σ => fX3_stretch (xs (i + 1)) (xs (i + 2)) (xs (i + 3)) σ σW σP κ) (rf := fX4_stretch (xs (i + 1)) (xs (i + 2)) (xs (i + 3))) (fun A hw => stretch_b hw (xs (i + 1)) (xs (i + 2)) (xs (i + 3)))
  refine lv_aload_n hx hb dL_law_463 rfl (lv_at hl 1 rfl) ?_
  refine lw_arg (k := 1) hx hb hX hbl hS (lv_at hl 0 rfl) (lv_at hl 3 rfl) dL_law_464 dL_law_465 dL_law_466 (by decide) dL_law_467 dL_law_468 (by omega) (by omega) ?_
  refine lw_arg (k := 2) hx hb hX hbl hS (lv_at hl 0 rfl) (lv_at hl 3 rfl) dL_law_469 dL_law_470 dL_law_471 (by decide) dL_law_472 dL_law_473 (by omega) (by omega) ?_
  refine lw_arg (k := 3) hx hb hX hbl hS (lv_at hl 0 rfl) (lv_at hl 3 rfl) dL_law_474 dL_law_475 dL_law_476 (by decide) dL_law_477 dL_law_478 (by omega) (by omega) ?_
  refine x_PI (As := [.int (xs (i + 1)), .int (xs (i + 2)), .int (xs (i + 3))]) (rest := []) (wr := wM cA h ad τ) (w' := wM cA h ad τ ++ wXK cA q σN σW σP κ M) hC (kX3_stretch l dC dI cA q (wRs cA q M ++ wkL cA M (List.range 9)) (xs (i + 1)) (xs (i + 2)) (xs (i + 3)) σN σW σP κ v e1) (cwV 3 hts gL_law_X3_stretch rfl rfl rfl (by decide +kernel) ⟨(Nat.le_of_ble_eq_true rfl), (Nat.le_of_ble_eq_true rfl)⟩) 11 3 hV hN0 hK hP hD hS hA List.perm_append_comm List.perm_append_comm rfl rfl rfl rfl hl.1 rfl (Nat.le_of_ble_eq_true rfl) hf0 dL_law_479 (fun H locs hP hD hS => ?_)
  refine lv_aload_n hx hb dL_law_482 rfl (lv_at hl 2 rfl) ?_
  refine lw_arg (k := 1) hx hb hX hbl hS (lv_at hl 0 rfl) (lv_at hl 3 rfl) dL_law_483 dL_law_484 dL_law_485 (by decide) dL_law_486 dL_law_487 (by omega) (by omega) ?_
  refine lw_arg (k := 2) hx hb hX hbl hS (lv_at hl 0 rfl) (lv_at hl 3 rfl) dL_law_488 dL_law_489 dL_law_490 (by decide) dL_law_491 dL_law_492 (by omega) (by omega) ?_
  refine lw_arg (k := 3) hx hb hX hbl hS (lv_at hl 0 rfl) (lv_at hl 3 rfl) dL_law_493 dL_law_494 dL_law_495 (by decide) dL_law_496 dL_law_497 (by omega) (by omega) ?_
  refine x_PI (As := [.int (xs (i + 1)), .int (xs (i + 2)), .int (xs (i + 3))]) (rest := [.int v]) (wr := wXK cA q σN σW σP κ M) (w' := wM cA h ad τ ++ wXK cA q σN σW σP κ M) hC (kX4_stretch l dC dI cA h ad (xs (i + 1)) (xs (i + 2)) (xs (i + 3)) τ v e2) (cwV 3 hts gL_law_X4_stretch rfl rfl rfl (by decide +kernel) ⟨(Nat.le_of_ble_eq_true rfl), (Nat.le_of_ble_eq_true rfl)⟩) 0 4 hV hN0 hK hP hD hS hA (List.Perm.refl _) (List.Perm.refl _) rfl rfl rfl rfl hl.1 rfl (Nat.le_of_ble_eq_true rfl) hf0 dL_law_498 (fun H locs hP hD hS => ?_)
  refine lv_icmp_eq (tgt := 1027) hx hb dL_law_501 (by decide) (fun _ => ?_) (fun hc => absurd rfl hc)
  refine W.widen (k := cells + 17) (n := slots + 1303) (by omega) (by omega) ?_
  exact kk _ _ _ _ _ _ _ _ (I.mono (by omega)) hP hD hS
set_option maxHeartbeats 4000000 in
set_option maxRecDepth 100000 in
theorem cs_inRow (C : lwC p s m meth c b L xs dC dI cA) (hl : lv_has ls 4 [(0, .ref b), (1, .ref (q 0)), (2, .ref h), (3, .int (nI i))]) (hi : i + 6 ≤ L) (hL : L ≤ 3072) (hN : N + 8100 < 2147483648) (hf : cells + 17 ≤ 600000 ∧ slots + 1303 ≤ 7302250) (I : INV N σN σP κ M τ) (hP : va_P (dC, dI) vwCl (lwW cA q h ad σN σW σP κ M τ) H) (hD : va_D (fun q : Nat => s.heap.size ≤ q) (lwW cA q h ad σN σW σP κ M τ)) (hS : va_S (fun q : Nat => s.heap.size ≤ q) s.heap H locs) (kk : lwK p l e s m below meth c b dC dI cA q h ad cells slots (N + 8100) Q ls) : W p l e room_1 s m #[Value.ref b] below meth c H locs cells slots Q (F0 m 506 ls []) := by
  obtain ⟨⟨hx, hb, hr, hml, hown, hts0, hX, hbl, hlocks, hgv⟩, hK, hO, hN0, hV⟩ := C
  have hts : ∀ w ∈ wsL_law, w.before #[Value.ref b] s = true := fun w hw => hts0 w (wsL_law_in w hw)
  have hC : CallFix p m c code 4 s #[Value.ref b] wsL_law RL := ⟨hx, hb, hml, hown, hts⟩
  have hA : ∀ z : Nat, s.heap.size ≤ z → (fun q : Nat => s.heap.size ≤ q) z := fun _ h => h
  have hf0 : cells ≤ 600000 ∧ slots ≤ 7302250 := by omega
  obtain ⟨v, e1, e2⟩ := I.rdr (cl := fun σ => fX3_inRow (xs (i + 1)) σ σW σP κ) (rf := fX4_inRow (xs (i + 1))) (fun A hw => inRow_b hw (xs (i + 1)))
  refine lv_aload_n hx hb dL_law_506 rfl (lv_at hl 1 rfl) ?_
  refine lw_arg (k := 1) hx hb hX hbl hS (lv_at hl 0 rfl) (lv_at hl 3 rfl) dL_law_507 dL_law_508 dL_law_509 (by decide) dL_law_510 dL_law_511 (by omega) (by omega) ?_
  refine x_PI (As := [.int (xs (i + 1))]) (rest := []) (wr := wM cA h ad τ) (w' := wM cA h ad τ ++ wXK cA q σN σW σP κ M) hC (kX3_inRow l dC dI cA q (wRs cA q M ++ wkL cA M (List.range 9)) (xs (i + 1)) σN σW σP κ v e1) (cwV 1 hts gL_law_X3_inRow rfl rfl rfl (by decide +kernel) ⟨(Nat.le_of_ble_eq_true rfl), (Nat.le_of_ble_eq_true rfl)⟩) 11 3 hV hN0 hK hP hD hS hA List.perm_append_comm List.perm_append_comm rfl rfl rfl rfl hl.1 rfl (Nat.le_of_ble_eq_true rfl) hf0 dL_law_512 (fun H locs hP hD hS => ?_)
  refine lv_aload_n hx hb dL_law_515 rfl (lv_at hl 2 rfl) ?_
  refine lw_arg (k := 1) hx hb hX hbl hS (lv_at hl 0 rfl) (lv_at hl 3 rfl) dL_law_516 dL_law_517 dL_law_518 (by decide) dL_law_519 dL_law_520 (by omega) (by omega) ?_
  refine x_PI (As := [.int (xs (i + 1))]) (rest := [.int v]) (wr := wXK cA q σN σW σP κ M) (w' := wM cA h ad τ ++ wXK cA q σN σW σP κ M) hC (kX4_inRow l dC dI cA h ad (xs (i + 1)) τ v e2) (cwV 1 hts gL_law_X4_inRow rfl rfl rfl (by decide +kernel) ⟨(Nat.le_of_ble_eq_true rfl), (Nat.le_of_ble_eq_true rfl)⟩) 0 4 hV hN0 hK hP hD hS hA (List.Perm.refl _) (List.Perm.refl _) rfl rfl rfl rfl hl.1 rfl (Nat.le_of_ble_eq_true rfl) hf0 dL_law_521 (fun H locs hP hD hS => ?_)
  refine lv_icmp_eq (tgt := 1027) hx hb dL_law_524 (by decide) (fun _ => ?_) (fun hc => absurd rfl hc)
  refine W.widen (k := cells + 17) (n := slots + 1303) (by omega) (by omega) ?_
  exact kk _ _ _ _ _ _ _ _ (I.mono (by omega)) hP hD hS
end LB
