/-! The law's roads: cancel, leave, ticks -/
section LB
variable {p : Program} {l : Launch} {e : Env} {s : State} {m : MethodId} {below : List Frame} {meth : Method} {c : Code} {b L : Nat} {xs : Nat → Int32} {dC : Nat → ClassId} {dI : Nat → Nat → Nat} {cA : Nat → ClassId} {q : Nat → Nat} {h : Nat} {ad : Nat → Nat} {H : Heap} {locs : List Loc} {cells slots N i : Nat} {Q : State → Prop} {ls : Array Slot} {σN σW σP κ τ : St} {M : Mk}
set_option maxHeartbeats 4000000 in
set_option maxRecDepth 100000 in
theorem cs_cancel (C : lwC p s m meth c b L xs dC dI cA) (hl : lv_has ls 4 [(0, .ref b), (1, .ref (q 0)), (2, .ref h), (3, .int (nI i))]) (hi : i + 6 ≤ L) (hL : L ≤ 3072) (hN : N + 8100 < 2147483648) (hf : cells + 17 ≤ 600000 ∧ slots + 1303 ≤ 7302250) (I : INV N σN σP κ M τ) (hP : va_P (dC, dI) vwCl (lwW cA q h ad σN σW σP κ M τ) H) (hD : va_D (fun q : Nat => s.heap.size ≤ q) (lwW cA q h ad σN σW σP κ M τ)) (hS : va_S (fun q : Nat => s.heap.size ≤ q) s.heap H locs) (kk : lwK p l e s m below meth c b dC dI cA q h ad cells slots (N + 8100) Q ls) : W p l e room_1 s m #[Value.ref b] below meth c H locs cells slots Q (F0 m 295 ls []) := by
  obtain ⟨⟨hx, hb, hr, hml, hown, hts0, hX, hbl, hlocks, hgv⟩, hK, hO, hN0, hV⟩ := C
  have hts : ∀ w ∈ wsL_law, w.before #[Value.ref b] s = true := fun w hw => hts0 w (wsL_law_in w hw)
  have hC : CallFix p m c code 4 s #[Value.ref b] wsL_law RL := ⟨hx, hb, hml, hown, hts⟩
  have hA : ∀ z : Nat, s.heap.size ≤ z → (fun q : Nat => s.heap.size ≤ q) z := fun _ h => h
  have hf0 : cells ≤ 600000 ∧ slots ≤ 7302250 := by omega
  obtain ⟨A, v, σN2, κ2, τ2, sp, hAN, hw, hsp, hκ, e1, e2, e3, kI⟩ := I.chg (N' := N + 8100) (cl := fX1_withdraw (xs (i + 1))) (rf := fX4_tryCancel (xs (i + 1)) (kpI true)) (by omega) (fun A hA hB => cancel_b (kp := true) hA (hB.mono (by omega)) hN (xs (i + 1)))
  have e4 : fX4_cancel (xs (i + 1)) τ = some (v, τ2) := by
    unfold fX4_cancel
    rw [show fX4_tryCancel (xs (i + 1)) (1 : Int32) τ = some (v, τ2) from e3]
    rfl
  refine lv_aload_n hx hb dL_law_295 rfl (lv_at hl 1 rfl) ?_
  refine lw_arg (k := 1) hx hb hX hbl hS (lv_at hl 0 rfl) (lv_at hl 3 rfl) dL_law_296 dL_law_297 dL_law_298 (by decide) dL_law_299 dL_law_300 (by omega) (by omega) ?_
  refine x_AI (As := [.int (xs (i + 1))]) (rest := []) (wr := wM cA h ad τ) hC (kX3_cancel l dC dI cA q (xs (i + 1)) σN σW σP κ M hAN hw hsp hκ e1 e2) (cwV 1 hts gL_law_X3_cancel rfl rfl rfl (by decide +kernel) ⟨(Nat.le_of_ble_eq_true rfl), (Nat.le_of_ble_eq_true rfl)⟩) 11 3 hO hV hN0 hK hP hD hS hA List.perm_append_comm rfl rfl rfl rfl hl.1 rfl (Nat.le_of_ble_eq_true rfl) hf dL_law_301 (fun r u H locs hu hP hD hS => ?_)
  obtain ⟨er, h1, ad1, σ1, hR1, rfl⟩ := hu
  rw [er]
  have hP := va_perm List.perm_append_comm hP
  have hD := va_Dperm List.perm_append_comm hD
  refine lv_aload_n hx hb dL_law_304 rfl (lv_at hl 2 rfl) ?_
  refine lw_arg (k := 1) hx hb hX hbl hS (lv_at hl 0 rfl) (lv_at hl 3 rfl) dL_law_305 dL_law_306 dL_law_307 (by decide) dL_law_308 dL_law_309 (by omega) (by omega) ?_
  refine x_PI (As := [.int (xs (i + 1))]) (rest := [.int v]) (wr := wXK cA q σN2 σW σP κ2 (upM M sp (h1, ad1, σ1))) (w' := wM cA h ad τ2 ++ wXK cA q σN2 σW σP κ2 (upM M sp (h1, ad1, σ1))) hC (kX4_cancel l dC dI cA h ad (xs (i + 1)) τ v τ2 e4) (cwV 1 hts gL_law_X4_cancel rfl rfl rfl (by decide +kernel) ⟨(Nat.le_of_ble_eq_true rfl), (Nat.le_of_ble_eq_true rfl)⟩) 0 4 hV hN0 hK hP hD hS hA (List.Perm.refl _) (List.Perm.refl _) rfl rfl rfl rfl hl.1 rfl (Nat.le_of_ble_eq_true rfl) hf dL_law_310 (fun H locs hP hD hS => ?_)
  refine lv_icmp_eq (tgt := 1027) hx hb dL_law_313 (by decide) (fun _ => ?_) (fun hc => absurd rfl hc)
  exact kk _ _ _ _ _ _ _ _ ((kI h1 ad1 σ1 hR1)) hP hD hS
set_option maxHeartbeats 4000000 in
set_option maxRecDepth 100000 in
theorem cs_leave (C : lwC p s m meth c b L xs dC dI cA) (hl : lv_has ls 4 [(0, .ref b), (1, .ref (q 0)), (2, .ref h), (3, .int (nI i))]) (hi : i + 6 ≤ L) (hL : L ≤ 3072) (hN : N + 8100 < 2147483648) (hf : cells + 17 ≤ 600000 ∧ slots + 1303 ≤ 7302250) (I : INV N σN σP κ M τ) (hP : va_P (dC, dI) vwCl (lwW cA q h ad σN σW σP κ M τ) H) (hD : va_D (fun q : Nat => s.heap.size ≤ q) (lwW cA q h ad σN σW σP κ M τ)) (hS : va_S (fun q : Nat => s.heap.size ≤ q) s.heap H locs) (kk : lwK p l e s m below meth c b dC dI cA q h ad cells slots (N + 8100) Q ls) : W p l e room_1 s m #[Value.ref b] below meth c H locs cells slots Q (F0 m 318 ls []) := by
  obtain ⟨⟨hx, hb, hr, hml, hown, hts0, hX, hbl, hlocks, hgv⟩, hK, hO, hN0, hV⟩ := C
  have hts : ∀ w ∈ wsL_law, w.before #[Value.ref b] s = true := fun w hw => hts0 w (wsL_law_in w hw)
  have hC : CallFix p m c code 4 s #[Value.ref b] wsL_law RL := ⟨hx, hb, hml, hown, hts⟩
  have hA : ∀ z : Nat, s.heap.size ≤ z → (fun q : Nat => s.heap.size ≤ q) z := fun _ h => h
  have hf0 : cells ≤ 600000 ∧ slots ≤ 7302250 := by omega
  obtain ⟨A, v, σN2, κ2, τ2, sp, hAN, hw, hsp, hκ, e1, e2, e3, kI⟩ := I.chg (N' := N + 8100) (cl := fX1_depart (xs (i + 1))) (rf := fX4_tryLeave (xs (i + 1)) (kpI true)) (by omega) (fun A hA hB => leave_b (kp := true) hA (hB.mono (by omega)) (xs (i + 1)))
  have e4 : fX4_leave (xs (i + 1)) τ = some (v, τ2) := by
    unfold fX4_leave
    rw [show fX4_tryLeave (xs (i + 1)) (1 : Int32) τ = some (v, τ2) from e3]
    rfl
  refine lv_aload_n hx hb dL_law_318 rfl (lv_at hl 1 rfl) ?_
  refine lw_arg (k := 1) hx hb hX hbl hS (lv_at hl 0 rfl) (lv_at hl 3 rfl) dL_law_319 dL_law_320 dL_law_321 (by decide) dL_law_322 dL_law_323 (by omega) (by omega) ?_
  refine x_AI (As := [.int (xs (i + 1))]) (rest := []) (wr := wM cA h ad τ) hC (kX3_leave l dC dI cA q (xs (i + 1)) σN σW σP κ M hAN hw hsp hκ e1 e2) (cwV 1 hts gL_law_X3_leave rfl rfl rfl (by decide +kernel) ⟨(Nat.le_of_ble_eq_true rfl), (Nat.le_of_ble_eq_true rfl)⟩) 11 3 hO hV hN0 hK hP hD hS hA List.perm_append_comm rfl rfl rfl rfl hl.1 rfl (Nat.le_of_ble_eq_true rfl) hf dL_law_324 (fun r u H locs hu hP hD hS => ?_)
  obtain ⟨er, h1, ad1, σ1, hR1, rfl⟩ := hu
  rw [er]
  have hP := va_perm List.perm_append_comm hP
  have hD := va_Dperm List.perm_append_comm hD
  refine lv_aload_n hx hb dL_law_327 rfl (lv_at hl 2 rfl) ?_
  refine lw_arg (k := 1) hx hb hX hbl hS (lv_at hl 0 rfl) (lv_at hl 3 rfl) dL_law_328 dL_law_329 dL_law_330 (by decide) dL_law_331 dL_law_332 (by omega) (by omega) ?_
  refine x_PI (As := [.int (xs (i + 1))]) (rest := [.int v]) (wr := wXK cA q σN2 σW σP κ2 (upM M sp (h1, ad1, σ1))) (w' := wM cA h ad τ2 ++ wXK cA q σN2 σW σP κ2 (upM M sp (h1, ad1, σ1))) hC (kX4_leave l dC dI cA h ad (xs (i + 1)) τ v τ2 e4) (cwV 1 hts gL_law_X4_leave rfl rfl rfl (by decide +kernel) ⟨(Nat.le_of_ble_eq_true rfl), (Nat.le_of_ble_eq_true rfl)⟩) 0 4 hV hN0 hK hP hD hS hA (List.Perm.refl _) (List.Perm.refl _) rfl rfl rfl rfl hl.1 rfl (Nat.le_of_ble_eq_true rfl) hf dL_law_333 (fun H locs hP hD hS => ?_)
  refine lv_icmp_eq (tgt := 1027) hx hb dL_law_336 (by decide) (fun _ => ?_) (fun hc => absurd rfl hc)
  exact kk _ _ _ _ _ _ _ _ ((kI h1 ad1 σ1 hR1)) hP hD hS
set_option maxHeartbeats 4000000 in
set_option maxRecDepth 100000 in
theorem cs_ticks (C : lwC p s m meth c b L xs dC dI cA) (hl : lv_has ls 4 [(0, .ref b), (1, .ref (q 0)), (2, .ref h), (3, .int (nI i))]) (hi : i + 6 ≤ L) (hL : L ≤ 3072) (hN : N + 8100 < 2147483648) (hf : cells + 17 ≤ 600000 ∧ slots + 1303 ≤ 7302250) (I : INV N σN σP κ M τ) (hP : va_P (dC, dI) vwCl (lwW cA q h ad σN σW σP κ M τ) H) (hD : va_D (fun q : Nat => s.heap.size ≤ q) (lwW cA q h ad σN σW σP κ M τ)) (hS : va_S (fun q : Nat => s.heap.size ≤ q) s.heap H locs) (kk : lwK p l e s m below meth c b dC dI cA q h ad cells slots (N + 8100) Q ls) : W p l e room_1 s m #[Value.ref b] below meth c H locs cells slots Q (F0 m 341 ls []) := by
  obtain ⟨⟨hx, hb, hr, hml, hown, hts0, hX, hbl, hlocks, hgv⟩, hK, hO, hN0, hV⟩ := C
  have hts : ∀ w ∈ wsL_law, w.before #[Value.ref b] s = true := fun w hw => hts0 w (wsL_law_in w hw)
  have hC : CallFix p m c code 4 s #[Value.ref b] wsL_law RL := ⟨hx, hb, hml, hown, hts⟩
  have hA : ∀ z : Nat, s.heap.size ≤ z → (fun q : Nat => s.heap.size ≤ q) z := fun _ h => h
  have hf0 : cells ≤ 600000 ∧ slots ≤ 7302250 := by omega
  obtain ⟨A, v, σN2, κ2, τ2, sp, hAN, hw, hsp, hκ, e1, e2, e3, kI⟩ := I.chg (N' := N + 300) (cl := fX1_pass (xs (i + 1))) (rf := fX4_tryTicks (xs (i + 1)) (kpI true)) (by omega) (fun A hA hB => ticks_b (kp := true) hA hB (xs (i + 1)))
  have e4 : fX4_ticks (xs (i + 1)) τ = some (v, τ2) := by
    unfold fX4_ticks
    rw [show fX4_tryTicks (xs (i + 1)) (1 : Int32) τ = some (v, τ2) from e3]
    rfl
  refine lv_aload_n hx hb dL_law_341 rfl (lv_at hl 1 rfl) ?_
  refine lw_arg (k := 1) hx hb hX hbl hS (lv_at hl 0 rfl) (lv_at hl 3 rfl) dL_law_342 dL_law_343 dL_law_344 (by decide) dL_law_345 dL_law_346 (by omega) (by omega) ?_
  refine x_AI (As := [.int (xs (i + 1))]) (rest := []) (wr := wM cA h ad τ) hC (kX3_ticks l dC dI cA q (xs (i + 1)) σN σW σP κ M hAN hw hsp hκ e1 e2) (cwV 1 hts gL_law_X3_ticks rfl rfl rfl (by decide +kernel) ⟨(Nat.le_of_ble_eq_true rfl), (Nat.le_of_ble_eq_true rfl)⟩) 11 3 hO hV hN0 hK hP hD hS hA List.perm_append_comm rfl rfl rfl rfl hl.1 rfl (Nat.le_of_ble_eq_true rfl) hf dL_law_347 (fun r u H locs hu hP hD hS => ?_)
  obtain ⟨er, h1, ad1, σ1, hR1, rfl⟩ := hu
  rw [er]
  have hP := va_perm List.perm_append_comm hP
  have hD := va_Dperm List.perm_append_comm hD
  refine lv_aload_n hx hb dL_law_350 rfl (lv_at hl 2 rfl) ?_
  refine lw_arg (k := 1) hx hb hX hbl hS (lv_at hl 0 rfl) (lv_at hl 3 rfl) dL_law_351 dL_law_352 dL_law_353 (by decide) dL_law_354 dL_law_355 (by omega) (by omega) ?_
  refine x_PI (As := [.int (xs (i + 1))]) (rest := [.int v]) (wr := wXK cA q σN2 σW σP κ2 (upM M sp (h1, ad1, σ1))) (w' := wM cA h ad τ2 ++ wXK cA q σN2 σW σP κ2 (upM M sp (h1, ad1, σ1))) hC (kX4_ticks l dC dI cA h ad (xs (i + 1)) τ v τ2 e4) (cwV 1 hts gL_law_X4_ticks rfl rfl rfl (by decide +kernel) ⟨(Nat.le_of_ble_eq_true rfl), (Nat.le_of_ble_eq_true rfl)⟩) 0 4 hV hN0 hK hP hD hS hA (List.Perm.refl _) (List.Perm.refl _) rfl rfl rfl rfl hl.1 rfl (Nat.le_of_ble_eq_true rfl) hf dL_law_356 (fun H locs hP hD hS => ?_)
  refine lv_icmp_eq (tgt := 1027) hx hb dL_law_359 (by decide) (fun _ => ?_) (fun hc => absurd rfl hc)
  exact kk _ _ _ _ _ _ _ _ ((kI h1 ad1 σ1 hR1).mono (by omega)) hP hD hS
end LB
