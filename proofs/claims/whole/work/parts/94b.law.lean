/-! The law's roads: waitsFor, count, couldGive, inTheWay, ring -/
section LB
variable {p : Program} {l : Launch} {e : Env} {s : State} {m : MethodId} {below : List Frame} {meth : Method} {c : Code} {b L : Nat} {xs : Nat → Int32} {dC : Nat → ClassId} {dI : Nat → Nat → Nat} {cA : Nat → ClassId} {q : Nat → Nat} {h : Nat} {ad : Nat → Nat} {H : Heap} {locs : List Loc} {cells slots N i : Nat} {Q : State → Prop} {ls : Array Slot} {σN σW σP κ τ : St} {M : Mk}
set_option maxHeartbeats 4000000 in
set_option maxRecDepth 100000 in
theorem cs_waitsFor (C : lwC p s m meth c b L xs dC dI cA) (hl : lv_has ls 4 [(0, .ref b), (1, .ref (q 0)), (2, .ref h), (3, .int (nI i))]) (hi : i + 6 ≤ L) (hL : L ≤ 3072) (hN : N + 8100 < 2147483648) (hf : cells + 17 ≤ 600000 ∧ slots + 1303 ≤ 7302250) (I : INV N σN σP κ M τ) (hP : va_P (dC, dI) vwCl (lwW cA q h ad σN σW σP κ M τ) H) (hD : va_D (fun q : Nat => s.heap.size ≤ q) (lwW cA q h ad σN σW σP κ M τ)) (hS : va_S (fun q : Nat => s.heap.size ≤ q) s.heap H locs) (kk : lwK p l e s m below meth c b dC dI cA q h ad cells slots (N + 8100) Q ls) : W p l e room_1 s m #[Value.ref b] below meth c H locs cells slots Q (F0 m 529 ls []) := by
  obtain ⟨⟨hx, hb, hr, hml, hown, hts0, hX, hbl, hlocks, hgv⟩, hK, hO, hN0, hV⟩ := C
  have hts : ∀ w ∈ wsL_law, w.before #[Value.ref b] s = true := fun w hw => hts0 w (wsL_law_in w hw)
  have hC : CallFix p m c code 4 s #[Value.ref b] wsL_law RL := ⟨hx, hb, hml, hown, hts⟩
  have hA : ∀ z : Nat, s.heap.size ≤ z → (fun q : Nat => s.heap.size ≤ q) z := fun _ h => h
  have hf0 : cells ≤ 600000 ∧ slots ≤ 7302250 := by omega
  obtain ⟨v, e1, e2⟩ := I.rdr (cl := fun σ => fX3_waitsFor (xs (i + 1)) σ σW σP κ) (rf := fX4_waitsFor (xs (i + 1))) (fun A hw => waitsFor_b hw (xs (i + 1)))
  refine lv_aload_n hx hb dL_law_529 rfl (lv_at hl 1 rfl) ?_
  refine lw_arg (k := 1) hx hb hX hbl hS (lv_at hl 0 rfl) (lv_at hl 3 rfl) dL_law_530 dL_law_531 dL_law_532 (by decide) dL_law_533 dL_law_534 (by omega) (by omega) ?_
  refine x_PI (As := [.int (xs (i + 1))]) (rest := []) (wr := wM cA h ad τ) (w' := wM cA h ad τ ++ wXK cA q σN σW σP κ M) hC (kX3_waitsFor l dC dI cA q (wRs cA q M ++ wkL cA M (List.range 9)) (xs (i + 1)) σN σW σP κ v e1) (cwV 1 hts gL_law_X3_waitsFor rfl rfl rfl (by decide +kernel) ⟨(Nat.le_of_ble_eq_true rfl), (Nat.le_of_ble_eq_true rfl)⟩) 11 3 hV hN0 hK hP hD hS hA List.perm_append_comm List.perm_append_comm rfl rfl rfl rfl hl.1 rfl (Nat.le_of_ble_eq_true rfl) hf0 dL_law_535 (fun H locs hP hD hS => ?_)
  refine lv_aload_n hx hb dL_law_538 rfl (lv_at hl 2 rfl) ?_
  refine lw_arg (k := 1) hx hb hX hbl hS (lv_at hl 0 rfl) (lv_at hl 3 rfl) dL_law_539 dL_law_540 dL_law_541 (by decide) dL_law_542 dL_law_543 (by omega) (by omega) ?_
  refine x_PI (As := [.int (xs (i + 1))]) (rest := [.int v]) (wr := wXK cA q σN σW σP κ M) (w' := wM cA h ad τ ++ wXK cA q σN σW σP κ M) hC (kX4_waitsFor l dC dI cA h ad (xs (i + 1)) τ v e2) (cwV 1 hts gL_law_X4_waitsFor rfl rfl rfl (by decide +kernel) ⟨(Nat.le_of_ble_eq_true rfl), (Nat.le_of_ble_eq_true rfl)⟩) 0 4 hV hN0 hK hP hD hS hA (List.Perm.refl _) (List.Perm.refl _) rfl rfl rfl rfl hl.1 rfl (Nat.le_of_ble_eq_true rfl) hf0 dL_law_544 (fun H locs hP hD hS => ?_)
  refine lv_icmp_eq (tgt := 1027) hx hb dL_law_547 (by decide) (fun _ => ?_) (fun hc => absurd rfl hc)
  refine W.widen (k := cells + 17) (n := slots + 1303) (by omega) (by omega) ?_
  exact kk _ _ _ _ _ _ _ _ (I.mono (by omega)) hP hD hS
set_option maxHeartbeats 4000000 in
set_option maxRecDepth 100000 in
theorem cs_count (C : lwC p s m meth c b L xs dC dI cA) (hl : lv_has ls 4 [(0, .ref b), (1, .ref (q 0)), (2, .ref h), (3, .int (nI i))]) (hi : i + 6 ≤ L) (hL : L ≤ 3072) (hN : N + 8100 < 2147483648) (hf : cells + 17 ≤ 600000 ∧ slots + 1303 ≤ 7302250) (I : INV N σN σP κ M τ) (hP : va_P (dC, dI) vwCl (lwW cA q h ad σN σW σP κ M τ) H) (hD : va_D (fun q : Nat => s.heap.size ≤ q) (lwW cA q h ad σN σW σP κ M τ)) (hS : va_S (fun q : Nat => s.heap.size ≤ q) s.heap H locs) (kk : lwK p l e s m below meth c b dC dI cA q h ad cells slots (N + 8100) Q ls) : W p l e room_1 s m #[Value.ref b] below meth c H locs cells slots Q (F0 m 552 ls []) := by
  obtain ⟨⟨hx, hb, hr, hml, hown, hts0, hX, hbl, hlocks, hgv⟩, hK, hO, hN0, hV⟩ := C
  have hts : ∀ w ∈ wsL_law, w.before #[Value.ref b] s = true := fun w hw => hts0 w (wsL_law_in w hw)
  have hC : CallFix p m c code 4 s #[Value.ref b] wsL_law RL := ⟨hx, hb, hml, hown, hts⟩
  have hA : ∀ z : Nat, s.heap.size ≤ z → (fun q : Nat => s.heap.size ≤ q) z := fun _ h => h
  have hf0 : cells ≤ 600000 ∧ slots ≤ 7302250 := by omega
  obtain ⟨v, e1, e2⟩ := I.count (xs (i + 1)) σW
  refine lv_aload_n hx hb dL_law_552 rfl (lv_at hl 1 rfl) ?_
  refine lw_arg (k := 1) hx hb hX hbl hS (lv_at hl 0 rfl) (lv_at hl 3 rfl) dL_law_553 dL_law_554 dL_law_555 (by decide) dL_law_556 dL_law_557 (by omega) (by omega) ?_
  refine x_PI (As := [.int (xs (i + 1))]) (rest := []) (wr := wM cA h ad τ) (w' := wM cA h ad τ ++ wXK cA q σN σW σP κ M) hC (kX3_count l dC dI cA q (wRs cA q M ++ wkL cA M (List.range 9)) (xs (i + 1)) σN σW σP κ v e1) (cwV 1 hts gL_law_X3_count rfl rfl rfl (by decide +kernel) ⟨(Nat.le_of_ble_eq_true rfl), (Nat.le_of_ble_eq_true rfl)⟩) 11 3 hV hN0 hK hP hD hS hA List.perm_append_comm List.perm_append_comm rfl rfl rfl rfl hl.1 rfl (Nat.le_of_ble_eq_true rfl) hf0 dL_law_558 (fun H locs hP hD hS => ?_)
  refine lv_aload_n hx hb dL_law_561 rfl (lv_at hl 2 rfl) ?_
  refine lw_arg (k := 1) hx hb hX hbl hS (lv_at hl 0 rfl) (lv_at hl 3 rfl) dL_law_562 dL_law_563 dL_law_564 (by decide) dL_law_565 dL_law_566 (by omega) (by omega) ?_
  refine x_PI (As := [.int (xs (i + 1))]) (rest := [.int v]) (wr := wXK cA q σN σW σP κ M) (w' := wM cA h ad τ ++ wXK cA q σN σW σP κ M) hC (kX4_count l dC dI cA h ad (xs (i + 1)) τ v e2) (cwV 1 hts gL_law_X4_count rfl rfl rfl (by decide +kernel) ⟨(Nat.le_of_ble_eq_true rfl), (Nat.le_of_ble_eq_true rfl)⟩) 0 4 hV hN0 hK hP hD hS hA (List.Perm.refl _) (List.Perm.refl _) rfl rfl rfl rfl hl.1 rfl (Nat.le_of_ble_eq_true rfl) hf0 dL_law_567 (fun H locs hP hD hS => ?_)
  refine lv_icmp_eq (tgt := 1027) hx hb dL_law_570 (by decide) (fun _ => ?_) (fun hc => absurd rfl hc)
  refine W.widen (k := cells + 17) (n := slots + 1303) (by omega) (by omega) ?_
  exact kk _ _ _ _ _ _ _ _ (I.mono (by omega)) hP hD hS
set_option maxHeartbeats 4000000 in
set_option maxRecDepth 100000 in
theorem cs_couldGive (C : lwC p s m meth c b L xs dC dI cA) (hl : lv_has ls 4 [(0, .ref b), (1, .ref (q 0)), (2, .ref h), (3, .int (nI i))]) (hi : i + 6 ≤ L) (hL : L ≤ 3072) (hN : N + 8100 < 2147483648) (hf : cells + 17 ≤ 600000 ∧ slots + 1303 ≤ 7302250) (I : INV N σN σP κ M τ) (hP : va_P (dC, dI) vwCl (lwW cA q h ad σN σW σP κ M τ) H) (hD : va_D (fun q : Nat => s.heap.size ≤ q) (lwW cA q h ad σN σW σP κ M τ)) (hS : va_S (fun q : Nat => s.heap.size ≤ q) s.heap H locs) (kk : lwK p l e s m below meth c b dC dI cA q h ad cells slots (N + 8100) Q ls) : W p l e room_1 s m #[Value.ref b] below meth c H locs cells slots Q (F0 m 575 ls []) := by
  obtain ⟨⟨hx, hb, hr, hml, hown, hts0, hX, hbl, hlocks, hgv⟩, hK, hO, hN0, hV⟩ := C
  have hts : ∀ w ∈ wsL_law, w.before #[Value.ref b] s = true := fun w hw => hts0 w (wsL_law_in w hw)
  have hC : CallFix p m c code 4 s #[Value.ref b] wsL_law RL := ⟨hx, hb, hml, hown, hts⟩
  have hA : ∀ z : Nat, s.heap.size ≤ z → (fun q : Nat => s.heap.size ≤ q) z := fun _ h => h
  have hf0 : cells ≤ 600000 ∧ slots ≤ 7302250 := by omega
  obtain ⟨v, e1, e2⟩ := I.rdr (cl := fun σ => fX3_couldGive (xs (i + 1)) (xs (i + 2)) (xs (i + 3)) (xs (i + 4)) σ σW σP κ) (rf := fX4_couldGive (xs (i + 1)) (xs (i + 2)) (xs (i + 3)) (xs (i + 4))) (fun A hw => couldGive_b hw (xs (i + 1)) (xs (i + 2)) (xs (i + 3)) (xs (i + 4)))
  refine lv_aload_n hx hb dL_law_575 rfl (lv_at hl 1 rfl) ?_
  refine lw_arg (k := 1) hx hb hX hbl hS (lv_at hl 0 rfl) (lv_at hl 3 rfl) dL_law_576 dL_law_577 dL_law_578 (by decide) dL_law_579 dL_law_580 (by omega) (by omega) ?_
  refine lw_arg (k := 2) hx hb hX hbl hS (lv_at hl 0 rfl) (lv_at hl 3 rfl) dL_law_581 dL_law_582 dL_law_583 (by decide) dL_law_584 dL_law_585 (by omega) (by omega) ?_
  refine lw_arg (k := 3) hx hb hX hbl hS (lv_at hl 0 rfl) (lv_at hl 3 rfl) dL_law_586 dL_law_587 dL_law_588 (by decide) dL_law_589 dL_law_590 (by omega) (by omega) ?_
  refine lw_arg (k := 4) hx hb hX hbl hS (lv_at hl 0 rfl) (lv_at hl 3 rfl) dL_law_591 dL_law_592 dL_law_593 (by decide) dL_law_594 dL_law_595 (by omega) (by omega) ?_
  refine x_PI (As := [.int (xs (i + 1)), .int (xs (i + 2)), .int (xs (i + 3)), .int (xs (i + 4))]) (rest := []) (wr := wM cA h ad τ) (w' := wM cA h ad τ ++ wXK cA q σN σW σP κ M) hC (kX3_couldGive l dC dI cA q (wRs cA q M ++ wkL cA M (List.range 9)) (xs (i + 1)) (xs (i + 2)) (xs (i + 3)) (xs (i + 4)) σN σW σP κ v e1) (cwV 4 hts gL_law_X3_couldGive rfl rfl rfl (by decide +kernel) ⟨(Nat.le_of_ble_eq_true rfl), (Nat.le_of_ble_eq_true rfl)⟩) 11 3 hV hN0 hK hP hD hS hA List.perm_append_comm List.perm_append_comm rfl rfl rfl rfl hl.1 rfl (Nat.le_of_ble_eq_true rfl) hf0 dL_law_596 (fun H locs hP hD hS => ?_)
  refine lv_aload_n hx hb dL_law_599 rfl (lv_at hl 2 rfl) ?_
  refine lw_arg (k := 1) hx hb hX hbl hS (lv_at hl 0 rfl) (lv_at hl 3 rfl) dL_law_600 dL_law_601 dL_law_602 (by decide) dL_law_603 dL_law_604 (by omega) (by omega) ?_
  refine lw_arg (k := 2) hx hb hX hbl hS (lv_at hl 0 rfl) (lv_at hl 3 rfl) dL_law_605 dL_law_606 dL_law_607 (by decide) dL_law_608 dL_law_609 (by omega) (by omega) ?_
  refine lw_arg (k := 3) hx hb hX hbl hS (lv_at hl 0 rfl) (lv_at hl 3 rfl) dL_law_610 dL_law_611 dL_law_612 (by decide) dL_law_613 dL_law_614 (by omega) (by omega) ?_
  refine lw_arg (k := 4) hx hb hX hbl hS (lv_at hl 0 rfl) (lv_at hl 3 rfl) dL_law_615 dL_law_616 dL_law_617 (by decide) dL_law_618 dL_law_619 (by omega) (by omega) ?_
  refine x_PI (As := [.int (xs (i + 1)), .int (xs (i + 2)), .int (xs (i + 3)), .int (xs (i + 4))]) (rest := [.int v]) (wr := wXK cA q σN σW σP κ M) (w' := wM cA h ad τ ++ wXK cA q σN σW σP κ M) hC (kX4_couldGive l dC dI cA h ad (xs (i + 1)) (xs (i + 2)) (xs (i + 3)) (xs (i + 4)) τ v e2) (cwV 4 hts gL_law_X4_couldGive rfl rfl rfl (by decide +kernel) ⟨(Nat.le_of_ble_eq_true rfl), (Nat.le_of_ble_eq_true rfl)⟩) 0 4 hV hN0 hK hP hD hS hA (List.Perm.refl _) (List.Perm.refl _) rfl rfl rfl rfl hl.1 rfl (Nat.le_of_ble_eq_true rfl) hf0 dL_law_620 (fun H locs hP hD hS => ?_)
  refine lv_icmp_eq (tgt := 1027) hx hb dL_law_623 (by decide) (fun _ => ?_) (fun hc => absurd rfl hc)
  refine W.widen (k := cells + 17) (n := slots + 1303) (by omega) (by omega) ?_
  exact kk _ _ _ _ _ _ _ _ (I.mono (by omega)) hP hD hS
set_option maxHeartbeats 4000000 in
set_option maxRecDepth 100000 in
theorem cs_inTheWay (C : lwC p s m meth c b L xs dC dI cA) (hl : lv_has ls 4 [(0, .ref b), (1, .ref (q 0)), (2, .ref h), (3, .int (nI i))]) (hi : i + 6 ≤ L) (hL : L ≤ 3072) (hN : N + 8100 < 2147483648) (hf : cells + 17 ≤ 600000 ∧ slots + 1303 ≤ 7302250) (I : INV N σN σP κ M τ) (hP : va_P (dC, dI) vwCl (lwW cA q h ad σN σW σP κ M τ) H) (hD : va_D (fun q : Nat => s.heap.size ≤ q) (lwW cA q h ad σN σW σP κ M τ)) (hS : va_S (fun q : Nat => s.heap.size ≤ q) s.heap H locs) (kk : lwK p l e s m below meth c b dC dI cA q h ad cells slots (N + 8100) Q ls) : W p l e room_1 s m #[Value.ref b] below meth c H locs cells slots Q (F0 m 628 ls []) := by
  obtain ⟨⟨hx, hb, hr, hml, hown, hts0, hX, hbl, hlocks, hgv⟩, hK, hO, hN0, hV⟩ := C
  have hts : ∀ w ∈ wsL_law, w.before #[Value.ref b] s = true := fun w hw => hts0 w (wsL_law_in w hw)
  have hC : CallFix p m c code 4 s #[Value.ref b] wsL_law RL := ⟨hx, hb, hml, hown, hts⟩
  have hA : ∀ z : Nat, s.heap.size ≤ z → (fun q : Nat => s.heap.size ≤ q) z := fun _ h => h
  have hf0 : cells ≤ 600000 ∧ slots ≤ 7302250 := by omega
  obtain ⟨v, e1, e2⟩ := I.rdr (cl := fun σ => fX3_inTheWay (xs (i + 1)) (xs (i + 2)) (xs (i + 3)) (xs (i + 4)) σ σW σP κ) (rf := fX4_inTheWay (xs (i + 1)) (xs (i + 2)) (xs (i + 3)) (xs (i + 4))) (fun A hw => inTheWay_b hw (xs (i + 1)) (xs (i + 2)) (xs (i + 3)) (xs (i + 4)))
  refine lv_aload_n hx hb dL_law_628 rfl (lv_at hl 1 rfl) ?_
  refine lw_arg (k := 1) hx hb hX hbl hS (lv_at hl 0 rfl) (lv_at hl 3 rfl) dL_law_629 dL_law_630 dL_law_631 (by decide) dL_law_632 dL_law_633 (by omega) (by omega) ?_
  refine lw_arg (k := 2) hx hb hX hbl hS (lv_at hl 0 rfl) (lv_at hl 3 rfl) dL_law_634 dL_law_635 dL_law_636 (by decide) dL_law_637 dL_law_638 (by omega) (by omega) ?_
  refine lw_arg (k := 3) hx hb hX hbl hS (lv_at hl 0 rfl) (lv_at hl 3 rfl) dL_law_639 dL_law_640 dL_law_641 (by decide) dL_law_642 dL_law_643 (by omega) (by omega) ?_
  refine lw_arg (k := 4) hx hb hX hbl hS (lv_at hl 0 rfl) (lv_at hl 3 rfl) dL_law_644 dL_law_645 dL_law_646 (by decide) dL_law_647 dL_law_648 (by omega) (by omega) ?_
  refine x_PI (As := [.int (xs (i + 1)), .int (xs (i + 2)), .int (xs (i + 3)), .int (xs (i + 4))]) (rest := []) (wr := wM cA h ad τ) (w' := wM cA h ad τ ++ wXK cA q σN σW σP κ M) hC (kX3_inTheWay l dC dI cA q (wRs cA q M ++ wkL cA M (List.range 9)) (xs (i + 1)) (xs (i + 2)) (xs (i + 3)) (xs (i + 4)) σN σW σP κ v e1) (cwV 4 hts gL_law_X3_inTheWay rfl rfl rfl (by decide +kernel) ⟨(Nat.le_of_ble_eq_true rfl), (Nat.le_of_ble_eq_true rfl)⟩) 11 3 hV hN0 hK hP hD hS hA List.perm_append_comm List.perm_append_comm rfl rfl rfl rfl hl.1 rfl (Nat.le_of_ble_eq_true rfl) hf0 dL_law_649 (fun H locs hP hD hS => ?_)
  refine lv_aload_n hx hb dL_law_652 rfl (lv_at hl 2 rfl) ?_
  refine lw_arg (k := 1) hx hb hX hbl hS (lv_at hl 0 rfl) (lv_at hl 3 rfl) dL_law_653 dL_law_654 dL_law_655 (by decide) dL_law_656 dL_law_657 (by omega) (by omega) ?_
  refine lw_arg (k := 2) hx hb hX hbl hS (lv_at hl 0 rfl) (lv_at hl 3 rfl) dL_law_658 dL_law_659 dL_law_660 (by decide) dL_law_661 dL_law_662 (by omega) (by omega) ?_
  refine lw_arg (k := 3) hx hb hX hbl hS (lv_at hl 0 rfl) (lv_at hl 3 rfl) dL_law_663 dL_law_664 dL_law_665 (by decide) dL_law_666 dL_law_667 (by omega) (by omega) ?_
  refine lw_arg (k := 4) hx hb hX hbl hS (lv_at hl 0 rfl) (lv_at hl 3 rfl) dL_law_668 dL_law_669 dL_law_670 (by decide) dL_law_671 dL_law_672 (by omega) (by omega) ?_
  refine x_PI (As := [.int (xs (i + 1)), .int (xs (i + 2)), .int (xs (i + 3)), .int (xs (i + 4))]) (rest := [.int v]) (wr := wXK cA q σN σW σP κ M) (w' := wM cA h ad τ ++ wXK cA q σN σW σP κ M) hC (kX4_inTheWay l dC dI cA h ad (xs (i + 1)) (xs (i + 2)) (xs (i + 3)) (xs (i + 4)) τ v e2) (cwV 4 hts gL_law_X4_inTheWay rfl rfl rfl (by decide +kernel) ⟨(Nat.le_of_ble_eq_true rfl), (Nat.le_of_ble_eq_true rfl)⟩) 0 4 hV hN0 hK hP hD hS hA (List.Perm.refl _) (List.Perm.refl _) rfl rfl rfl rfl hl.1 rfl (Nat.le_of_ble_eq_true rfl) hf0 dL_law_673 (fun H locs hP hD hS => ?_)
  refine lv_icmp_eq (tgt := 1027) hx hb dL_law_676 (by decide) (fun _ => ?_) (fun hc => absurd rfl hc)
  refine W.widen (k := cells + 17) (n := slots + 1303) (by omega) (by omega) ?_
  exact kk _ _ _ _ _ _ _ _ (I.mono (by omega)) hP hD hS
set_option maxHeartbeats 4000000 in
set_option maxRecDepth 100000 in
theorem cs_ring (C : lwC p s m meth c b L xs dC dI cA) (hl : lv_has ls 4 [(0, .ref b), (1, .ref (q 0)), (2, .ref h), (3, .int (nI i))]) (hi : i + 6 ≤ L) (hL : L ≤ 3072) (hN : N + 8100 < 2147483648) (hf : cells + 17 ≤ 600000 ∧ slots + 1303 ≤ 7302250) (I : INV N σN σP κ M τ) (hP : va_P (dC, dI) vwCl (lwW cA q h ad σN σW σP κ M τ) H) (hD : va_D (fun q : Nat => s.heap.size ≤ q) (lwW cA q h ad σN σW σP κ M τ)) (hS : va_S (fun q : Nat => s.heap.size ≤ q) s.heap H locs) (kk : lwK p l e s m below meth c b dC dI cA q h ad cells slots (N + 8100) Q ls) : W p l e room_1 s m #[Value.ref b] below meth c H locs cells slots Q (F0 m 681 ls []) := by
  obtain ⟨⟨hx, hb, hr, hml, hown, hts0, hX, hbl, hlocks, hgv⟩, hK, hO, hN0, hV⟩ := C
  have hts : ∀ w ∈ wsL_law, w.before #[Value.ref b] s = true := fun w hw => hts0 w (wsL_law_in w hw)
  have hC : CallFix p m c code 4 s #[Value.ref b] wsL_law RL := ⟨hx, hb, hml, hown, hts⟩
  have hA : ∀ z : Nat, s.heap.size ≤ z → (fun q : Nat => s.heap.size ≤ q) z := fun _ h => h
  have hf0 : cells ≤ 600000 ∧ slots ≤ 7302250 := by omega
  obtain ⟨v, σW2, τ2, e1, e2, I2⟩ := I.rdw (cl := fun σN σW => fX3_ring (xs (i + 1)) (xs (i + 2)) (xs (i + 3)) (xs (i + 4)) σN σW σP κ) (rf := fX4_ring (xs (i + 1)) (xs (i + 2)) (xs (i + 3)) (xs (i + 4))) (fun A hw => ring_b hw (xs (i + 1)) (xs (i + 2)) (xs (i + 3)) (xs (i + 4))) σW
  refine lv_aload_n hx hb dL_law_681 rfl (lv_at hl 1 rfl) ?_
  refine lw_arg (k := 1) hx hb hX hbl hS (lv_at hl 0 rfl) (lv_at hl 3 rfl) dL_law_682 dL_law_683 dL_law_684 (by decide) dL_law_685 dL_law_686 (by omega) (by omega) ?_
  refine lw_arg (k := 2) hx hb hX hbl hS (lv_at hl 0 rfl) (lv_at hl 3 rfl) dL_law_687 dL_law_688 dL_law_689 (by decide) dL_law_690 dL_law_691 (by omega) (by omega) ?_
  refine lw_arg (k := 3) hx hb hX hbl hS (lv_at hl 0 rfl) (lv_at hl 3 rfl) dL_law_692 dL_law_693 dL_law_694 (by decide) dL_law_695 dL_law_696 (by omega) (by omega) ?_
  refine lw_arg (k := 4) hx hb hX hbl hS (lv_at hl 0 rfl) (lv_at hl 3 rfl) dL_law_697 dL_law_698 dL_law_699 (by decide) dL_law_700 dL_law_701 (by omega) (by omega) ?_
  refine x_PI (As := [.int (xs (i + 1)), .int (xs (i + 2)), .int (xs (i + 3)), .int (xs (i + 4))]) (rest := []) (wr := wM cA h ad τ) (w' := wM cA h ad τ ++ wXK cA q σN σW2 σP κ M) hC (kX3_ring l dC dI cA q (wRs cA q M ++ wkL cA M (List.range 9)) (xs (i + 1)) (xs (i + 2)) (xs (i + 3)) (xs (i + 4)) σN σW σP κ v σW2 e1) (cwV 4 hts gL_law_X3_ring rfl rfl rfl (by decide +kernel) ⟨(Nat.le_of_ble_eq_true rfl), (Nat.le_of_ble_eq_true rfl)⟩) 11 3 hV hN0 hK hP hD hS hA List.perm_append_comm List.perm_append_comm rfl rfl rfl rfl hl.1 rfl (Nat.le_of_ble_eq_true rfl) hf0 dL_law_702 (fun H locs hP hD hS => ?_)
  refine lv_aload_n hx hb dL_law_705 rfl (lv_at hl 2 rfl) ?_
  refine lw_arg (k := 1) hx hb hX hbl hS (lv_at hl 0 rfl) (lv_at hl 3 rfl) dL_law_706 dL_law_707 dL_law_708 (by decide) dL_law_709 dL_law_710 (by omega) (by omega) ?_
  refine lw_arg (k := 2) hx hb hX hbl hS (lv_at hl 0 rfl) (lv_at hl 3 rfl) dL_law_711 dL_law_712 dL_law_713 (by decide) dL_law_714 dL_law_715 (by omega) (by omega) ?_
  refine lw_arg (k := 3) hx hb hX hbl hS (lv_at hl 0 rfl) (lv_at hl 3 rfl) dL_law_716 dL_law_717 dL_law_718 (by decide) dL_law_719 dL_law_720 (by omega) (by omega) ?_
  refine lw_arg (k := 4) hx hb hX hbl hS (lv_at hl 0 rfl) (lv_at hl 3 rfl) dL_law_721 dL_law_722 dL_law_723 (by decide) dL_law_724 dL_law_725 (by omega) (by omega) ?_
  refine x_PI (As := [.int (xs (i + 1)), .int (xs (i + 2)), .int (xs (i + 3)), .int (xs (i + 4))]) (rest := [.int v]) (wr := wXK cA q σN σW2 σP κ M) (w' := wM cA h ad τ2 ++ wXK cA q σN σW2 σP κ M) hC (kX4_ring l dC dI cA h ad (xs (i + 1)) (xs (i + 2)) (xs (i + 3)) (xs (i + 4)) τ v τ2 e2) (cwV 4 hts gL_law_X4_ring rfl rfl rfl (by decide +kernel) ⟨(Nat.le_of_ble_eq_true rfl), (Nat.le_of_ble_eq_true rfl)⟩) 0 4 hV hN0 hK hP hD hS hA (List.Perm.refl _) (List.Perm.refl _) rfl rfl rfl rfl hl.1 rfl (Nat.le_of_ble_eq_true rfl) hf0 dL_law_726 (fun H locs hP hD hS => ?_)
  refine lv_icmp_eq (tgt := 1027) hx hb dL_law_729 (by decide) (fun _ => ?_) (fun hc => absurd rfl hc)
  refine W.widen (k := cells + 17) (n := slots + 1303) (by omega) (by omega) ?_
  exact kk _ _ _ _ _ _ _ _ (I2.mono (by omega)) hP hD hS
end LB
