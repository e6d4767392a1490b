/-! The law's roads: firstFor, longestFor, givenIf, greatestBar -/
section LB
variable {p : Program} {l : Launch} {e : Env} {s : State} {m : MethodId} {below : List Frame} {meth : Method} {c : Code} {b L : Nat} {xs : Nat → Int32} {dC : Nat → ClassId} {dI : Nat → Nat → Nat} {cA : Nat → ClassId} {q : Nat → Nat} {h : Nat} {ad : Nat → Nat} {H : Heap} {locs : List Loc} {cells slots N i : Nat} {Q : State → Prop} {ls : Array Slot} {σN σW σP κ τ : St} {M : Mk}
set_option maxHeartbeats 4000000 in
set_option maxRecDepth 100000 in
theorem cs_firstFor (C : lwC p s m meth c b L xs dC dI cA) (hl : lv_has ls 4 [(0, .ref b), (1, .ref (q 0)), (2, .ref h), (3, .int (nI i))]) (hi : i + 6 ≤ L) (hL : L ≤ 3072) (hN : N + 8100 < 2147483648) (hf : cells + 17 ≤ 600000 ∧ slots + 1303 ≤ 7302250) (I : INV N σN σP κ M τ) (hP : va_P (dC, dI) vwCl (lwW cA q h ad σN σW σP κ M τ) H) (hD : va_D (fun q : Nat => s.heap.size ≤ q) (lwW cA q h ad σN σW σP κ M τ)) (hS : va_S (fun q : Nat => s.heap.size ≤ q) s.heap H locs) (kk : lwK p l e s m below meth c b dC dI cA q h ad cells slots (N + 8100) Q ls) : W p l e room_1 s m #[Value.ref b] below meth c H locs cells slots Q (F0 m 734 ls []) := by
  obtain ⟨⟨hx, hb, hr, hml, hown, hts0, hX, hbl, hlocks, hgv⟩, hK, hO, hN0, hV⟩ := C
  have hts : ∀ w ∈ wsL_law, w.before #[Value.ref b] s = true := fun w hw => hts0 w (wsL_law_in w hw)
  have hC : CallFix p m c code 4 s #[Value.ref b] wsL_law RL := ⟨hx, hb, hml, hown, hts⟩
  have hA : ∀ z : Nat, s.heap.size ≤ z → (fun q : Nat => s.heap.size ≤ q) z := fun _ h => h
  have hf0 : cells ≤ 600000 ∧ slots ≤ 7302250 := by omega
  obtain ⟨v, e1, e2⟩ := I.rdr (cl := fun σ => fX3_firstFor (xs (i + 1)) (xs (i + 2)) (xs (i + 3)) (xs (i + 4)) σ σW σP κ) (rf := fX4_firstFor (xs (i + 1)) (xs (i + 2)) (xs (i + 3)) (xs (i + 4))) (fun A hw => firstFor_b hw (xs (i + 1)) (xs (i + 2)) (xs (i + 3)) (xs (i + 4)))
  refine lv_aload_n hx hb dL_law_734 rfl (lv_at hl 1 rfl) ?_
  refine lw_arg (k := 1) hx hb hX hbl hS (lv_at hl 0 rfl) (lv_at hl 3 rfl) dL_law_735 dL_law_736 dL_law_737 (by decide) dL_law_738 dL_law_739 (by omega) (by omega) ?_
  refine lw_arg (k := 2) hx hb hX hbl hS (lv_at hl 0 rfl) (lv_at hl 3 rfl) dL_law_740 dL_law_741 dL_law_742 (by decide) dL_law_743 dL_law_744 (by omega) (by omega) ?_
  refine lw_arg (k := 3) hx hb hX hbl hS (lv_at hl 0 rfl) (lv_at hl 3 rfl) dL_law_745 dL_law_746 dL_law_747 (by decide) dL_law_748 dL_law_749 (by omega) (by omega) ?_
  refine lw_arg (k := 4) hx hb hX hbl hS (lv_at hl 0 rfl) (lv_at hl 3 rfl) dL_law_750 dL_law_751 dL_law_752 (by decide) dL_law_753 dL_law_754 (by omega) (by omega) ?_
  refine x_PI (As := [.int (xs (i + 1)), .int (xs (i + 2)), .int (xs (i + 3)), .int (xs (i + 4))]) (rest := []) (wr := wM cA h ad τ) (w' := wM cA h ad τ ++ wXK cA q σN σW σP κ M) hC (kX3_firstFor l dC dI cA q (wRs cA q M ++ wkL cA M (List.range 9)) (xs (i + 1)) (xs (i + 2)) (xs (i + 3)) (xs (i + 4)) σN σW σP κ v e1) (cwV 4 hts gL_law_X3_firstFor rfl rfl rfl (by decide +kernel) ⟨(Nat.le_of_ble_eq_true rfl), (Nat.le_of_ble_eq_true rfl)⟩) 11 3 hV hN0 hK hP hD hS hA List.perm_append_comm List.perm_append_comm rfl rfl rfl rfl hl.1 rfl (Nat.le_of_ble_eq_true rfl) hf0 dL_law_755 (fun H locs hP hD hS => ?_)
  refine lv_aload_n hx hb dL_law_758 rfl (lv_at hl 2 rfl) ?_
  refine lw_arg (k := 1) hx hb hX hbl hS (lv_at hl 0 rfl) (lv_at hl 3 rfl) dL_law_759 dL_law_760 dL_law_761 (by decide) dL_law_762 dL_law_763 (by omega) (by omega) ?_
  refine lw_arg (k := 2) hx hb hX hbl hS (lv_at hl 0 rfl) (lv_at hl 3 rfl) dL_law_764 dL_law_765 dL_law_766 (by decide) dL_law_767 dL_law_768 (by omega) (by omega) ?_
  refine lw_arg (k := 3) hx hb hX hbl hS (lv_at hl 0 rfl) (lv_at hl 3 rfl) dL_law_769 dL_law_770 dL_law_771 (by decide) dL_law_772 dL_law_773 (by omega) (by omega) ?_
  refine lw_arg (k := 4) hx hb hX hbl hS (lv_at hl 0 rfl) (lv_at hl 3 rfl) dL_law_774 dL_law_775 dL_law_776 (by decide) dL_law_777 dL_law_778 (by omega) (by omega) ?_
  refine x_PI (As := [.int (xs (i + 1)), .int (xs (i + 2)), .int (xs (i + 3)), .int (xs (i + 4))]) (rest := [.int v]) (wr := wXK cA q σN σW σP κ M) (w' := wM cA h ad τ ++ wXK cA q σN σW σP κ M) hC (kX4_firstFor l dC dI cA h ad (xs (i + 1)) (xs (i + 2)) (xs (i + 3)) (xs (i + 4)) τ v e2) (cwV 4 hts gL_law_X4_firstFor rfl rfl rfl (by decide +kernel) ⟨(Nat.le_of_ble_eq_true rfl), (Nat.le_of_ble_eq_true rfl)⟩) 0 4 hV hN0 hK hP hD hS hA (List.Perm.refl _) (List.Perm.refl _) rfl rfl rfl rfl hl.1 rfl (Nat.le_of_ble_eq_true rfl) hf0 dL_law_779 (fun H locs hP hD hS => ?_)
  refine lv_icmp_eq (tgt := 1027) hx hb dL_law_782 (by decide) (fun _ => ?_) (fun hc => absurd rfl hc)
  refine W.widen (k := cells + 17) (n := slots + 1303) (by omega) (by omega) ?_
  exact kk _ _ _ _ _ _ _ _ (I.mono (by omega)) hP hD hS
set_option maxHeartbeats 4000000 in
set_option maxRecDepth 100000 in
theorem cs_longestFor (C : lwC p s m meth c b L xs dC dI cA) (hl : lv_has ls 4 [(0, .ref b), (1, .ref (q 0)), (2, .ref h), (3, .int (nI i))]) (hi : i + 6 ≤ L) (hL : L ≤ 3072) (hN : N + 8100 < 2147483648) (hf : cells + 17 ≤ 600000 ∧ slots + 1303 ≤ 7302250) (I : INV N σN σP κ M τ) (hP : va_P (dC, dI) vwCl (lwW cA q h ad σN σW σP κ M τ) H) (hD : va_D (fun q : Nat => s.heap.size ≤ q) (lwW cA q h ad σN σW σP κ M τ)) (hS : va_S (fun q : Nat => s.heap.size ≤ q) s.heap H locs) (kk : lwK p l e s m below meth c b dC dI cA q h ad cells slots (N + 8100) Q ls) : W p l e room_1 s m #[Value.ref b] below meth c H locs cells slots Q (F0 m 787 ls []) := by
  obtain ⟨⟨hx, hb, hr, hml, hown, hts0, hX, hbl, hlocks, hgv⟩, hK, hO, hN0, hV⟩ := C
  have hts : ∀ w ∈ wsL_law, w.before #[Value.ref b] s = true := fun w hw => hts0 w (wsL_law_in w hw)
  have hC : CallFix p m c code 4 s #[Value.ref b] wsL_law RL := ⟨hx, hb, hml, hown, hts⟩
  have hA : ∀ z : Nat, s.heap.size ≤ z → (fun q : Nat => s.heap.size ≤ q) z := fun _ h => h
  have hf0 : cells ≤ 600000 ∧ slots ≤ 7302250 := by omega
  obtain ⟨v, e1, e2⟩ := I.rdr (cl := fun σ => fX3_longestFor (xs (i + 1)) (xs (i + 2)) (xs (i + 3)) σ σW σP κ) (rf := fX4_longestFor (xs (i + 1)) (xs (i + 2)) (xs (i + 3))) (fun A hw => longestFor_b hw (xs (i + 1)) (xs (i + 2)) (xs (i + 3)))
  refine lv_aload_n hx hb dL_law_787 rfl (lv_at hl 1 rfl) ?_
  refine lw_arg (k := 1) hx hb hX hbl hS (lv_at hl 0 rfl) (lv_at hl 3 rfl) dL_law_788 dL_law_789 dL_law_790 (by decide) dL_law_791 dL_law_792 (by omega) (by omega) ?_
  refine lw_arg (k := 2) hx hb hX hbl hS (lv_at hl 0 rfl) (lv_at hl 3 rfl) dL_law_793 dL_law_794 dL_law_795 (by decide) dL_law_796 dL_law_797 (by omega) (by omega) ?_
  refine lw_arg (k := 3) hx hb hX hbl hS (lv_at hl 0 rfl) (lv_at hl 3 rfl) dL_law_798 dL_law_799 dL_law_800 (by decide) dL_law_801 dL_law_802 (by omega) (by omega) ?_
  refine x_PI (As := [.int (xs (i + 1)), .int (xs (i + 2)), .int (xs (i + 3))]) (rest := []) (wr := wM cA h ad τ) (w' := wM cA h ad τ ++ wXK cA q σN σW σP κ M) hC (kX3_longestFor l dC dI cA q (wRs cA q M ++ wkL cA M (List.range 9)) (xs (i + 1)) (xs (i + 2)) (xs (i + 3)) σN σW σP κ v e1) (cwV 3 hts gL_law_X3_longestFor rfl rfl rfl (by decide +kernel) ⟨(Nat.le_of_ble_eq_true rfl), (Nat.le_of_ble_eq_true rfl)⟩) 11 3 hV hN0 hK hP hD hS hA List.perm_append_comm List.perm_append_comm rfl rfl rfl rfl hl.1 rfl (Nat.le_of_ble_eq_true rfl) hf0 dL_law_803 (fun H locs hP hD hS => ?_)
  refine lv_aload_n hx hb dL_law_806 rfl (lv_at hl 2 rfl) ?_
  refine lw_arg (k := 1) hx hb hX hbl hS (lv_at hl 0 rfl) (lv_at hl 3 rfl) dL_law_807 dL_law_808 dL_law_809 (by decide) dL_law_810 dL_law_811 (by omega) (by omega) ?_
  refine lw_arg (k := 2) hx hb hX hbl hS (lv_at hl 0 rfl) (lv_at hl 3 rfl) dL_law_812 dL_law_813 dL_law_814 (by decide) dL_law_815 dL_law_816 (by omega) (by omega) ?_
  refine lw_arg (k := 3) hx hb hX hbl hS (lv_at hl 0 rfl) (lv_at hl 3 rfl) dL_law_817 dL_law_818 dL_law_819 (by decide) dL_law_820 dL_law_821 (by omega) (by omega) ?_
  refine x_PI (As := [.int (xs (i + 1)), .int (xs (i + 2)), .int (xs (i + 3))]) (rest := [.int v]) (wr := wXK cA q σN σW σP κ M) (w' := wM cA h ad τ ++ wXK cA q σN σW σP κ M) hC (kX4_longestFor l dC dI cA h ad (xs (i + 1)) (xs (i + 2)) (xs (i + 3)) τ v e2) (cwV 3 hts gL_law_X4_longestFor rfl rfl rfl (by decide +kernel) ⟨(Nat.le_of_ble_eq_true rfl), (Nat.le_of_ble_eq_true rfl)⟩) 0 4 hV hN0 hK hP hD hS hA (List.Perm.refl _) (List.Perm.refl _) rfl rfl rfl rfl hl.1 rfl (Nat.le_of_ble_eq_true rfl) hf0 dL_law_822 (fun H locs hP hD hS => ?_)
  refine lv_icmp_eq (tgt := 1027) hx hb dL_law_825 (by decide) (fun _ => ?_) (fun hc => absurd rfl hc)
  refine W.widen (k := cells + 17) (n := slots + 1303) (by omega) (by omega) ?_
  exact kk _ _ _ _ _ _ _ _ (I.mono (by omega)) hP hD hS
set_option maxHeartbeats 4000000 in
set_option maxRecDepth 100000 in
theorem cs_givenIf (C : lwC p s m meth c b L xs dC dI cA) (hl : lv_has ls 4 [(0, .ref b), (1, .ref (q 0)), (2, .ref h), (3, .int (nI i))]) (hi : i + 6 ≤ L) (hL : L ≤ 3072) (hN : N + 8100 < 2147483648) (hf : cells + 17 ≤ 600000 ∧ slots + 1303 ≤ 7302250) (I : INV N σN σP κ M τ) (hP : va_P (dC, dI) vwCl (lwW cA q h ad σN σW σP κ M τ) H) (hD : va_D (fun q : Nat => s.heap.size ≤ q) (lwW cA q h ad σN σW σP κ M τ)) (hS : va_S (fun q : Nat => s.heap.size ≤ q) s.heap H locs) (kk : lwK p l e s m below meth c b dC dI cA q h ad cells slots (N + 8100) Q ls) : W p l e room_1 s m #[Value.ref b] below meth c H locs cells slots Q (F0 m 830 ls []) := by
  obtain ⟨⟨hx, hb, hr, hml, hown, hts0, hX, hbl, hlocks, hgv⟩, hK, hO, hN0, hV⟩ := C
  have hts : ∀ w ∈ wsL_law, w.before #[Value.ref b] s = true := fun w hw => hts0 w (wsL_law_in w hw)
  have hC : CallFix p m c code 4 s #[Value.ref b] wsL_law RL := ⟨hx, hb, hml, hown, hts⟩
  have hA : ∀ z : Nat, s.heap.size ≤ z → (fun q : Nat => s.heap.size ≤ q) z := fun _ h => h
  have hf0 : cells ≤ 600000 ∧ slots ≤ 7302250 := by omega
  obtain ⟨v, σW2, τ2, e1, e2, I2⟩ := I.rdw (cl := fun σN σW => fX3_givenIf (xs (i + 1)) σN σW σP κ) (rf := fX4_givenIf (xs (i + 1))) (fun A hw => givenIf_b hw (xs (i + 1))) σW
  refine lv_aload_n hx hb dL_law_830 rfl (lv_at hl 1 rfl) ?_
  refine lw_arg (k := 1) hx hb hX hbl hS (lv_at hl 0 rfl) (lv_at hl 3 rfl) dL_law_831 dL_law_832 dL_law_833 (by decide) dL_law_834 dL_law_835 (by omega) (by omega) ?_
  refine x_PI (As := [.int (xs (i + 1))]) (rest := []) (wr := wM cA h ad τ) (w' := wM cA h ad τ ++ wXK cA q σN σW2 σP κ M) hC (kX3_givenIf l dC dI cA q (wRs cA q M ++ wkL cA M (List.range 9)) (xs (i + 1)) σN σW σP κ v σW2 e1) (cwV 1 hts gL_law_X3_givenIf rfl rfl rfl (by decide +kernel) ⟨(Nat.le_of_ble_eq_true rfl), (Nat.le_of_ble_eq_true rfl)⟩) 11 3 hV hN0 hK hP hD hS hA List.perm_append_comm List.perm_append_comm rfl rfl rfl rfl hl.1 rfl (Nat.le_of_ble_eq_true rfl) hf0 dL_law_836 (fun H locs hP hD hS => ?_)
  refine lv_aload_n hx hb dL_law_839 rfl (lv_at hl 2 rfl) ?_
  refine lw_arg (k := 1) hx hb hX hbl hS (lv_at hl 0 rfl) (lv_at hl 3 rfl) dL_law_840 dL_law_841 dL_law_842 (by decide) dL_law_843 dL_law_844 (by omega) (by omega) ?_
  refine x_PI (As := [.int (xs (i + 1))]) (rest := [.int v]) (wr := wXK cA q σN σW2 σP κ M) (w' := wM cA h ad τ2 ++ wXK cA q σN σW2 σP κ M) hC (kX4_givenIf l dC dI cA h ad (xs (i + 1)) τ v τ2 e2) (cwV 1 hts gL_law_X4_givenIf rfl rfl rfl (by decide +kernel) ⟨(Nat.le_of_ble_eq_true rfl), (Nat.le_of_ble_eq_true rfl)⟩) 0 4 hV hN0 hK hP hD hS hA (List.Perm.refl _) (List.Perm.refl _) rfl rfl rfl rfl hl.1 rfl (Nat.le_of_ble_eq_true rfl) hf0 dL_law_845 (fun H locs hP hD hS => ?_)
  refine lv_icmp_eq (tgt := 1027) hx hb dL_law_848 (by decide) (fun _ => ?_) (fun hc => absurd rfl hc)
  refine W.widen (k := cells + 17) (n := slots + 1303) (by omega) (by omega) ?_
  exact kk _ _ _ _ _ _ _ _ (I2.mono (by omega)) hP hD hS
set_option maxHeartbeats 4000000 in
set_option maxRecDepth 100000 in
theorem cs_greatestBar (C : lwC p s m meth c b L xs dC dI cA) (hl : lv_has ls 4 [(0, .ref b), (1, .ref (q 0)), (2, .ref h), (3, .int (nI i))]) (hi : i + 6 ≤ L) (hL : L ≤ 3072) (hN : N + 8100 < 2147483648) (hf : cells + 17 ≤ 600000 ∧ slots + 1303 ≤ 7302250) (I : INV N σN σP κ M τ) (hP : va_P (dC, dI) vwCl (lwW cA q h ad σN σW σP κ M τ) H) (hD : va_D (fun q : Nat => s.heap.size ≤ q) (lwW cA q h ad σN σW σP κ M τ)) (hS : va_S (fun q : Nat => s.heap.size ≤ q) s.heap H locs) (kk : lwK p l e s m below meth c b dC dI cA q h ad cells slots (N + 8100) Q ls) : W p l e room_1 s m #[Value.ref b] below meth c H locs cells slots Q (F0 m 853 ls []) := by
  obtain ⟨⟨hx, hb, hr, hml, hown, hts0, hX, hbl, hlocks, hgv⟩, hK, hO, hN0, hV⟩ := C
  have hts : ∀ w ∈ wsL_law, w.before #[Value.ref b] s = true := fun w hw => hts0 w (wsL_law_in w hw)
  have hC : CallFix p m c code 4 s #[Value.ref b] wsL_law RL := ⟨hx, hb, hml, hown, hts⟩
  have hA : ∀ z : Nat, s.heap.size ≤ z → (fun q : Nat => s.heap.size ≤ q) z := fun _ h => h
  have hf0 : cells ≤ 600000 ∧ slots ≤ 7302250 := by omega
  obtain ⟨v, σW2, τ2, e1, e2, I2⟩ := I.rdw (cl := fun σN σW => fX3_greatestBar (xs (i + 1)) σN σW σP κ) (rf := fX4_greatestBar (xs (i + 1))) (fun A hw => greatestBar_b hw (xs (i + 1))) σW
  refine lv_aload_n hx hb dL_law_853 rfl (lv_at hl 1 rfl) ?_
  refine lw_arg (k := 1) hx hb hX hbl hS (lv_at hl 0 rfl) (lv_at hl 3 rfl) dL_law_854 dL_law_855 dL_law_856 (by decide) dL_law_857 dL_law_858 (by omega) (by omega) ?_
  refine x_PI (As := [.int (xs (i + 1))]) (rest := []) (wr := wM cA h ad τ) (w' := wM cA h ad τ ++ wXK cA q σN σW2 σP κ M) hC (kX3_greatestBar l dC dI cA q (wRs cA q M ++ wkL cA M (List.range 9)) (xs (i + 1)) σN σW σP κ v σW2 e1) (cwV 1 hts gL_law_X3_greatestBar rfl rfl rfl (by decide +kernel) ⟨(Nat.le_of_ble_eq_true rfl), (Nat.le_of_ble_eq_true rfl)⟩) 11 3 hV hN0 hK hP hD hS hA List.perm_append_comm List.perm_append_comm rfl rfl rfl rfl hl.1 rfl (Nat.le_of_ble_eq_true rfl) hf0 dL_law_859 (fun H locs hP hD hS => ?_)
  refine lv_aload_n hx hb dL_law_862 rfl (lv_at hl 2 rfl) ?_
  refine lw_arg (k := 1) hx hb hX hbl hS (lv_at hl 0 rfl) (lv_at hl 3 rfl) dL_law_863 dL_law_864 dL_law_865 (by decide) dL_law_866 dL_law_867 (by omega) (by omega) ?_
  refine x_PI (As := [.int (xs (i + 1))]) (rest := [.int v]) (wr := wXK cA q σN σW2 σP κ M) (w' := wM cA h ad τ2 ++ wXK cA q σN σW2 σP κ M) hC (kX4_greatestBar l dC dI cA h ad (xs (i + 1)) τ v τ2 e2) (cwV 1 hts gL_law_X4_greatestBar rfl rfl rfl (by decide +kernel) ⟨(Nat.le_of_ble_eq_true rfl), (Nat.le_of_ble_eq_true rfl)⟩) 0 4 hV hN0 hK hP hD hS hA (List.Perm.refl _) (List.Perm.refl _) rfl rfl rfl rfl hl.1 rfl (Nat.le_of_ble_eq_true rfl) hf0 dL_law_868 (fun H locs hP hD hS => ?_)
  refine lv_icmp_eq (tgt := 1027) hx hb dL_law_871 (by decide) (fun _ => ?_) (fun hc => absurd rfl hc)
  refine W.widen (k := cells + 17) (n := slots + 1303) (by omega) (by omega) ?_
  exact kk _ _ _ _ _ _ _ _ (I2.mono (by omega)) hP hD hS
end LB
