/-! The law's roads: put, wipe, fault, carryOut -/
section LB
variable {p : Program} {l : Launch} {e : Env} {s : State} {m : MethodId} {below : List Frame} {meth : Method} {c : Code} {b L : Nat} {xs : Nat → Int32} {dC : Nat → ClassId} {dI : Nat → Nat → Nat} {cA : Nat → ClassId} {q : Nat → Nat} {h : Nat} {ad : Nat → Nat} {H : Heap} {locs : List Loc} {cells slots N i : Nat} {Q : State → Prop} {ls : Array Slot} {σN σW σP κ τ : St} {M : Mk}
set_option maxHeartbeats 4000000 in
set_option maxRecDepth 100000 in
theorem cs_put (C : lwC p s m meth c b L xs dC dI cA) (hl : lv_has ls 4 [(0, .ref b), (1, .ref (q 0)), (2, .ref h), (3, .int (nI i))]) (hi : i + 6 ≤ L) (hL : L ≤ 3072) (hN : N + 8100 < 2147483648) (hf : cells + 17 ≤ 600000 ∧ slots + 1303 ≤ 7302250) (I : INV N σN σP κ M τ) (hP : va_P (dC, dI) vwCl (lwW cA q h ad σN σW σP κ M τ) H) (hD : va_D (fun q : Nat => s.heap.size ≤ q) (lwW cA q h ad σN σW σP κ M τ)) (hS : va_S (fun q : Nat => s.heap.size ≤ q) s.heap H locs) (kk : lwK p l e s m below meth c b dC dI cA q h ad cells slots (N + 8100) Q ls) : W p l e room_1 s m #[Value.ref b] below meth c H locs cells slots Q (F0 m 876 ls []) := by
  obtain ⟨⟨hx, hb, hr, hml, hown, hts0, hX, hbl, hlocks, hgv⟩, hK, hO, hN0, hV⟩ := C
  have hts : ∀ w ∈ wsL_law, w.before #[Value.ref b] s = true := fun w hw => hts0 w (wsL_law_in w hw)
  have hC : CallFix p m c code 4 s #[Value.ref b] wsL_law RL := ⟨hx, hb, hml, hown, hts⟩
  have hA : ∀ z : Nat, s.heap.size ≤ z → (fun q : Nat => s.heap.size ≤ q) z := fun _ h => h
  have hf0 : cells ≤ 600000 ∧ slots ≤ 7302250 := by omega
  refine lv_aload_n hx hb dL_law_876 rfl (lv_at hl 1 rfl) ?_
  refine lw_arg (k := 1) hx hb hX hbl hS (lv_at hl 0 rfl) (lv_at hl 3 rfl) dL_law_877 dL_law_878 dL_law_879 (by decide) dL_law_880 dL_law_881 (by omega) (by omega) ?_
  refine lv_i2l hx hb dL_law_882 rfl ?_
  refine lv_bipush (v := (32 : Int32)) hx hb dL_law_883 (by decide) ?_
  refine lv_lshl hx hb dL_law_885 rfl ?_
  refine lw_arg (k := 2) hx hb hX hbl hS (lv_at hl 0 rfl) (lv_at hl 3 rfl) dL_law_886 dL_law_887 dL_law_888 (by decide) dL_law_889 dL_law_890 (by omega) (by omega) ?_
  refine lv_i2l hx hb dL_law_891 rfl ?_
  refine lv_ldc2 (v := 4294967295) hx hb (own := RL) hown (hts0 (.constantLong RL 98 4294967295) (wsE_in _ (List.mem_of_getElem? (i := 14) rfl))) dL_law_892 ?_
  refine lv_land hx hb dL_law_895 ?_
  refine lv_lor hx hb dL_law_896 ?_
  refine lv_topl (fun a ea => ?_)
  obtain ⟨v, σP2, τ2, e1, e2, I2⟩ := I.typ a σW
  refine x_PI (As := [.long a]) (rest := []) (wr := wM cA h ad τ) (w' := wM cA h ad τ ++ wXK cA q σN σW σP2 κ M) hC (kX3_put l dC dI cA q (wRs cA q M ++ wkL cA M (List.range 9)) a σN σW σP κ v σP2 e1) (cwV 1 hts gL_law_X3_put rfl rfl rfl (by decide +kernel) ⟨(Nat.le_of_ble_eq_true rfl), (Nat.le_of_ble_eq_true rfl)⟩) 11 3 hV hN0 hK hP hD hS hA List.perm_append_comm List.perm_append_comm rfl rfl rfl rfl hl.1 rfl (Nat.le_of_ble_eq_true rfl) hf0 dL_law_897 (fun H locs hP hD hS => ?_)
  refine lv_aload_n hx hb dL_law_900 rfl (lv_at hl 2 rfl) ?_
  refine lw_arg (k := 1) hx hb hX hbl hS (lv_at hl 0 rfl) (lv_at hl 3 rfl) dL_law_901 dL_law_902 dL_law_903 (by decide) dL_law_904 dL_law_905 (by omega) (by omega) ?_
  refine lv_i2l hx hb dL_law_906 rfl ?_
  refine lv_bipush (v := (32 : Int32)) hx hb dL_law_907 (by decide) ?_
  refine lv_lshl hx hb dL_law_909 rfl ?_
  refine lw_arg (k := 2) hx hb hX hbl hS (lv_at hl 0 rfl) (lv_at hl 3 rfl) dL_law_910 dL_law_911 dL_law_912 (by decide) dL_law_913 dL_law_914 (by omega) (by omega) ?_
  refine lv_i2l hx hb dL_law_915 rfl ?_
  refine lv_ldc2 (v := 4294967295) hx hb (own := RL) hown (hts0 (.constantLong RL 98 4294967295) (wsE_in _ (List.mem_of_getElem? (i := 14) rfl))) dL_law_916 ?_
  refine lv_land hx hb dL_law_919 ?_
  refine lv_lor hx hb dL_law_920 ?_
  refine lv_topl (fun a2 ea2 => ?_)
  obtain rfl : a2 = a := ea2.trans ea.symm
  refine x_PI (As := [.long a2]) (rest := [.int v]) (wr := wXK cA q σN σW σP2 κ M) (w' := wM cA h ad τ2 ++ wXK cA q σN σW σP2 κ M) hC (kX4_put l dC dI cA h ad a2 τ v τ2 e2) (cwV 1 hts gL_law_X4_put rfl rfl rfl (by decide +kernel) ⟨(Nat.le_of_ble_eq_true rfl), (Nat.le_of_ble_eq_true rfl)⟩) 0 4 hV hN0 hK hP hD hS hA (List.Perm.refl _) (List.Perm.refl _) rfl rfl rfl rfl hl.1 rfl (Nat.le_of_ble_eq_true rfl) hf0 dL_law_921 (fun H locs hP hD hS => ?_)
  refine lv_icmp_eq (tgt := 1027) hx hb dL_law_924 (by decide) (fun _ => ?_) (fun hc => absurd rfl hc)
  refine W.widen (k := cells + 17) (n := slots + 1303) (by omega) (by omega) ?_
  exact kk _ _ _ _ _ _ _ _ (I2.mono (by omega)) hP hD hS
set_option maxHeartbeats 4000000 in
set_option maxRecDepth 100000 in
theorem cs_wipe (C : lwC p s m meth c b L xs dC dI cA) (hl : lv_has ls 4 [(0, .ref b), (1, .ref (q 0)), (2, .ref h), (3, .int (nI i))]) (hi : i + 6 ≤ L) (hL : L ≤ 3072) (hN : N + 8100 < 2147483648) (hf : cells + 17 ≤ 600000 ∧ slots + 1303 ≤ 7302250) (I : INV N σN σP κ M τ) (hP : va_P (dC, dI) vwCl (lwW cA q h ad σN σW σP κ M τ) H) (hD : va_D (fun q : Nat => s.heap.size ≤ q) (lwW cA q h ad σN σW σP κ M τ)) (hS : va_S (fun q : Nat => s.heap.size ≤ q) s.heap H locs) (kk : lwK p l e s m below meth c b dC dI cA q h ad cells slots (N + 8100) Q ls) : W p l e room_1 s m #[Value.ref b] below meth c H locs cells slots Q (F0 m 929 ls []) := by
  obtain ⟨⟨hx, hb, hr, hml, hown, hts0, hX, hbl, hlocks, hgv⟩, hK, hO, hN0, hV⟩ := C
  have hts : ∀ w ∈ wsL_law, w.before #[Value.ref b] s = true := fun w hw => hts0 w (wsL_law_in w hw)
  have hC : CallFix p m c code 4 s #[Value.ref b] wsL_law RL := ⟨hx, hb, hml, hown, hts⟩
  have hA : ∀ z : Nat, s.heap.size ≤ z → (fun q : Nat => s.heap.size ≤ q) z := fun _ h => h
  have hf0 : cells ≤ 600000 ∧ slots ≤ 7302250 := by omega
  obtain ⟨v, σP2, τ2, e1, e2, I2⟩ := I.wipe σW
  refine lv_aload_n hx hb dL_law_929 rfl (lv_at hl 1 rfl) ?_
  refine x_PI (As := []) (rest := []) (wr := wM cA h ad τ) (w' := wM cA h ad τ ++ wXK cA q σN σW σP2 κ M) hC (kX3_wipe l dC dI cA q (wRs cA q M ++ wkL cA M (List.range 9)) σN σW σP κ v σP2 e1) (cwV 0 hts gL_law_X3_wipe rfl rfl rfl (by decide +kernel) ⟨(Nat.le_of_ble_eq_true rfl), (Nat.le_of_ble_eq_true rfl)⟩) 11 3 hV hN0 hK hP hD hS hA List.perm_append_comm List.perm_append_comm rfl rfl rfl rfl hl.1 rfl (Nat.le_of_ble_eq_true rfl) hf0 dL_law_930 (fun H locs hP hD hS => ?_)
  refine lv_aload_n hx hb dL_law_933 rfl (lv_at hl 2 rfl) ?_
  refine x_PI (As := []) (rest := [.int v]) (wr := wXK cA q σN σW σP2 κ M) (w' := wM cA h ad τ2 ++ wXK cA q σN σW σP2 κ M) hC (kX4_wipe l dC dI cA h ad τ v τ2 e2) (cwV 0 hts gL_law_X4_wipe rfl rfl rfl (by decide +kernel) ⟨(Nat.le_of_ble_eq_true rfl), (Nat.le_of_ble_eq_true rfl)⟩) 0 4 hV hN0 hK hP hD hS hA (List.Perm.refl _) (List.Perm.refl _) rfl rfl rfl rfl hl.1 rfl (Nat.le_of_ble_eq_true rfl) hf0 dL_law_934 (fun H locs hP hD hS => ?_)
  refine lv_icmp_eq (tgt := 1027) hx hb dL_law_937 (by decide) (fun _ => ?_) (fun hc => absurd rfl hc)
  refine W.widen (k := cells + 17) (n := slots + 1303) (by omega) (by omega) ?_
  exact kk _ _ _ _ _ _ _ _ (I2.mono (by omega)) hP hD hS
set_option maxHeartbeats 4000000 in
set_option maxRecDepth 100000 in
theorem cs_fault (C : lwC p s m meth c b L xs dC dI cA) (hl : lv_has ls 4 [(0, .ref b), (1, .ref (q 0)), (2, .ref h), (3, .int (nI i))]) (hi : i + 6 ≤ L) (hL : L ≤ 3072) (hN : N + 8100 < 2147483648) (hf : cells + 17 ≤ 600000 ∧ slots + 1303 ≤ 7302250) (I : INV N σN σP κ M τ) (hP : va_P (dC, dI) vwCl (lwW cA q h ad σN σW σP κ M τ) H) (hD : va_D (fun q : Nat => s.heap.size ≤ q) (lwW cA q h ad σN σW σP κ M τ)) (hS : va_S (fun q : Nat => s.heap.size ≤ q) s.heap H locs) (kk : lwK p l e s m below meth c b dC dI cA q h ad cells slots (N + 8100) Q ls) : W p l e room_1 s m #[Value.ref b] below meth c H locs cells slots Q (F0 m 942 ls []) := by
  obtain ⟨⟨hx, hb, hr, hml, hown, hts0, hX, hbl, hlocks, hgv⟩, hK, hO, hN0, hV⟩ := C
  have hts : ∀ w ∈ wsL_law, w.before #[Value.ref b] s = true := fun w hw => hts0 w (wsL_law_in w hw)
  have hC : CallFix p m c code 4 s #[Value.ref b] wsL_law RL := ⟨hx, hb, hml, hown, hts⟩
  have hA : ∀ z : Nat, s.heap.size ≤ z → (fun q : Nat => s.heap.size ≤ q) z := fun _ h => h
  have hf0 : cells ≤ 600000 ∧ slots ≤ 7302250 := by omega
  obtain ⟨v, σP2, τ2, e1, e2, I2⟩ := I.fault σW
  refine lv_aload_n hx hb dL_law_942 rfl (lv_at hl 1 rfl) ?_
  refine x_PI (As := []) (rest := []) (wr := wM cA h ad τ) (w' := wM cA h ad τ ++ wXK cA q σN σW σP2 κ M) hC (kX3_fault l dC dI cA q (wRs cA q M ++ wkL cA M (List.range 9)) σN σW σP κ v σP2 e1) (cwV 0 hts gL_law_X3_fault rfl rfl rfl (by decide +kernel) ⟨(Nat.le_of_ble_eq_true rfl), (Nat.le_of_ble_eq_true rfl)⟩) 11 3 hV hN0 hK hP hD hS hA List.perm_append_comm List.perm_append_comm rfl rfl rfl rfl hl.1 rfl (Nat.le_of_ble_eq_true rfl) hf0 dL_law_943 (fun H locs hP hD hS => ?_)
  refine lv_aload_n hx hb dL_law_946 rfl (lv_at hl 2 rfl) ?_
  refine x_PI (As := []) (rest := [.int v]) (wr := wXK cA q σN σW σP2 κ M) (w' := wM cA h ad τ2 ++ wXK cA q σN σW σP2 κ M) hC (kX4_fault l dC dI cA h ad τ v τ2 e2) (cwV 0 hts gL_law_X4_fault rfl rfl rfl (by decide +kernel) ⟨(Nat.le_of_ble_eq_true rfl), (Nat.le_of_ble_eq_true rfl)⟩) 0 4 hV hN0 hK hP hD hS hA (List.Perm.refl _) (List.Perm.refl _) rfl rfl rfl rfl hl.1 rfl (Nat.le_of_ble_eq_true rfl) hf0 dL_law_947 (fun H locs hP hD hS => ?_)
  refine lv_icmp_eq (tgt := 1027) hx hb dL_law_950 (by decide) (fun _ => ?_) (fun hc => absurd rfl hc)
  refine W.widen (k := cells + 17) (n := slots + 1303) (by omega) (by omega) ?_
  exact kk _ _ _ _ _ _ _ _ (I2.mono (by omega)) hP hD hS
set_option maxHeartbeats 4000000 in
set_option maxRecDepth 100000 in
theorem cs_carryOut (C : lwC p s m meth c b L xs dC dI cA) (hl : lv_has ls 4 [(0, .ref b), (1, .ref (q 0)), (2, .ref h), (3, .int (nI i))]) (hi : i + 6 ≤ L) (hL : L ≤ 3072) (hN : N + 8100 < 2147483648) (hf : cells + 17 ≤ 600000 ∧ slots + 1303 ≤ 7302250) (I : INV N σN σP κ M τ) (hP : va_P (dC, dI) vwCl (lwW cA q h ad σN σW σP κ M τ) H) (hD : va_D (fun q : Nat => s.heap.size ≤ q) (lwW cA q h ad σN σW σP κ M τ)) (hS : va_S (fun q : Nat => s.heap.size ≤ q) s.heap H locs) (kk : lwK p l e s m below meth c b dC dI cA q h ad cells slots (N + 8100) Q ls) : W p l e room_1 s m #[Value.ref b] below meth c H locs cells slots Q (F0 m 955 ls []) := by
  obtain ⟨⟨hx, hb, hr, hml, hown, hts0, hX, hbl, hlocks, hgv⟩, hK, hO, hN0, hV⟩ := C
  have hts : ∀ w ∈ wsL_law, w.before #[Value.ref b] s = true := fun w hw => hts0 w (wsL_law_in w hw)
  have hC : CallFix p m c code 4 s #[Value.ref b] wsL_law RL := ⟨hx, hb, hml, hown, hts⟩
  have hA : ∀ z : Nat, s.heap.size ≤ z → (fun q : Nat => s.heap.size ≤ q) z := fun _ h => h
  have hf0 : cells ≤ 600000 ∧ slots ≤ 7302250 := by omega
  obtain ⟨r0, σP2, e0, ⟨hr6, τ2, e2, I2⟩ | ⟨hr6, A, sp, d, x2e, x3e, σN2, σP3, σP4, κ2, n0, τ2, hAN, hw, hsp, hκ, eE, eZ, eS, e2, kI⟩⟩ := I.carry hN σW
  · have hP := hP
    refine lv_aload_n hx hb dL_law_955 rfl (lv_at hl 1 rfl) ?_
    refine x_PI (As := []) (rest := []) (wr := wM cA h ad τ) (w' := wM cA h ad τ ++ wXK cA q σN σW σP2 κ M) hC (kX3_carryOut_no l dC dI cA q σN σW σP κ M e0 hr6) (cwV 0 hts gL_law_X3_carryOut rfl rfl rfl (by decide +kernel) ⟨(Nat.le_of_ble_eq_true rfl), (Nat.le_of_ble_eq_true rfl)⟩) 11 3 hV hN0 hK hP hD hS hA List.perm_append_comm List.perm_append_comm rfl rfl rfl rfl hl.1 rfl (Nat.le_of_ble_eq_true rfl) hf0 dL_law_956 (fun H locs hP hD hS => ?_)
    refine lv_aload_n hx hb dL_law_959 rfl (lv_at hl 2 rfl) ?_
    refine x_PI (As := []) (rest := [.int (-3)]) (wr := wXK cA q σN σW σP2 κ M) (w' := wM cA h ad τ2 ++ wXK cA q σN σW σP2 κ M) hC (kX4_carryOut l dC dI cA h ad τ (-3) τ2 e2) (cwV 0 hts gL_law_X4_carryOut rfl rfl rfl (by decide +kernel) ⟨(Nat.le_of_ble_eq_true rfl), (Nat.le_of_ble_eq_true rfl)⟩) 0 4 hV hN0 hK hP hD hS hA (List.Perm.refl _) (List.Perm.refl _) rfl rfl rfl rfl hl.1 rfl (Nat.le_of_ble_eq_true rfl) hf0 dL_law_960 (fun H locs hP hD hS => ?_)
    refine lv_icmp_eq (tgt := 1027) hx hb dL_law_963 (by decide) (fun _ => ?_) (fun hc => absurd rfl hc)
    refine W.widen (k := cells + 17) (n := slots + 1303) (by omega) (by omega) ?_
    exact kk _ _ _ _ _ _ _ _ (I2.mono (by omega)) hP hD hS
  · have hP := hP
    refine lv_aload_n hx hb dL_law_955 rfl (lv_at hl 1 rfl) ?_
    refine x_AI (As := []) (rest := []) (wr := wM cA h ad τ) hC (kX3_carryOut l dC dI cA q σN σW σP κ M hAN hw hsp hκ e0 hr6 eE eZ eS) (cwV 0 hts gL_law_X3_carryOut rfl rfl rfl (by decide +kernel) ⟨(Nat.le_of_ble_eq_true rfl), (Nat.le_of_ble_eq_true rfl)⟩) 11 3 hO hV hN0 hK hP hD hS hA List.perm_append_comm rfl rfl rfl rfl hl.1 rfl (Nat.le_of_ble_eq_true rfl) hf dL_law_956 (fun r u H locs hu hP hD hS => ?_)
    obtain ⟨er, h1, ad1, σ1, hR1, rfl⟩ := hu
    rw [er]
    have hP := va_perm List.perm_append_comm hP
    have hD := va_Dperm List.perm_append_comm hD
    refine lv_aload_n hx hb dL_law_959 rfl (lv_at hl 2 rfl) ?_
    refine x_PI (As := []) (rest := [.int d]) (wr := wXK cA q σN2 σW σP4 κ2 (upM M sp (h1, ad1, σ1))) (w' := wM cA h ad τ2 ++ wXK cA q σN2 σW σP4 κ2 (upM M sp (h1, ad1, σ1))) hC (kX4_carryOut l dC dI cA h ad τ d τ2 e2) (cwV 0 hts gL_law_X4_carryOut rfl rfl rfl (by decide +kernel) ⟨(Nat.le_of_ble_eq_true rfl), (Nat.le_of_ble_eq_true rfl)⟩) 0 4 hV hN0 hK hP hD hS hA (List.Perm.refl _) (List.Perm.refl _) rfl rfl rfl rfl hl.1 rfl (Nat.le_of_ble_eq_true rfl) hf dL_law_960 (fun H locs hP hD hS => ?_)
    refine lv_icmp_eq (tgt := 1027) hx hb dL_law_963 (by decide) (fun _ => ?_) (fun hc => absurd rfl hc)
    exact kk _ _ _ _ _ _ _ _ (kI h1 ad1 σ1 hR1) hP hD hS
end LB
