/-! The law's roads: undo, save, restore -/
section LB
variable {p : Program} {l : Launch} {e : Env} {s : State} {m : MethodId} {below : List Frame} {meth : Method} {c : Code} {b L : Nat} {xs : Nat → Int32} {dC : Nat → ClassId} {dI : Nat → Nat → Nat} {cA : Nat → ClassId} {q : Nat → Nat} {h : Nat} {ad : Nat → Nat} {H : Heap} {locs : List Loc} {cells slots N i : Nat} {Q : State → Prop} {ls : Array Slot} {σN σW σP κ τ : St} {M : Mk}
set_option maxHeartbeats 4000000 in
set_option maxRecDepth 100000 in
theorem cs_undo (C : lwC p s m meth c b L xs dC dI cA) (hl : lv_has ls 4 [(0, .ref b), (1, .ref (q 0)), (2, .ref h), (3, .int (nI i))]) (hi : i + 6 ≤ L) (hL : L ≤ 3072) (hN : N + 8100 < 2147483648) (hf : cells + 17 ≤ 600000 ∧ slots + 1303 ≤ 7302250) (I : INV N σN σP κ M τ) (hP : va_P (dC, dI) vwCl (lwW cA q h ad σN σW σP κ M τ) H) (hD : va_D (fun q : Nat => s.heap.size ≤ q) (lwW cA q h ad σN σW σP κ M τ)) (hS : va_S (fun q : Nat => s.heap.size ≤ q) s.heap H locs) (kk : lwK p l e s m below meth c b dC dI cA q h ad cells slots (N + 8100) Q ls) : W p l e room_1 s m #[Value.ref b] below meth c H locs cells slots Q (F0 m 968 ls []) := by
  obtain ⟨⟨hx, hb, hr, hml, hown, hts0, hX, hbl, hlocks, hgv⟩, hK, hO, hN0, hV⟩ := C
  have hts : ∀ w ∈ wsL_law, w.before #[Value.ref b] s = true := fun w hw => hts0 w (wsL_law_in w hw)
  have hC : CallFix p m c code 4 s #[Value.ref b] wsL_law RL := ⟨hx, hb, hml, hown, hts⟩
  have hA : ∀ z : Nat, s.heap.size ≤ z → (fun q : Nat => s.heap.size ≤ q) z := fun _ h => h
  have hf0 : cells ≤ 600000 ∧ slots ≤ 7302250 := by omega
  rcases I.undo with ⟨hk, e2⟩ | ⟨hk, sp, h1, ad1, τs, s3, τ2, hsp, hκ, hM, e3, e2, I2⟩
  · have hP := hP
    refine lv_aload_n hx hb dL_law_968 rfl (lv_at hl 1 rfl) ?_
    refine x_PI (As := []) (rest := []) (wr := wM cA h ad τ) (w' := wM cA h ad τ ++ wXK cA q σN σW σP κ M) hC (kX3_undo_no l dC dI cA q σN σW σP κ M hk) (cwV 0 hts gL_law_X3_undo rfl rfl rfl (by decide +kernel) ⟨(Nat.le_of_ble_eq_true rfl), (Nat.le_of_ble_eq_true rfl)⟩) 11 3 hV hN0 hK hP hD hS hA List.perm_append_comm List.perm_append_comm rfl rfl rfl rfl hl.1 rfl (Nat.le_of_ble_eq_true rfl) hf0 dL_law_969 (fun H locs hP hD hS => ?_)
    refine lv_aload_n hx hb dL_law_972 rfl (lv_at hl 2 rfl) ?_
    refine x_PI (As := []) (rest := [.int (-5)]) (wr := wXK cA q σN σW σP κ M) (w' := wM cA h ad τ ++ wXK cA q σN σW σP κ M) hC (kX4_undo l dC dI cA h ad τ (-5) τ e2) (cwV 0 hts gL_law_X4_undo rfl rfl rfl (by decide +kernel) ⟨(Nat.le_of_ble_eq_true rfl), (Nat.le_of_ble_eq_true rfl)⟩) 0 4 hV hN0 hK hP hD hS hA (List.Perm.refl _) (List.Perm.refl _) rfl rfl rfl rfl hl.1 rfl (Nat.le_of_ble_eq_true rfl) hf0 dL_law_973 (fun H locs hP hD hS => ?_)
    refine lv_icmp_eq (tgt := 1027) hx hb dL_law_976 (by decide) (fun _ => ?_) (fun hc => absurd rfl hc)
    refine W.widen (k := cells + 17) (n := slots + 1303) (by omega) (by omega) ?_
    exact kk _ _ _ _ _ _ _ _ (I.mono (by omega)) hP hD hS
  · have hP := hP
    refine lv_aload_n hx hb dL_law_968 rfl (lv_at hl 1 rfl) ?_
    refine x_PI (As := []) (rest := []) (wr := wM cA h ad τ) (w' := wM cA h ad τ ++ wXK cA q s3 σW σP (put (put κ 1 (fun _ => nI ((sp + 6) % 7))) 2 (fun _ => κ 2 0 - 1)) M) hC (kX3_undo l dC dI cA q σN σW σP κ M hsp hκ hk hM s3 e3) (cwV 0 hts gL_law_X3_undo rfl rfl rfl (by decide +kernel) ⟨(Nat.le_of_ble_eq_true rfl), (Nat.le_of_ble_eq_true rfl)⟩) 11 3 hV hN0 hK hP hD hS hA List.perm_append_comm List.perm_append_comm rfl rfl rfl rfl hl.1 rfl (Nat.le_of_ble_eq_true rfl) hf0 dL_law_969 (fun H locs hP hD hS => ?_)
    refine lv_aload_n hx hb dL_law_972 rfl (lv_at hl 2 rfl) ?_
    refine x_PI (As := []) (rest := [.int (κ 2 0 - 1)]) (wr := wXK cA q s3 σW σP (put (put κ 1 (fun _ => nI ((sp + 6) % 7))) 2 (fun _ => κ 2 0 - 1)) M) (w' := wM cA h ad τ2 ++ wXK cA q s3 σW σP (put (put κ 1 (fun _ => nI ((sp + 6) % 7))) 2 (fun _ => κ 2 0 - 1)) M) hC (kX4_undo l dC dI cA h ad τ (κ 2 0 - 1) τ2 e2) (cwV 0 hts gL_law_X4_undo rfl rfl rfl (by decide +kernel) ⟨(Nat.le_of_ble_eq_true rfl), (Nat.le_of_ble_eq_true rfl)⟩) 0 4 hV hN0 hK hP hD hS hA (List.Perm.refl _) (List.Perm.refl _) rfl rfl rfl rfl hl.1 rfl (Nat.le_of_ble_eq_true rfl) hf0 dL_law_973 (fun H locs hP hD hS => ?_)
    refine lv_icmp_eq (tgt := 1027) hx hb dL_law_976 (by decide) (fun _ => ?_) (fun hc => absurd rfl hc)
    refine W.widen (k := cells + 17) (n := slots + 1303) (by omega) (by omega) ?_
    exact kk _ _ _ _ _ _ _ _ (I2.mono (by omega)) hP hD hS
set_option maxHeartbeats 4000000 in
set_option maxRecDepth 100000 in
theorem cs_save (C : lwC p s m meth c b L xs dC dI cA) (hl : lv_has ls 4 [(0, .ref b), (1, .ref (q 0)), (2, .ref h), (3, .int (nI i))]) (hi : i + 6 ≤ L) (hL : L ≤ 3072) (hN : N + 8100 < 2147483648) (hf : cells + 17 ≤ 600000 ∧ slots + 1303 ≤ 7302250) (I : INV N σN σP κ M τ) (hP : va_P (dC, dI) vwCl (lwW cA q h ad σN σW σP κ M τ) H) (hD : va_D (fun q : Nat => s.heap.size ≤ q) (lwW cA q h ad σN σW σP κ M τ)) (hS : va_S (fun q : Nat => s.heap.size ≤ q) s.heap H locs) (kk : lwK p l e s m below meth c b dC dI cA q h ad cells slots (N + 8100) Q ls) : W p l e room_1 s m #[Value.ref b] below meth c H locs cells slots Q (F0 m 981 ls []) := by
  obtain ⟨⟨hx, hb, hr, hml, hown, hts0, hX, hbl, hlocks, hgv⟩, hK, hO, hN0, hV⟩ := C
  have hts : ∀ w ∈ wsL_law, w.before #[Value.ref b] s = true := fun w hw => hts0 w (wsL_law_in w hw)
  have hC : CallFix p m c code 4 s #[Value.ref b] wsL_law RL := ⟨hx, hb, hml, hown, hts⟩
  have hA : ∀ z : Nat, s.heap.size ≤ z → (fun q : Nat => s.heap.size ≤ q) z := fun _ h => h
  have hf0 : cells ≤ 600000 ∧ slots ≤ 7302250 := by omega
  rcases slot_c (xs (i + 1)) τ with ⟨j, hj, ej⟩ | ⟨hbad, e8, e9⟩
  · obtain ⟨A, τ2, hAN, hw, e2, kI⟩ := I.save hj
    refine lv_aload_n hx hb dL_law_981 rfl (lv_at hl 1 rfl) ?_
    refine lw_arg (k := 1) hx hb hX hbl hS (lv_at hl 0 rfl) (lv_at hl 3 rfl) dL_law_982 dL_law_983 dL_law_984 (by decide) dL_law_985 dL_law_986 (by omega) (by omega) ?_
    rw [ej]
    refine x_AI (As := [.int (nI j)]) (rest := []) (wr := wM cA h ad τ) hC (kX3_save l dC dI cA q σN σW σP κ M hj hAN hw) (cwV 1 hts gL_law_X3_save rfl rfl rfl (by decide +kernel) ⟨(Nat.le_of_ble_eq_true rfl), (Nat.le_of_ble_eq_true rfl)⟩) 11 3 hO hV hN0 hK hP hD hS hA List.perm_append_comm rfl rfl rfl rfl hl.1 rfl (Nat.le_of_ble_eq_true rfl) hf dL_law_987 (fun r u H locs hu hP hD hS => ?_)
    obtain ⟨er, h1, ad1, σ1, hR1, rfl⟩ := hu
    rw [er]
    have hP := va_perm List.perm_append_comm hP
    have hD := va_Dperm List.perm_append_comm hD
    refine lv_aload_n hx hb dL_law_990 rfl (lv_at hl 2 rfl) ?_
    refine lw_arg (k := 1) hx hb hX hbl hS (lv_at hl 0 rfl) (lv_at hl 3 rfl) dL_law_991 dL_law_992 dL_law_993 (by decide) dL_law_994 dL_law_995 (by omega) (by omega) ?_
    rw [ej]
    refine x_PI (As := [.int (nI j)]) (rest := [.int (σN 1 0)]) (wr := wXK cA q σN σW σP κ (upM M (7 + j) (h1, ad1, σ1))) (w' := wM cA h ad τ2 ++ wXK cA q σN σW σP κ (upM M (7 + j) (h1, ad1, σ1))) hC (kX4_save l dC dI cA h ad (nI j) τ (σN 1 0) τ2 e2) (cwV 1 hts gL_law_X4_save rfl rfl rfl (by decide +kernel) ⟨(Nat.le_of_ble_eq_true rfl), (Nat.le_of_ble_eq_true rfl)⟩) 0 4 hV hN0 hK hP hD hS hA (List.Perm.refl _) (List.Perm.refl _) rfl rfl rfl rfl hl.1 rfl (Nat.le_of_ble_eq_true rfl) hf dL_law_996 (fun H locs hP hD hS => ?_)
    refine lv_icmp_eq (tgt := 1027) hx hb dL_law_999 (by decide) (fun _ => ?_) (fun hc => absurd rfl hc)
    exact kk _ _ _ _ _ _ _ _ ((kI h1 ad1 σ1 hR1).mono (by omega)) hP hD hS
  · have hP := hP
    refine lv_aload_n hx hb dL_law_981 rfl (lv_at hl 1 rfl) ?_
    refine lw_arg (k := 1) hx hb hX hbl hS (lv_at hl 0 rfl) (lv_at hl 3 rfl) dL_law_982 dL_law_983 dL_law_984 (by decide) dL_law_985 dL_law_986 (by omega) (by omega) ?_
    refine x_PI (As := [.int (xs (i + 1))]) (rest := []) (wr := wM cA h ad τ) (w' := wM cA h ad τ ++ wXK cA q σN σW σP κ M) hC (kX3_save_bad l dC dI cA q _ σN σW σP κ M hbad) (cwV 1 hts gL_law_X3_save rfl rfl rfl (by decide +kernel) ⟨(Nat.le_of_ble_eq_true rfl), (Nat.le_of_ble_eq_true rfl)⟩) 11 3 hV hN0 hK hP hD hS hA List.perm_append_comm List.perm_append_comm rfl rfl rfl rfl hl.1 rfl (Nat.le_of_ble_eq_true rfl) hf0 dL_law_987 (fun H locs hP hD hS => ?_)
    refine lv_aload_n hx hb dL_law_990 rfl (lv_at hl 2 rfl) ?_
    refine lw_arg (k := 1) hx hb hX hbl hS (lv_at hl 0 rfl) (lv_at hl 3 rfl) dL_law_991 dL_law_992 dL_law_993 (by decide) dL_law_994 dL_law_995 (by omega) (by omega) ?_
    refine x_PI (As := [.int (xs (i + 1))]) (rest := [.int (-2)]) (wr := wXK cA q σN σW σP κ M) (w' := wM cA h ad τ ++ wXK cA q σN σW σP κ M) hC (kX4_save l dC dI cA h ad _ τ (-2) τ e8) (cwV 1 hts gL_law_X4_save rfl rfl rfl (by decide +kernel) ⟨(Nat.le_of_ble_eq_true rfl), (Nat.le_of_ble_eq_true rfl)⟩) 0 4 hV hN0 hK hP hD hS hA (List.Perm.refl _) (List.Perm.refl _) rfl rfl rfl rfl hl.1 rfl (Nat.le_of_ble_eq_true rfl) hf0 dL_law_996 (fun H locs hP hD hS => ?_)
    refine lv_icmp_eq (tgt := 1027) hx hb dL_law_999 (by decide) (fun _ => ?_) (fun hc => absurd rfl hc)
    refine W.widen (k := cells + 17) (n := slots + 1303) (by omega) (by omega) ?_
    exact kk _ _ _ _ _ _ _ _ (I.mono (by omega)) hP hD hS
set_option maxHeartbeats 4000000 in
set_option maxRecDepth 100000 in
theorem cs_restore (C : lwC p s m meth c b L xs dC dI cA) (hl : lv_has ls 4 [(0, .ref b), (1, .ref (q 0)), (2, .ref h), (3, .int (nI i))]) (hi : i + 6 ≤ L) (hL : L ≤ 3072) (hN : N + 8100 < 2147483648) (hf : cells + 17 ≤ 600000 ∧ slots + 1303 ≤ 7302250) (I : INV N σN σP κ M τ) (hP : va_P (dC, dI) vwCl (lwW cA q h ad σN σW σP κ M τ) H) (hD : va_D (fun q : Nat => s.heap.size ≤ q) (lwW cA q h ad σN σW σP κ M τ)) (hS : va_S (fun q : Nat => s.heap.size ≤ q) s.heap H locs) (kk : lwK p l e s m below meth c b dC dI cA q h ad cells slots (N + 8100) Q ls) : W p l e room_1 s m #[Value.ref b] below meth c H locs cells slots Q (F0 m 1004 ls []) := by
  obtain ⟨⟨hx, hb, hr, hml, hown, hts0, hX, hbl, hlocks, hgv⟩, hK, hO, hN0, hV⟩ := C
  have hts : ∀ w ∈ wsL_law, w.before #[Value.ref b] s = true := fun w hw => hts0 w (wsL_law_in w hw)
  have hC : CallFix p m c code 4 s #[Value.ref b] wsL_law RL := ⟨hx, hb, hml, hown, hts⟩
  have hA : ∀ z : Nat, s.heap.size ≤ z → (fun q : Nat => s.heap.size ≤ q) z := fun _ h => h
  have hf0 : cells ≤ 600000 ∧ slots ≤ 7302250 := by omega
  rcases slot_c (xs (i + 1)) τ with ⟨j, hj, ej⟩ | ⟨hbad, e8, e9⟩
  · rcases I.restore hj (by omega) with ⟨hM, e2⟩ | ⟨A, sp, hs, as, τs, s3, κ2, τ2, hAN, hw, hsp, hκ, hM, e3, e4, e2, kI⟩
    · have hP := hP
      refine lv_aload_n hx hb dL_law_1004 rfl (lv_at hl 1 rfl) ?_
      refine lw_arg (k := 1) hx hb hX hbl hS (lv_at hl 0 rfl) (lv_at hl 3 rfl) dL_law_1005 dL_law_1006 dL_law_1007 (by decide) dL_law_1008 dL_law_1009 (by omega) (by omega) ?_
      rw [ej]
      refine x_PI (As := [.int (nI j)]) (rest := []) (wr := wM cA h ad τ) (w' := wM cA h ad τ ++ wXK cA q σN σW σP κ M) hC (kX3_restore_no l dC dI cA q σN σW σP κ M hj hM) (cwV 1 hts gL_law_X3_restore rfl rfl rfl (by decide +kernel) ⟨(Nat.le_of_ble_eq_true rfl), (Nat.le_of_ble_eq_true rfl)⟩) 11 3 hV hN0 hK hP hD hS hA List.perm_append_comm List.perm_append_comm rfl rfl rfl rfl hl.1 rfl (Nat.le_of_ble_eq_true rfl) hf0 dL_law_1010 (fun H locs hP hD hS => ?_)
      refine lv_aload_n hx hb dL_law_1013 rfl (lv_at hl 2 rfl) ?_
      refine lw_arg (k := 1) hx hb hX hbl hS (lv_at hl 0 rfl) (lv_at hl 3 rfl) dL_law_1014 dL_law_1015 dL_law_1016 (by decide) dL_law_1017 dL_law_1018 (by omega) (by omega) ?_
      rw [ej]
      refine x_PI (As := [.int (nI j)]) (rest := [.int (-5)]) (wr := wXK cA q σN σW σP κ M) (w' := wM cA h ad τ ++ wXK cA q σN σW σP κ M) hC (kX4_restore l dC dI cA h ad (nI j) τ (-5) τ e2) (cwV 1 hts gL_law_X4_restore rfl rfl rfl (by decide +kernel) ⟨(Nat.le_of_ble_eq_true rfl), (Nat.le_of_ble_eq_true rfl)⟩) 0 4 hV hN0 hK hP hD hS hA (List.Perm.refl _) (List.Perm.refl _) rfl rfl rfl rfl hl.1 rfl (Nat.le_of_ble_eq_true rfl) hf0 dL_law_1019 (fun H locs hP hD hS => ?_)
      refine lv_icmp_eq (tgt := 1027) hx hb dL_law_1022 (by decide) (fun _ => ?_) (fun hc => absurd rfl hc)
      refine W.widen (k := cells + 17) (n := slots + 1303) (by omega) (by omega) ?_
      exact kk _ _ _ _ _ _ _ _ (I.mono (by omega)) hP hD hS
    · have hP := hP
      refine lv_aload_n hx hb dL_law_1004 rfl (lv_at hl 1 rfl) ?_
      refine lw_arg (k := 1) hx hb hX hbl hS (lv_at hl 0 rfl) (lv_at hl 3 rfl) dL_law_1005 dL_law_1006 dL_law_1007 (by decide) dL_law_1008 dL_law_1009 (by omega) (by omega) ?_
      rw [ej]
      refine x_AI (As := [.int (nI j)]) (rest := []) (wr := wM cA h ad τ) hC (kX3_restore l dC dI cA q σN σW σP κ M hj hAN hw hsp hκ hM e3 e4) (cwV 1 hts gL_law_X3_restore rfl rfl rfl (by decide +kernel) ⟨(Nat.le_of_ble_eq_true rfl), (Nat.le_of_ble_eq_true rfl)⟩) 11 3 hO hV hN0 hK hP hD hS hA List.perm_append_comm rfl rfl rfl rfl hl.1 rfl (Nat.le_of_ble_eq_true rfl) hf dL_law_1010 (fun r u H locs hu hP hD hS => ?_)
      obtain ⟨er, h1, ad1, σ1, hR1, rfl⟩ := hu
      rw [er]
      have hP := va_perm List.perm_append_comm hP
      have hD := va_Dperm List.perm_append_comm hD
      refine lv_aload_n hx hb dL_law_1013 rfl (lv_at hl 2 rfl) ?_
      refine lw_arg (k := 1) hx hb hX hbl hS (lv_at hl 0 rfl) (lv_at hl 3 rfl) dL_law_1014 dL_law_1015 dL_law_1016 (by decide) dL_law_1017 dL_law_1018 (by omega) (by omega) ?_
      rw [ej]
      refine x_PI (As := [.int (nI j)]) (rest := [.int (s3 1 0)]) (wr := wXK cA q s3 σW σP κ2 (upM M sp (h1, ad1, σ1))) (w' := wM cA h ad τ2 ++ wXK cA q s3 σW σP κ2 (upM M sp (h1, ad1, σ1))) hC (kX4_restore l dC dI cA h ad (nI j) τ (s3 1 0) τ2 e2) (cwV 1 hts gL_law_X4_restore rfl rfl rfl (by decide +kernel) ⟨(Nat.le_of_ble_eq_true rfl), (Nat.le_of_ble_eq_true rfl)⟩) 0 4 hV hN0 hK hP hD hS hA (List.Perm.refl _) (List.Perm.refl _) rfl rfl rfl rfl hl.1 rfl (Nat.le_of_ble_eq_true rfl) hf dL_law_1019 (fun H locs hP hD hS => ?_)
      refine lv_icmp_eq (tgt := 1027) hx hb dL_law_1022 (by decide) (fun _ => ?_) (fun hc => absurd rfl hc)
      exact kk _ _ _ _ _ _ _ _ ((kI h1 ad1 σ1 hR1).mono (by omega)) hP hD hS
  · have hP := hP
    refine lv_aload_n hx hb dL_law_1004 rfl (lv_at hl 1 rfl) ?_
    refine lw_arg (k := 1) hx hb hX hbl hS (lv_at hl 0 rfl) (lv_at hl 3 rfl) dL_law_1005 dL_law_1006 dL_law_1007 (by decide) dL_law_1008 dL_law_1009 (by omega) (by omega) ?_
    refine x_PI (As := [.int (xs (i + 1))]) (rest := []) (wr := wM cA h ad τ) (w' := wM cA h ad τ ++ wXK cA q σN σW σP κ M) hC (kX3_restore_bad l dC dI cA q _ σN σW σP κ M hbad) (cwV 1 hts gL_law_X3_restore rfl rfl rfl (by decide +kernel) ⟨(Nat.le_of_ble_eq_true rfl), (Nat.le_of_ble_eq_true rfl)⟩) 11 3 hV hN0 hK hP hD hS hA List.perm_append_comm List.perm_append_comm rfl rfl rfl rfl hl.1 rfl (Nat.le_of_ble_eq_true rfl) hf0 dL_law_1010 (fun H locs hP hD hS => ?_)
    refine lv_aload_n hx hb dL_law_1013 rfl (lv_at hl 2 rfl) ?_
    refine lw_arg (k := 1) hx hb hX hbl hS (lv_at hl 0 rfl) (lv_at hl 3 rfl) dL_law_1014 dL_law_1015 dL_law_1016 (by decide) dL_law_1017 dL_law_1018 (by omega) (by omega) ?_
    refine x_PI (As := [.int (xs (i + 1))]) (rest := [.int (-2)]) (wr := wXK cA q σN σW σP κ M) (w' := wM cA h ad τ ++ wXK cA q σN σW σP κ M) hC (kX4_restore l dC dI cA h ad _ τ (-2) τ e9) (cwV 1 hts gL_law_X4_restore rfl rfl rfl (by decide +kernel) ⟨(Nat.le_of_ble_eq_true rfl), (Nat.le_of_ble_eq_true rfl)⟩) 0 4 hV hN0 hK hP hD hS hA (List.Perm.refl _) (List.Perm.refl _) rfl rfl rfl rfl hl.1 rfl (Nat.le_of_ble_eq_true rfl) hf0 dL_law_1019 (fun H locs hP hD hS => ?_)
    refine lv_icmp_eq (tgt := 1027) hx hb dL_law_1022 (by decide) (fun _ => ?_) (fun hc => absurd rfl hc)
    refine W.widen (k := cells + 17) (n := slots + 1303) (by omega) (by omega) ?_
    exact kk _ _ _ _ _ _ _ _ (I.mono (by omega)) hP hD hS
end LB
