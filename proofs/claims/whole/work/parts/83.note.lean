/-! The history: noting a state, going back -/
abbrev rmX0_note : Room := { frames := 2, cells := 17, slots := 1303, locals := 62 }
set_option maxHeartbeats 4000000 in
set_option maxRecDepth 100000 in
theorem kX0_note (l : Launch) (dC : Nat → ClassId) (dI : Nat → Nat → Nat) (cA : Nat → ClassId) (q : Nat → Nat) (σN σW σP κ : St) (M : Mk) {A : AS} {sp : Nat} (hAN : RepL σN A) (hw : WF A) (hsp : sp < 7) (hκ : κ 1 0 = nI sp) : CGVa l yX0_note wsX0_note rmX0_note 17 1303 (dC, dI) vwCl (tysW cA) [.ref (q 3), .ref (q 1)] (wXK cA q σN σW σP κ M) (fun u => ∃ h ad σ', RepL σ' A ∧ u = wXK cA q σN σW σP κ (upM M sp (h, ad, σ'))) := by
  refine CGVa_of (cc := cX0_note) (nL := 3) (ret := none) (by decide) rfl (Nat.le_of_ble_eq_true rfl) ?_
  intro p e s m av below meth c A0 ls H locs _ hO hC hl
  obtain ⟨hC, hr, hlocks, hV, hN, hK, hP, hD, hS, hA⟩ := hC
  have hC : CallFix p m c cX0_note 3 s _ wsX0_note RX0 := hC
  obtain ⟨hx, hb, hml, hown, hts⟩ := id hC
  have hl : lv_has ls 3 [(0, .ref (q 3)), (1, .ref (q 1))] := hl
  have tail : ∀ (M1 : Mk) (h : Nat) (ad : Nat → Nat) (τ : St) (H : Heap) (locs : List Loc) (ls : Array Slot), M1 sp = some (h, ad, τ) → (∀ y, upM M1 sp y = upM M sp y) → va_P (dC, dI) vwCl (wXK cA q σN σW σP κ M1) H → va_D A0 (wXK cA q σN σW σP κ M1) → va_S A0 s.heap H locs → lv_has ls 3 [(2, .ref h), (0, .ref (q 3)), (1, .ref (q 1))] → W p l e (headSpec wsX0_note rmX0_note).room s m av below meth c H locs 17 1303 (MQ below (va_Qv (fun u => ∃ h ad σ', RepL σ' A ∧ u = wXK cA q σN σW σP κ (upM M sp (h, ad, σ'))) (cWd (dC, dI) vwCl A0) A0) av s 17 1303 A0) (F0 m 32 ls []) := by
    intro M1 h ad τ H locs ls hM1 hup hP hD hS hl
    obtain ⟨s3, e3, r3⟩ := becL (σ := τ) hAN hw
    have hP := va_perm (pm_K (cA := cA) (q := q) (σN := σN) (σW := σW) (σP := σP) (κ := κ) (show sp < 9 by omega) hM1) hP
    have hD := va_Dperm (pm_K (cA := cA) (q := q) (σN := σN) (σW := σW) (σP := σP) (κ := κ) (show sp < 9 by omega) hM1) hD
    refine lv_aload_n hx hb dX0_note_32 rfl (lv_at hl 0 rfl) ?_
    refine lv_aload_n hx hb dX0_note_33 rfl (lv_at hl 2 rfl) ?_
    refine x_PV (As := [.ref (q 1)]) (rest := []) (wr := wXr_K cA q σW σP κ M1 sp) (w' := wXK cA q σN σW σP κ (upM M1 sp (h, ad, s3))) hC (kX1_become l dC dI cA h ad (q 1) (fun k => q (10 + k)) σN τ s3 e3) (cwV 1 hts gX0_note_X1_become rfl rfl rfl (by decide +kernel) ⟨(Nat.le_of_ble_eq_true rfl), (Nat.le_of_ble_eq_true rfl)⟩) 0 1 hV hN hK hP hD hS hA (List.Perm.refl _) (pm_K' (show sp < 9 by omega) hM1) rfl rfl rfl rfl hl.1 rfl (Nat.le_of_ble_eq_true rfl) ⟨(Nat.le_of_ble_eq_true rfl), (Nat.le_of_ble_eq_true rfl)⟩ dX0_note_34 (fun H locs hP hD hS => ?_)
    exact x_retV hC hr hlocks hP hD hS dX0_note_37 ⟨h, ad, s3, r3, by rw [hup]⟩
  have hin7 : vp_in (κ 1 0) 7 := by rw [hκ]; exact vp_in_nI hsp (by omega)
  have hcl7 : (κ 1 0).toNatClampNeg = sp := by rw [hκ]; exact nI_cl (by omega)
  refine lv_aload_n hx hb dX0_note_0 rfl (lv_at hl 0 rfl) ?_
  refine va_get (D := (dC, dI)) (ci := 0) (v := .ref (q 6)) (C := RX0) (T := TX0) (N := 3) hx hb hts (fun _ h => List.mem_cons_of_mem _ (List.mem_append_left _ (List.mem_append_right _ h))) hown hK hP 37 rfl rfl 0 (by decide) (hts (.fieldLink RX0 13 "MeanLocks$History" "states" "[LMeanLocks$Locks;") (List.mem_of_getElem? (i := 1) rfl)) (fun _ h9 => h9) rfl dX0_note_1 ?_
  refine lv_aload_n hx hb dX0_note_4 rfl (lv_at hl 0 rfl) ?_
  refine va_get (D := (dC, dI)) (ci := 0) (v := .int (κ 1 0)) (C := RX0) (T := TX0) (N := 3) hx hb hts (fun _ h => List.mem_cons_of_mem _ (List.mem_append_left _ (List.mem_append_right _ h))) hown hK hP 37 rfl rfl 1 (by decide) (hts (.fieldLink RX0 17 "MeanLocks$History" "spare" "I") (List.mem_of_getElem? (i := 2) rfl)) (fun _ h9 => h9) rfl dX0_note_5 ?_
  refine va_aldq (C := "MeanLocks$Locks") hx hb hK hP 38 3 rfl rfl hin7 dX0_note_8 ?_
  rw [show gS M (κ 1 0).toNatClampNeg = (M sp).map (fun x => x.1) by rw [hcl7]; exact if_pos hsp]
  rcases hM : M sp with _ | ⟨h, ad, τ⟩
  · refine lv_astore_nN (lv' := [(2, .null), (0, .ref (q 3)), (1, .ref (q 1))]) hx hb dX0_note_9 rfl hl (by decide) rfl (fun ls hl => ?_)
    refine lv_aload_nN hx hb dX0_note_10 rfl (lv_at hl 0 rfl) ?_
    refine lv_ifnonnullN hx hb dX0_note_11 ?_
    refine va_new (ci := 1) (fs := [.null, .int 0, .null, .null, .int 0, .null, .null, .null, .null, .null, .null, .null, .null, .int 0, .int 0, .null]) (C := RX1) (T := TX1) (N := 16) hx hb hts (fun _ h => List.mem_cons_of_mem _ (List.mem_append_right _ h)) tyX1 tyX1_ok hown (hts (.classLink RX0 11 RX1) (List.mem_of_getElem? (i := 3) rfl)) (hts (.instantiable RX1 16) (List.mem_of_getElem? (i := 4) rfl)) (hts (.initialized RX1) (List.mem_of_getElem? (i := 5) rfl)) hK hP hD hS hA rfl (fun j hj => by rcases (show j = 0 ∨ j = 1 ∨ j = 2 ∨ j = 3 ∨ j = 4 ∨ j = 5 ∨ j = 6 ∨ j = 7 ∨ j = 8 ∨ j = 9 ∨ j = 10 ∨ j = 11 ∨ j = 12 ∨ j = 13 ∨ j = 14 ∨ j = 15 by omega) with rfl | rfl | rfl | rfl | rfl | rfl | rfl | rfl | rfl | rfl | rfl | rfl | rfl | rfl | rfl | rfl <;> rfl) (Nat.le_of_ble_eq_true rfl) (Nat.le_of_ble_eq_true rfl) dX0_note_14 (fun h H hP hD hS => ?_)
    refine lv_dup hx hb dX0_note_17 rfl ?_
    refine x_NN (As := []) (rest := [.ref h]) (ws := [(h, .inr (1, [.null, .int 0, .null, .null, .int 0, .null, .null, .null, .null, .null, .null, .null, .null, .int 0, .int 0, .null]))]) (wr := wXK cA q σN σW σP κ M) hC (kX1_init l dC dI cA h) ⟨va_cnB 0 hts gX0_note_X1_init_n21 rfl rfl rfl (hN _ (List.mem_of_getElem? (i := 3) rfl)) (hts (.initialized RX1) (List.mem_of_getElem? (i := 5) rfl)) ⟨by decide +kernel, by decide +kernel, by decide +kernel⟩ ⟨(Nat.le_of_ble_eq_true rfl), (Nat.le_of_ble_eq_true rfl)⟩, rfl, (hts (.instanceMethod yX1_init) (List.mem_of_getElem? (i := 6) rfl))⟩ hO hV hN hK hP hD hS hA List.perm_append_comm rfl hl.1 rfl (Nat.le_of_ble_eq_true rfl) ⟨(Nat.le_of_ble_eq_true rfl), (Nat.le_of_ble_eq_true rfl)⟩ dX0_note_18 (fun u H locs hu hP hD hS => ?_)
    obtain ⟨ad, rfl⟩ := hu
    refine lv_astore_n (lv' := [(2, .ref h), (0, .ref (q 3)), (1, .ref (q 1))]) hx hb dX0_note_21 rfl hl (by decide) rfl (fun ls hl => ?_)
    refine lv_aload_n hx hb dX0_note_22 rfl (lv_at hl 1 rfl) ?_
    refine va_get (D := (dC, dI)) (ci := 0) (v := .ref (q 6)) (C := RX0) (T := TX0) (N := 3) hx hb hts (fun _ h => List.mem_cons_of_mem _ (List.mem_append_left _ (List.mem_append_right _ h))) hown hK hP 54 rfl rfl 0 (by decide) (hts (.fieldLink RX0 13 "MeanLocks$History" "states" "[LMeanLocks$Locks;") (List.mem_of_getElem? (i := 1) rfl)) (fun _ h9 => h9) rfl dX0_note_23 ?_
    refine lv_aload_n hx hb dX0_note_26 rfl (lv_at hl 1 rfl) ?_
    refine va_get (D := (dC, dI)) (ci := 0) (v := .int (κ 1 0)) (C := RX0) (T := TX0) (N := 3) hx hb hts (fun _ h => List.mem_cons_of_mem _ (List.mem_append_left _ (List.mem_append_right _ h))) hown hK hP 54 rfl rfl 1 (by decide) (hts (.fieldLink RX0 17 "MeanLocks$History" "spare" "I") (List.mem_of_getElem? (i := 2) rfl)) (fun _ h9 => h9) rfl dX0_note_27 ?_
    refine lv_aload_n hx hb dX0_note_30 rfl (lv_at hl 0 rfl) ?_
    refine va_astq (r := (RX1, TX1, 16)) hx hb hK hP hD hS 55 3 0 1 rfl rfl rfl rfl hin7 dX0_note_31 (fun H locs hP hD hS => ?_)
    rw [hcl7] at hP hD
    have e55 : wL cA h ad (fun _ _ => 0) ++ wX cA q σN σW σP κ (wRs cA q (upM M sp (h, ad, fun _ _ => 0)) ++ wkL cA M (List.range 9)) = (wL cA h ad (fun _ _ => 0) ++ wXK cA q σN σW σP κ M).set 55 (q 6, .inl (cA 3, 7, .inr (.inr (.inr (.inr (va_up (gS M) sp (some h))))))) := by rw [wRs_7 hsp]; rfl
    rw [← e55] at hP hD
    have hP := va_perm (pm_new (cA := cA) (q := q) (σN := σN) (σW := σW) (σP := σP) (κ := κ) (x := (h, ad, fun _ _ => 0)) (show sp < 9 by omega) hM) hP
    have hD := va_Dperm (pm_new (cA := cA) (q := q) (σN := σN) (σW := σW) (σP := σP) (κ := κ) (x := (h, ad, fun _ _ => 0)) (show sp < 9 by omega) hM) hD
    refine W.widen (k := 17) (n := 1303) (by omega) (by omega) ?_
    exact tail _ h ad _ _ _ _ (upM_s _ _ _) (fun y => upM_up _ _ _ _) hP hD hS hl
  · refine lv_astore_n (lv' := [(2, .ref h), (0, .ref (q 3)), (1, .ref (q 1))]) (x := h) hx hb dX0_note_9 rfl hl (by decide) rfl (fun ls hl => ?_)
    refine lv_aload_n hx hb dX0_note_10 rfl (lv_at hl 0 rfl) ?_
    refine lv_ifnonnull (tgt := 32) hx hb dX0_note_11 (by decide) ?_
    refine W.widen (k := 17) (n := 1303) (by omega) (by omega) ?_
    exact tail M h ad τ _ _ _ hM (fun _ => rfl) hP hD hS hl
abbrev rmX0_goBack : Room := { frames := 2, cells := 0, slots := 0, locals := 62 }
set_option maxHeartbeats 4000000 in
set_option maxRecDepth 100000 in
theorem kX0_goBack (l : Launch) (dC : Nat → ClassId) (dI : Nat → Nat → Nat) (cA : Nat → ClassId) (q : Nat → Nat) (σN σW σP κ : St) (M : Mk) {sp : Nat} (hsp : sp < 7) (hκ : κ 1 0 = nI sp) (hk : ¬ κ 2 0 = 0) {h : Nat} {ad : Nat → Nat} {τ : St} (hM : M ((sp + 6) % 7) = some (h, ad, τ)) (s3 : St) (e3 : fX1_become τ σN = some s3) : CV l yX0_goBack wsX0_goBack rmX0_goBack (dC, dI) vwCl (tysW cA) [.ref (q 3), .ref (q 1)] (wXK cA q σN σW σP κ M) (wXK cA q s3 σW σP (put (put κ 1 (fun _ => nI ((sp + 6) % 7))) 2 (fun _ => κ 2 0 - 1)) M) := by
  refine CGV_of (cc := cX0_goBack) (nL := 4) (ret := none) (by decide) rfl (Nat.le_of_ble_eq_true rfl) ?_
  intro p e s m av below meth c A0 ls H locs hC hl
  obtain ⟨hC, hr, hlocks, hV, hN, hK, hP, hD, hS, hA⟩ := hC
  have hC : CallFix p m c cX0_goBack 4 s _ wsX0_goBack RX0 := hC
  obtain ⟨hx, hb, hml, hown, hts⟩ := id hC
  have hl : lv_has ls 4 [(0, .ref (q 3)), (1, .ref (q 1))] := hl
  have hla : (sp + 6) % 7 < 7 := Nat.mod_lt _ (by decide)
  generalize hlv : (sp + 6) % 7 = la at hM hla ⊢
  refine lv_aload_n hx hb dX0_goBack_0 rfl (lv_at hl 0 rfl) ?_
  refine va_get (D := (dC, dI)) (ci := 0) (v := .int (κ 1 0)) (C := RX0) (T := TX0) (N := 3) hx hb hts (fun _ h => List.mem_cons_of_mem _ (List.mem_append_left _ (List.mem_append_right _ h))) hown hK hP 37 rfl rfl 1 (by decide) (hts (.fieldLink RX0 17 "MeanLocks$History" "spare" "I") (List.mem_of_getElem? (i := 1) rfl)) (fun _ h9 => h9) rfl dX0_goBack_1 ?_
  refine lv_bipush (v := (6 : Int32)) hx hb dX0_goBack_4 (by decide) ?_
  refine lv_iadd hx hb dX0_goBack_6 ?_
  refine lv_bipush (v := (7 : Int32)) hx hb dX0_goBack_7 (by decide) ?_
  refine lv_irem hx hb dX0_goBack_9 (by decide) ?_
  rw [show (κ 1 0 + 6) - (κ 1 0 + 6) / 7 * 7 = nI la by rw [hκ, l6, nI_add, l7, nI_rm (by omega) (by omega) (by omega), hlv]]
  refine lv_istore_n (lv' := [(2, .int (nI la)), (0, .ref (q 3)), (1, .ref (q 1))]) hx hb dX0_goBack_10 rfl hl (by decide) rfl (fun ls hl => ?_)
  refine lv_aload_n hx hb dX0_goBack_11 rfl (lv_at hl 1 rfl) ?_
  refine va_get (D := (dC, dI)) (ci := 0) (v := .ref (q 6)) (C := RX0) (T := TX0) (N := 3) hx hb hts (fun _ h => List.mem_cons_of_mem _ (List.mem_append_left _ (List.mem_append_right _ h))) hown hK hP 37 rfl rfl 0 (by decide) (hts (.fieldLink RX0 13 "MeanLocks$History" "states" "[LMeanLocks$Locks;") (List.mem_of_getElem? (i := 2) rfl)) (fun _ h9 => h9) rfl dX0_goBack_12 ?_
  refine lv_iload_n hx hb dX0_goBack_15 rfl (lv_at hl 0 rfl) ?_
  refine va_aldq (C := "MeanLocks$Locks") hx hb hK hP 38 3 rfl rfl (vp_in_nI hla (by omega)) dX0_goBack_16 ?_
  rw [show gS M (nI la).toNatClampNeg = some h by rw [nI_cl (by omega)]; exact (if_pos hla).trans (by rw [hM]; rfl)]
  refine lv_astore_n (lv' := [(3, .ref h), (2, .int (nI la)), (0, .ref (q 3)), (1, .ref (q 1))]) (x := h) hx hb dX0_goBack_17 rfl hl (by decide) rfl (fun ls hl => ?_)
  refine lv_aload_n hx hb dX0_goBack_18 rfl (lv_at hl 2 rfl) ?_
  refine va_get (D := (dC, dI)) (ci := 0) (v := .int (κ 2 0)) (C := RX0) (T := TX0) (N := 3) hx hb hts (fun _ h => List.mem_cons_of_mem _ (List.mem_append_left _ (List.mem_append_right _ h))) hown hK hP 37 rfl rfl 2 (by decide) (hts (.fieldLink RX0 26 "MeanLocks$History" "kept" "I") (List.mem_of_getElem? (i := 3) rfl)) (fun _ h9 => h9) rfl dX0_goBack_19 ?_
  refine lv_if_eq (tgt := 29) hx hb dX0_goBack_22 (by decide) (fun hc => absurd hc hk) (fun hc => ?_)
  refine lv_aload_n hx hb dX0_goBack_25 rfl (lv_at hl 0 rfl) ?_
  refine lv_ifnonnull (tgt := 30) hx hb dX0_goBack_26 (by decide) ?_
  have hpm : (wXK cA q σN σW σP κ M).Perm ((wL cA (q 1) (fun k => q (10 + k)) σN ++ wL cA h ad τ) ++ wXr_K cA q σW σP κ M la) := (pm_K (show la < 9 by omega) hM).trans (List.Perm.append_right _ List.perm_append_comm)
  have hpm2 : ((wL cA (q 1) (fun k => q (10 + k)) s3 ++ wL cA h ad τ) ++ wXr_K cA q σW σP κ M la).Perm (wXK cA q s3 σW σP κ M) := ((pm_K (show la < 9 by omega) hM).trans (List.Perm.append_right _ List.perm_append_comm)).symm
  have hP := va_perm hpm hP
  have hD := va_Dperm hpm hD
  refine lv_aload_n hx hb dX0_goBack_30 rfl (lv_at hl 3 rfl) ?_
  refine lv_aload_n hx hb dX0_goBack_31 rfl (lv_at hl 0 rfl) ?_
  refine x_PV (As := [.ref h]) (rest := []) (wr := wXr_K cA q σW σP κ M la) (w' := wXK cA q s3 σW σP κ M) hC (kX1_become l dC dI cA (q 1) (fun k => q (10 + k)) h ad τ σN s3 e3) (cwV 1 hts gX0_goBack_X1_become rfl rfl rfl (by decide +kernel) ⟨(Nat.le_of_ble_eq_true rfl), (Nat.le_of_ble_eq_true rfl)⟩) 0 1 hV hN hK hP hD hS hA (List.Perm.refl _) hpm2 rfl rfl rfl rfl hl.1 rfl (Nat.le_of_ble_eq_true rfl) ⟨(Nat.le_of_ble_eq_true rfl), (Nat.le_of_ble_eq_true rfl)⟩ dX0_goBack_32 (fun H locs hP hD hS => ?_)
  refine lv_aload_n hx hb dX0_goBack_35 rfl (lv_at hl 2 rfl) ?_
  refine lv_iload_n hx hb dX0_goBack_36 rfl (lv_at hl 1 rfl) ?_
  refine x_put (D := (dC, dI)) (ws' := wXK cA q s3 σW σP (put κ 1 (fun _ => nI la)) M) (ci := 0) (fs := [.ref (q 6), .int (κ 1 0), .int (κ 2 0)]) (v := .int (nI la)) (ty := .int) (C := RX0) (T := TX0) (N := 3) hC (fun _ h => List.mem_cons_of_mem _ (List.mem_append_left _ (List.mem_append_right _ h))) tyX0 tyX0_ok nmX0 hK hP hD hS 37 rfl rfl 1 (by decide) (hts (.fieldLink RX0 17 "MeanLocks$History" "spare" "I") (List.mem_of_getElem? (i := 1) rfl)) rfl rfl rfl rfl (by decide +kernel) (Nat.le_of_ble_eq_true rfl) rfl dX0_goBack_37 (fun H locs hP hD hS => ?_)
  refine lv_aload_n hx hb dX0_goBack_40 rfl (lv_at hl 2 rfl) ?_
  refine lv_dup hx hb dX0_goBack_41 rfl ?_
  refine va_get (D := (dC, dI)) (ci := 0) (v := .int (κ 2 0)) (C := RX0) (T := TX0) (N := 3) hx hb hts (fun _ h => List.mem_cons_of_mem _ (List.mem_append_left _ (List.mem_append_right _ h))) hown hK hP 37 rfl rfl 2 (by decide) (hts (.fieldLink RX0 26 "MeanLocks$History" "kept" "I") (List.mem_of_getElem? (i := 3) rfl)) (fun _ h9 => h9) rfl dX0_goBack_42 ?_
  refine lv_iconst (v := (1 : Int32)) hx hb dX0_goBack_45 (by decide) ?_
  refine lv_isub hx hb dX0_goBack_46 ?_
  refine x_put (D := (dC, dI)) (ws' := wXK cA q s3 σW σP (put (put κ 1 (fun _ => nI la)) 2 (fun _ => κ 2 0 - 1)) M) (ci := 0) (fs := [.ref (q 6), .int (nI la), .int (κ 2 0)]) (v := .int (κ 2 0 - 1)) (ty := .int) (C := RX0) (T := TX0) (N := 3) hC (fun _ h => List.mem_cons_of_mem _ (List.mem_append_left _ (List.mem_append_right _ h))) tyX0 tyX0_ok nmX0 hK hP hD hS 37 rfl rfl 2 (by decide) (hts (.fieldLink RX0 26 "MeanLocks$History" "kept" "I") (List.mem_of_getElem? (i := 3) rfl)) rfl rfl rfl rfl (by decide +kernel) (Nat.le_of_ble_eq_true rfl) rfl dX0_goBack_47 (fun H locs hP hD hS => ?_)
  exact x_retV hC hr hlocks hP hD hS dX0_goBack_50 rfl
