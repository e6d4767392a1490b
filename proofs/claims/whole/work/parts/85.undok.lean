/-! Undo, saving, restoring, carrying out -/
abbrev rmX3_undo : Room := { frames := 3, cells := 0, slots := 0, locals := 90 }
set_option maxHeartbeats 4000000 in
set_option maxRecDepth 100000 in
theorem kX3_undo_no (l : Launch) (dC : Nat → ClassId) (dI : Nat → Nat → Nat) (cA : Nat → ClassId) (q : Nat → Nat) (σN σW σP κ : St) (M : Mk) (hk : κ 2 0 = 0) : CI l yX3_undo wsX3_undo rmX3_undo (dC, dI) vwCl (tysW cA) [.ref (q 0)] (wXK cA q σN σW σP κ M) (-5) (wXK cA q σN σW σP κ M) := by
  refine CGI_of (cc := cX3_undo) (nL := 1) (ret := (some .int)) (by decide) rfl (Nat.le_of_ble_eq_true rfl) ?_
  intro p e s m av below meth c A0 ls H locs hC hl
  obtain ⟨hC, hr, hlocks, hV, hN, hK, hP, hD, hS, hA⟩ := hC
  have hC : CallFix p m c cX3_undo 1 s _ wsX3_undo RX3 := hC
  obtain ⟨hx, hb, hml, hown, hts⟩ := id hC
  have hl : lv_has ls 1 [(0, .ref (q 0))] := hl
  refine lv_aload_n hx hb dX3_undo_0 rfl (lv_at hl 0 rfl) ?_
  refine va_get (D := (dC, dI)) (ci := 3) (v := .ref (q 3)) (C := RX3) (T := TX3) (N := 5) hx hb hts (fun _ h => List.mem_cons_of_mem _ (List.mem_append_left _ (List.mem_append_left _ (List.mem_append_right _ h)))) hown hK hP 0 rfl rfl 2 (by decide) (hts (.fieldLink RX3 22 "MeanLocks" "history" "LMeanLocks$History;") (List.mem_of_getElem? (i := 1) rfl)) (fun _ h9 => h9) rfl dX3_undo_1 ?_
  refine va_get (D := (dC, dI)) (ci := 0) (v := .int (κ 2 0)) (C := RX0) (T := TX0) (N := 3) hx hb hts (fun _ h => List.mem_cons_of_mem _ (List.mem_append_left _ (List.mem_append_right _ h))) hown hK hP 37 rfl rfl 2 (by decide) (hts (.fieldLink RX3 136 "MeanLocks$History" "kept" "I") (List.mem_of_getElem? (i := 2) rfl)) (fun _ h9 => h9) rfl dX3_undo_4 ?_
  refine lv_if_ne (tgt := 13) hx hb dX3_undo_7 (by decide) (fun hc => absurd hk hc) (fun hc => ?_)
  refine lv_bipush (v := (-5 : Int32)) hx hb dX3_undo_10 (by decide) ?_
  exact x_retI hC hr hlocks rfl hP hD hS dX3_undo_12 ⟨rfl, rfl⟩
set_option maxHeartbeats 4000000 in
set_option maxRecDepth 100000 in
theorem kX3_undo (l : Launch) (dC : Nat → ClassId) (dI : Nat → Nat → Nat) (cA : Nat → ClassId) (q : Nat → Nat) (σN σW σP κ : St) (M : Mk) {sp : Nat} (hsp : sp < 7) (hκ : κ 1 0 = nI sp) (hk : ¬ κ 2 0 = 0) {h : Nat} {ad : Nat → Nat} {τ : St} (hM : M ((sp + 6) % 7) = some (h, ad, τ)) (s3 : St) (e3 : fX1_become τ σN = some s3) : CI l yX3_undo wsX3_undo rmX3_undo (dC, dI) vwCl (tysW cA) [.ref (q 0)] (wXK cA q σN σW σP κ M) (κ 2 0 - 1) (wXK cA q s3 σW σP (put (put κ 1 (fun _ => nI ((sp + 6) % 7))) 2 (fun _ => κ 2 0 - 1)) M) := by
  refine CGI_of (cc := cX3_undo) (nL := 1) (ret := (some .int)) (by decide) rfl (Nat.le_of_ble_eq_true rfl) ?_
  intro p e s m av below meth c A0 ls H locs hC hl
  obtain ⟨hC, hr, hlocks, hV, hN, hK, hP, hD, hS, hA⟩ := hC
  have hC : CallFix p m c cX3_undo 1 s _ wsX3_undo RX3 := hC
  obtain ⟨hx, hb, hml, hown, hts⟩ := id hC
  have hl : lv_has ls 1 [(0, .ref (q 0))] := hl
  refine lv_aload_n hx hb dX3_undo_0 rfl (lv_at hl 0 rfl) ?_
  refine va_get (D := (dC, dI)) (ci := 3) (v := .ref (q 3)) (C := RX3) (T := TX3) (N := 5) hx hb hts (fun _ h => List.mem_cons_of_mem _ (List.mem_append_left _ (List.mem_append_left _ (List.mem_append_right _ h)))) hown hK hP 0 rfl rfl 2 (by decide) (hts (.fieldLink RX3 22 "MeanLocks" "history" "LMeanLocks$History;") (List.mem_of_getElem? (i := 1) rfl)) (fun _ h9 => h9) rfl dX3_undo_1 ?_
  refine va_get (D := (dC, dI)) (ci := 0) (v := .int (κ 2 0)) (C := RX0) (T := TX0) (N := 3) hx hb hts (fun _ h => List.mem_cons_of_mem _ (List.mem_append_left _ (List.mem_append_right _ h))) hown hK hP 37 rfl rfl 2 (by decide) (hts (.fieldLink RX3 136 "MeanLocks$History" "kept" "I") (List.mem_of_getElem? (i := 2) rfl)) (fun _ h9 => h9) rfl dX3_undo_4 ?_
  refine lv_if_ne (tgt := 13) hx hb dX3_undo_7 (by decide) (fun hc => ?_) (fun hc => absurd hc hk)
  refine lv_aload_n hx hb dX3_undo_13 rfl (lv_at hl 0 rfl) ?_
  refine va_get (D := (dC, dI)) (ci := 3) (v := .ref (q 3)) (C := RX3) (T := TX3) (N := 5) hx hb hts (fun _ h => List.mem_cons_of_mem _ (List.mem_append_left _ (List.mem_append_left _ (List.mem_append_right _ h)))) hown hK hP 0 rfl rfl 2 (by decide) (hts (.fieldLink RX3 22 "MeanLocks" "history" "LMeanLocks$History;") (List.mem_of_getElem? (i := 1) rfl)) (fun _ h9 => h9) rfl dX3_undo_14 ?_
  refine lv_aload_n hx hb dX3_undo_17 rfl (lv_at hl 0 rfl) ?_
  refine va_get (D := (dC, dI)) (ci := 3) (v := .ref (q 1)) (C := RX3) (T := TX3) (N := 5) hx hb hts (fun _ h => List.mem_cons_of_mem _ (List.mem_append_left _ (List.mem_append_left _ (List.mem_append_right _ h)))) hown hK hP 0 rfl rfl 0 (by decide) (hts (.fieldLink RX3 12 "MeanLocks" "now" "LMeanLocks$Locks;") (List.mem_of_getElem? (i := 3) rfl)) (fun _ h9 => h9) rfl dX3_undo_18 ?_
  refine x_VV (As := [.ref (q 1)]) (rest := []) hC (kX0_goBack l dC dI cA q σN σW σP κ M hsp hκ hk hM s3 e3) (cwV 1 hts gX3_undo_X0_goBack rfl rfl rfl (by decide +kernel) ⟨(Nat.le_of_ble_eq_true rfl), (Nat.le_of_ble_eq_true rfl)⟩) 37 0 hV hN hK hP hD hS hA rfl rfl rfl rfl hl.1 rfl (Nat.le_of_ble_eq_true rfl) ⟨Nat.zero_le _, Nat.zero_le _⟩ dX3_undo_21 (fun H locs hP hD hS => ?_)
  refine lv_aload_n hx hb dX3_undo_24 rfl (lv_at hl 0 rfl) ?_
  refine va_get (D := (dC, dI)) (ci := 3) (v := .ref (q 3)) (C := RX3) (T := TX3) (N := 5) hx hb hts (fun _ h => List.mem_cons_of_mem _ (List.mem_append_left _ (List.mem_append_left _ (List.mem_append_right _ h)))) hown hK hP 0 rfl rfl 2 (by decide) (hts (.fieldLink RX3 22 "MeanLocks" "history" "LMeanLocks$History;") (List.mem_of_getElem? (i := 1) rfl)) (fun _ h9 => h9) rfl dX3_undo_25 ?_
  refine va_get (D := (dC, dI)) (ci := 0) (v := .int (κ 2 0 - 1)) (C := RX0) (T := TX0) (N := 3) hx hb hts (fun _ h => List.mem_cons_of_mem _ (List.mem_append_left _ (List.mem_append_right _ h))) hown hK hP 37 rfl rfl 2 (by decide) (hts (.fieldLink RX3 136 "MeanLocks$History" "kept" "I") (List.mem_of_getElem? (i := 2) rfl)) (fun _ h9 => h9) rfl dX3_undo_28 ?_
  exact x_retI hC hr hlocks rfl hP hD hS dX3_undo_31 ⟨rfl, rfl⟩
abbrev rmX3_save : Room := { frames := 2, cells := 17, slots := 1303, locals := 62 }
set_option maxHeartbeats 4000000 in
set_option maxRecDepth 100000 in
theorem kX3_save_bad (l : Launch) (dC : Nat → ClassId) (dI : Nat → Nat → Nat) (cA : Nat → ClassId) (q : Nat → Nat) (a1 : Int32) (σN σW σP κ : St) (M : Mk) (ha : a1 < 0 ∨ ¬ a1 < 2) : CI l yX3_save wsX3_save { frames := 0, cells := 0, slots := 0, locals := 0 } (dC, dI) vwCl (tysW cA) [.ref (q 0), .int a1] (wXK cA q σN σW σP κ M) (-2) (wXK cA q σN σW σP κ M) := by
  refine CGI_of (cc := cX3_save) (nL := 3) (ret := (some .int)) (by decide) rfl (Nat.le_of_ble_eq_true rfl) ?_
  intro p e s m av below meth c A0 ls H locs hC hl
  obtain ⟨hC, hr, hlocks, hV, hN, hK, hP, hD, hS, hA⟩ := hC
  have hC : CallFix p m c cX3_save 3 s _ wsX3_save RX3 := hC
  obtain ⟨hx, hb, hml, hown, hts⟩ := id hC
  have hl : lv_has ls 3 [(0, .ref (q 0)), (1, .int a1)] := hl
  have E : W p l e (headSpec wsX3_save { frames := 0, cells := 0, slots := 0, locals := 0 }).room s m av below meth c H locs 0 0 (MQ below (qI (dC, dI) A0 (-2) (wXK cA q σN σW σP κ M)) av s 0 0 A0) (F0 m 9 ls []) := by
    refine lv_bipush (v := (-2 : Int32)) hx hb dX3_save_9 (by decide) ?_
    exact x_retI hC hr hlocks rfl hP hD hS dX3_save_11 ⟨rfl, rfl⟩
  refine lv_iload_n hx hb dX3_save_0 rfl (lv_at hl 1 rfl) ?_
  refine lv_if_lt (tgt := 9) hx hb dX3_save_1 (by decide) (fun hc => E) (fun hc => ?_)
  refine lv_iload_n hx hb dX3_save_4 rfl (lv_at hl 1 rfl) ?_
  refine lv_iconst (v := (2 : Int32)) hx hb dX3_save_5 (by decide) ?_
  refine lv_icmp_lt (tgt := 12) hx hb dX3_save_6 (by decide) (fun hc2 => absurd hc2 (ha.resolve_left hc)) (fun _ => E)
set_option maxHeartbeats 4000000 in
set_option maxRecDepth 100000 in
theorem kX3_save (l : Launch) (dC : Nat → ClassId) (dI : Nat → Nat → Nat) (cA : Nat → ClassId) (q : Nat → Nat) (σN σW σP κ : St) (M : Mk) {A : AS} {i : Nat} (hi : i < 2) (hAN : RepL σN A) (hw : WF A) : CGIa l yX3_save wsX3_save rmX3_save 17 1303 (dC, dI) vwCl (tysW cA) [.ref (q 0), .int (nI i)] (wXK cA q σN σW σP κ M) (fun r u => r = σN 1 0 ∧ ∃ h ad σ', RepL σ' A ∧ u = wXK cA q σN σW σP κ (upM M (7 + i) (h, ad, σ'))) := by
  refine CGIa_of (cc := cX3_save) (nL := 3) (ret := (some .int)) (by decide) rfl (Nat.le_of_ble_eq_true rfl) ?_
  intro p e s m av below meth c A0 ls H locs hO hC hl
  obtain ⟨hC, hr, hlocks, hV, hN, hK, hP, hD, hS, hA⟩ := hC
  have hC : CallFix p m c cX3_save 3 s _ wsX3_save RX3 := hC
  obtain ⟨hx, hb, hml, hown, hts⟩ := id hC
  have hl : lv_has ls 3 [(0, .ref (q 0)), (1, .int (nI i))] := hl
  have tail : ∀ (M1 : Mk) (h : Nat) (ad : Nat → Nat) (τ : St) (H : Heap) (locs : List Loc) (ls : Array Slot), M1 (7 + i) = some (h, ad, τ) → (∀ y, upM M1 (7 + i) y = upM M (7 + i) y) → va_P (dC, dI) vwCl (wXK cA q σN σW σP κ M1) H → va_D A0 (wXK cA q σN σW σP κ M1) → va_S A0 s.heap H locs → lv_has ls 3 [(2, .ref h), (0, .ref (q 0)), (1, .int (nI i))] → W p l e (headSpec wsX3_save rmX3_save).room s m av below meth c H locs 17 1303 (MQ below (va_Qi (fun r u => r = σN 1 0 ∧ ∃ h ad σ', RepL σ' A ∧ u = wXK cA q σN σW σP κ (upM M (7 + i) (h, ad, σ'))) (cWd (dC, dI) vwCl A0) A0) av s 17 1303 A0) (F0 m 38 ls []) := by
    intro M1 h ad τ H locs ls hM1 hup hP hD hS hl
    obtain ⟨s3, e3, r3⟩ := becL (σ := τ) hAN hw
    have e39 : ∃ ql, (wXK cA q σN σW σP κ M1)[ql]? = some ((h, .inr (1, [.ref (ad 0), .int (τ 1 0), .ref (ad 2), .ref (ad 3), .int (τ 4 0), .ref (ad 5), .ref (ad 6), .ref (ad 7), .ref (ad 8), .ref (ad 9), .ref (ad 10), .ref (ad 11), .ref (ad 12), .int (τ 13 0), .int (τ 14 0), .ref (ad 15)])) : Nat × va_E) := List.getElem?_of_mem ((pm_K (cA := cA) (q := q) (σN := σN) (σW := σW) (σP := σP) (κ := κ) (show 7 + i < 9 by omega) hM1).mem_iff.mpr List.mem_cons_self)
    obtain ⟨ql, eql⟩ := e39
    refine lv_aload_n hx hb dX3_save_38 rfl (lv_at hl 0 rfl) ?_
    refine lv_aload_n hx hb dX3_save_39 rfl (lv_at hl 1 rfl) ?_
    refine va_get (D := (dC, dI)) (ci := 3) (v := .ref (q 1)) (C := RX3) (T := TX3) (N := 5) hx hb hts (fun _ h => List.mem_cons_of_mem _ (List.mem_append_left _ (List.mem_append_right _ h))) hown hK hP 0 rfl rfl 0 (by decide) (hts (.fieldLink RX3 12 "MeanLocks" "now" "LMeanLocks$Locks;") (List.mem_of_getElem? (i := 5) rfl)) (fun _ h9 => h9) rfl dX3_save_40 ?_
    refine x_PV (As := [.ref (q 1)]) (rest := []) (wr := wXr_K cA q σW σP κ M1 (7 + i)) (w' := wXK cA q σN σW σP κ (upM M1 (7 + i) (h, ad, s3))) hC (kX1_become l dC dI cA h ad (q 1) (fun k => q (10 + k)) σN τ s3 e3) (cwV 1 hts gX3_save_X1_become rfl rfl rfl (by decide +kernel) ⟨(Nat.le_of_ble_eq_true rfl), (Nat.le_of_ble_eq_true rfl)⟩) ql 1 hV hN hK hP hD hS hA (pm_K (show 7 + i < 9 by omega) hM1) (pm_K' (show 7 + i < 9 by omega) hM1) rfl eql rfl rfl hl.1 rfl (Nat.le_of_ble_eq_true rfl) ⟨(Nat.le_of_ble_eq_true rfl), (Nat.le_of_ble_eq_true rfl)⟩ dX3_save_43 (fun H locs hP hD hS => ?_)
    refine lv_aload_n hx hb dX3_save_46 rfl (lv_at hl 1 rfl) ?_
    refine va_get (D := (dC, dI)) (ci := 3) (v := .ref (q 1)) (C := RX3) (T := TX3) (N := 5) hx hb hts (fun _ h => List.mem_cons_of_mem _ (List.mem_append_left _ (List.mem_append_right _ h))) hown hK hP 0 rfl rfl 0 (by decide) (hts (.fieldLink RX3 12 "MeanLocks" "now" "LMeanLocks$Locks;") (List.mem_of_getElem? (i := 5) rfl)) (fun _ h9 => h9) rfl dX3_save_47 ?_
    refine va_get (D := (dC, dI)) (ci := 1) (v := .int (σN 1 0)) (C := RX1) (T := TX1) (N := 16) hx hb hts (fun _ h => List.mem_cons_of_mem _ (List.mem_append_right _ h)) hown hK hP 1 rfl rfl 1 (by decide) (hts (.fieldLink RX3 117 "MeanLocks$Locks" "tick" "I") (List.mem_of_getElem? (i := 6) rfl)) (fun _ h9 => h9) rfl dX3_save_50 ?_
    exact x_retI hC hr hlocks rfl hP hD hS dX3_save_53 ⟨rfl, h, ad, s3, r3, by rw [hup]⟩
  have hin2 : vp_in (nI i) 2 := vp_in_nI hi (by omega)
  have hcl2 : (nI i).toNatClampNeg = i := nI_cl (by omega)
  refine lv_iload_n hx hb dX3_save_0 rfl (lv_at hl 1 rfl) ?_
  refine lv_if_lt (tgt := 9) hx hb dX3_save_1 (by decide) (fun hc => absurd hc (nI_pos (by omega))) (fun hc => ?_)
  refine lv_iload_n hx hb dX3_save_4 rfl (lv_at hl 1 rfl) ?_
  refine lv_iconst (v := (2 : Int32)) hx hb dX3_save_5 (by decide) ?_
  refine lv_icmp_lt (tgt := 12) hx hb dX3_save_6 (by decide) (fun _ => ?_) (fun hc => absurd ((nI_ltI (b := 2) (by omega) (by omega)).mpr hi) hc)
  refine lv_aload_n hx hb dX3_save_12 rfl (lv_at hl 0 rfl) ?_
  refine va_get (D := (dC, dI)) (ci := 3) (v := .ref (q 4)) (C := RX3) (T := TX3) (N := 5) hx hb hts (fun _ h => List.mem_cons_of_mem _ (List.mem_append_left _ (List.mem_append_right _ h))) hown hK hP 0 rfl rfl 3 (by decide) (hts (.fieldLink RX3 26 "MeanLocks" "slots" "[LMeanLocks$Locks;") (List.mem_of_getElem? (i := 1) rfl)) (fun _ h9 => h9) rfl dX3_save_13 ?_
  refine lv_iload_n hx hb dX3_save_16 rfl (lv_at hl 1 rfl) ?_
  refine va_aldq (C := "MeanLocks$Locks") hx hb hK hP 39 3 rfl rfl hin2 dX3_save_17 ?_
  rw [show gT M (nI i).toNatClampNeg = (M (7 + i)).map (fun x => x.1) by rw [hcl2]; rfl]
  rcases hM : M (7 + i) with _ | ⟨h, ad, τ⟩
  · refine lv_astore_nN (lv' := [(2, .null), (0, .ref (q 0)), (1, .int (nI i))]) hx hb dX3_save_18 rfl hl (by decide) rfl (fun ls hl => ?_)
    refine lv_aload_nN hx hb dX3_save_19 rfl (lv_at hl 0 rfl) ?_
    refine lv_ifnonnullN hx hb dX3_save_20 ?_
    refine va_new (ci := 1) (fs := [.null, .int 0, .null, .null, .int 0, .null, .null, .null, .null, .null, .null, .null, .null, .int 0, .int 0, .null]) (C := RX1) (T := TX1) (N := 16) hx hb hts (fun _ h => List.mem_cons_of_mem _ (List.mem_append_right _ h)) tyX1 tyX1_ok hown (hts (.classLink RX3 9 RX1) (List.mem_of_getElem? (i := 2) rfl)) (hts (.instantiable RX1 16) (List.mem_of_getElem? (i := 3) rfl)) (hts (.initialized RX1) (List.mem_of_getElem? (i := 4) rfl)) hK hP hD hS hA rfl (fun j hj => by rcases (show j = 0 ∨ j = 1 ∨ j = 2 ∨ j = 3 ∨ j = 4 ∨ j = 5 ∨ j = 6 ∨ j = 7 ∨ j = 8 ∨ j = 9 ∨ j = 10 ∨ j = 11 ∨ j = 12 ∨ j = 13 ∨ j = 14 ∨ j = 15 by omega) with rfl | rfl | rfl | rfl | rfl | rfl | rfl | rfl | rfl | rfl | rfl | rfl | rfl | rfl | rfl | rfl <;> rfl) (Nat.le_of_ble_eq_true rfl) (Nat.le_of_ble_eq_true rfl) dX3_save_23 (fun h H hP hD hS => ?_)
    refine lv_dup hx hb dX3_save_26 rfl ?_
    refine x_NN (As := []) (rest := [.ref h]) (ws := [(h, .inr (1, [.null, .int 0, .null, .null, .int 0, .null, .null, .null, .null, .null, .null, .null, .null, .int 0, .int 0, .null]))]) (wr := wXK cA q σN σW σP κ M) hC (kX1_init l dC dI cA h) ⟨va_cnB 0 hts gX3_save_X1_init_n11 rfl rfl rfl (hN _ (List.mem_of_getElem? (i := 0) rfl)) (hts (.initialized RX1) (List.mem_of_getElem? (i := 4) rfl)) ⟨by decide +kernel, by decide +kernel, by decide +kernel⟩ ⟨(Nat.le_of_ble_eq_true rfl), (Nat.le_of_ble_eq_true rfl)⟩, rfl, (hts (.instanceMethod yX1_init) (List.mem_of_getElem? (i := 7) rfl))⟩ hO hV hN hK hP hD hS hA List.perm_append_comm rfl hl.1 rfl (Nat.le_of_ble_eq_true rfl) ⟨(Nat.le_of_ble_eq_true rfl), (Nat.le_of_ble_eq_true rfl)⟩ dX3_save_27 (fun u H locs hu hP hD hS => ?_)
    obtain ⟨ad, rfl⟩ := hu
    refine lv_astore_n (lv' := [(2, .ref h), (0, .ref (q 0)), (1, .int (nI i))]) hx hb dX3_save_30 rfl hl (by decide) rfl (fun ls hl => ?_)
    refine lv_aload_n hx hb dX3_save_31 rfl (lv_at hl 1 rfl) ?_
    refine va_get (D := (dC, dI)) (ci := 3) (v := .ref (q 4)) (C := RX3) (T := TX3) (N := 5) hx hb hts (fun _ h => List.mem_cons_of_mem _ (List.mem_append_left _ (List.mem_append_right _ h))) hown hK hP 17 rfl rfl 3 (by decide) (hts (.fieldLink RX3 26 "MeanLocks" "slots" "[LMeanLocks$Locks;") (List.mem_of_getElem? (i := 1) rfl)) (fun _ h9 => h9) rfl dX3_save_32 ?_
    refine lv_iload_n hx hb dX3_save_35 rfl (lv_at hl 2 rfl) ?_
    refine lv_aload_n hx hb dX3_save_36 rfl (lv_at hl 0 rfl) ?_
    refine va_astq (r := (RX1, TX1, 16)) hx hb hK hP hD hS 56 3 0 1 rfl rfl rfl rfl hin2 dX3_save_37 (fun H locs hP hD hS => ?_)
    rw [hcl2] at hP hD
    have e56 : wL cA h ad (fun _ _ => 0) ++ wX cA q σN σW σP κ (wRs cA q (upM M (7 + i) (h, ad, fun _ _ => 0)) ++ wkL cA M (List.range 9)) = (wL cA h ad (fun _ _ => 0) ++ wXK cA q σN σW σP κ M).set 56 (q 4, .inl (cA 3, 2, .inr (.inr (.inr (.inr (va_up (gT M) i (some h))))))) := by rw [wRs_2]; rfl
    rw [← e56] at hP hD
    have hP := va_perm (pm_new (cA := cA) (q := q) (σN := σN) (σW := σW) (σP := σP) (κ := κ) (x := (h, ad, fun _ _ => 0)) (show 7 + i < 9 by omega) hM) hP
    have hD := va_Dperm (pm_new (cA := cA) (q := q) (σN := σN) (σW := σW) (σP := σP) (κ := κ) (x := (h, ad, fun _ _ => 0)) (show 7 + i < 9 by omega) hM) hD
    refine W.widen (k := 17) (n := 1303) (by omega) (by omega) ?_
    exact tail _ h ad _ _ _ _ (upM_s _ _ _) (fun y => upM_up _ _ _ _) hP hD hS hl
  · refine lv_astore_n (lv' := [(2, .ref h), (0, .ref (q 0)), (1, .int (nI i))]) (x := h) hx hb dX3_save_18 rfl hl (by decide) rfl (fun ls hl => ?_)
    refine lv_aload_n hx hb dX3_save_19 rfl (lv_at hl 0 rfl) ?_
    refine lv_ifnonnull (tgt := 38) hx hb dX3_save_20 (by decide) ?_
    refine W.widen (k := 17) (n := 1303) (by omega) (by omega) ?_
    exact tail M h ad τ _ _ _ hM (fun _ => rfl) hP hD hS hl
set_option maxHeartbeats 4000000 in
set_option maxRecDepth 100000 in
theorem kX3_restore_bad (l : Launch) (dC : Nat → ClassId) (dI : Nat → Nat → Nat) (cA : Nat → ClassId) (q : Nat → Nat) (a1 : Int32) (σN σW σP κ : St) (M : Mk) (ha : a1 < 0 ∨ ¬ a1 < 2) : CI l yX3_restore wsX3_restore { frames := 0, cells := 0, slots := 0, locals := 0 } (dC, dI) vwCl (tysW cA) [.ref (q 0), .int a1] (wXK cA q σN σW σP κ M) (-2) (wXK cA q σN σW σP κ M) := by
  refine CGI_of (cc := cX3_restore) (nL := 3) (ret := (some .int)) (by decide) rfl (Nat.le_of_ble_eq_true rfl) ?_
  intro p e s m av below meth c A0 ls H locs hC hl
  obtain ⟨hC, hr, hlocks, hV, hN, hK, hP, hD, hS, hA⟩ := hC
  have hC : CallFix p m c cX3_restore 3 s _ wsX3_restore RX3 := hC
  obtain ⟨hx, hb, hml, hown, hts⟩ := id hC
  have hl : lv_has ls 3 [(0, .ref (q 0)), (1, .int a1)] := hl
  have E : W p l e (headSpec wsX3_restore { frames := 0, cells := 0, slots := 0, locals := 0 }).room s m av below meth c H locs 0 0 (MQ below (qI (dC, dI) A0 (-2) (wXK cA q σN σW σP κ M)) av s 0 0 A0) (F0 m 9 ls []) := by
    refine lv_bipush (v := (-2 : Int32)) hx hb dX3_restore_9 (by decide) ?_
    exact x_retI hC hr hlocks rfl hP hD hS dX3_restore_11 ⟨rfl, rfl⟩
  refine lv_iload_n hx hb dX3_restore_0 rfl (lv_at hl 1 rfl) ?_
  refine lv_if_lt (tgt := 9) hx hb dX3_restore_1 (by decide) (fun hc => E) (fun hc => ?_)
  refine lv_iload_n hx hb dX3_restore_4 rfl (lv_at hl 1 rfl) ?_
  refine lv_iconst (v := (2 : Int32)) hx hb dX3_restore_5 (by decide) ?_
  refine lv_icmp_lt (tgt := 12) hx hb dX3_restore_6 (by decide) (fun hc2 => absurd hc2 (ha.resolve_left hc)) (fun _ => E)
abbrev rmX3_restore : Room := { frames := 3, cells := 17, slots := 1303, locals := 90 }
set_option maxHeartbeats 4000000 in
set_option maxRecDepth 100000 in
theorem kX3_restore_no (l : Launch) (dC : Nat → ClassId) (dI : Nat → Nat → Nat) (cA : Nat → ClassId) (q : Nat → Nat) (σN σW σP κ : St) (M : Mk) {i : Nat} (hi : i < 2) (hM : M (7 + i) = none) : CI l yX3_restore wsX3_restore { frames := 0, cells := 0, slots := 0, locals := 0 } (dC, dI) vwCl (tysW cA) [.ref (q 0), .int (nI i)] (wXK cA q σN σW σP κ M) (-5) (wXK cA q σN σW σP κ M) := by
  refine CGI_of (cc := cX3_restore) (nL := 3) (ret := (some .int)) (by decide) rfl (Nat.le_of_ble_eq_true rfl) ?_
  intro p e s m av below meth c A0 ls H locs hC hl
  obtain ⟨hC, hr, hlocks, hV, hN, hK, hP, hD, hS, hA⟩ := hC
  have hC : CallFix p m c cX3_restore 3 s _ wsX3_restore RX3 := hC
  obtain ⟨hx, hb, hml, hown, hts⟩ := id hC
  have hl : lv_has ls 3 [(0, .ref (q 0)), (1, .int (nI i))] := hl
  have hin2 : vp_in (nI i) 2 := vp_in_nI hi (by omega)
  have hcl2 : (nI i).toNatClampNeg = i := nI_cl (by omega)
  refine lv_iload_n hx hb dX3_restore_0 rfl (lv_at hl 1 rfl) ?_
  refine lv_if_lt (tgt := 9) hx hb dX3_restore_1 (by decide) (fun hc => absurd hc (nI_pos (by omega))) (fun hc => ?_)
  refine lv_iload_n hx hb dX3_restore_4 rfl (lv_at hl 1 rfl) ?_
  refine lv_iconst (v := (2 : Int32)) hx hb dX3_restore_5 (by decide) ?_
  refine lv_icmp_lt (tgt := 12) hx hb dX3_restore_6 (by decide) (fun _ => ?_) (fun hc => absurd ((nI_ltI (b := 2) (by omega) (by omega)).mpr hi) hc)
  refine lv_aload_n hx hb dX3_restore_12 rfl (lv_at hl 0 rfl) ?_
  refine va_get (D := (dC, dI)) (ci := 3) (v := .ref (q 4)) (C := RX3) (T := TX3) (N := 5) hx hb hts (fun _ h => List.mem_cons_of_mem _ (List.mem_append_left _ (List.mem_append_left _ (List.mem_append_right _ h)))) hown hK hP 0 rfl rfl 3 (by decide) (hts (.fieldLink RX3 26 "MeanLocks" "slots" "[LMeanLocks$Locks;") (List.mem_of_getElem? (i := 1) rfl)) (fun _ h9 => h9) rfl dX3_restore_13 ?_
  refine lv_iload_n hx hb dX3_restore_16 rfl (lv_at hl 1 rfl) ?_
  refine va_aldq (C := "MeanLocks$Locks") hx hb hK hP 39 3 rfl rfl hin2 dX3_restore_17 ?_
  rw [show gT M (nI i).toNatClampNeg = none by rw [hcl2]; unfold gT; rw [hM]; rfl]
  refine lv_astore_nN (lv' := [(2, .null), (0, .ref (q 0)), (1, .int (nI i))]) hx hb dX3_restore_18 rfl hl (by decide) rfl (fun ls hl => ?_)
  refine lv_aload_nN hx hb dX3_restore_19 rfl (lv_at hl 0 rfl) ?_
  refine lv_ifnonnullN hx hb dX3_restore_20 ?_
  refine lv_bipush (v := (-5 : Int32)) hx hb dX3_restore_23 (by decide) ?_
  exact x_retI hC hr hlocks rfl hP hD hS dX3_restore_25 ⟨rfl, rfl⟩
set_option maxHeartbeats 4000000 in
set_option maxRecDepth 100000 in
theorem kX3_restore (l : Launch) (dC : Nat → ClassId) (dI : Nat → Nat → Nat) (cA : Nat → ClassId) (q : Nat → Nat) (σN σW σP κ : St) (M : Mk) {A : AS} {sp i : Nat} (hi : i < 2) (hAN : RepL σN A) (hw : WF A) (hsp : sp < 7) (hκ : κ 1 0 = nI sp) {hs : Nat} {as : Nat → Nat} {τ : St} (hM : M (7 + i) = some (hs, as, τ)) {s3 κ' : St} (e3 : fX1_become τ σN = some s3) (h2 : fX0_settle (s3 1 0) κ = some (s3 1 0, κ')) : CGIa l yX3_restore wsX3_restore rmX3_restore 17 1303 (dC, dI) vwCl (tysW cA) [.ref (q 0), .int (nI i)] (wXK cA q σN σW σP κ M) (fun r u => r = s3 1 0 ∧ ∃ h ad σ', RepL σ' A ∧ u = wXK cA q s3 σW σP κ' (upM M sp (h, ad, σ'))) := by
  refine CGIa_of (cc := cX3_restore) (nL := 3) (ret := (some .int)) (by decide) rfl (Nat.le_of_ble_eq_true rfl) ?_
  intro p e s m av below meth c A0 ls H locs hO hC hl
  obtain ⟨hC, hr, hlocks, hV, hN, hK, hP, hD, hS, hA⟩ := hC
  have hC : CallFix p m c cX3_restore 3 s _ wsX3_restore RX3 := hC
  obtain ⟨hx, hb, hml, hown, hts⟩ := id hC
  have hl : lv_has ls 3 [(0, .ref (q 0)), (1, .int (nI i))] := hl
  have hin2 : vp_in (nI i) 2 := vp_in_nI hi (by omega)
  have hcl2 : (nI i).toNatClampNeg = i := nI_cl (by omega)
  refine lv_iload_n hx hb dX3_restore_0 rfl (lv_at hl 1 rfl) ?_
  refine lv_if_lt (tgt := 9) hx hb dX3_restore_1 (by decide) (fun hc => absurd hc (nI_pos (by omega))) (fun hc => ?_)
  refine lv_iload_n hx hb dX3_restore_4 rfl (lv_at hl 1 rfl) ?_
  refine lv_iconst (v := (2 : Int32)) hx hb dX3_restore_5 (by decide) ?_
  refine lv_icmp_lt (tgt := 12) hx hb dX3_restore_6 (by decide) (fun _ => ?_) (fun hc => absurd ((nI_ltI (b := 2) (by omega) (by omega)).mpr hi) hc)
  refine lv_aload_n hx hb dX3_restore_12 rfl (lv_at hl 0 rfl) ?_
  refine va_get (D := (dC, dI)) (ci := 3) (v := .ref (q 4)) (C := RX3) (T := TX3) (N := 5) hx hb hts (fun _ h => List.mem_cons_of_mem _ (List.mem_append_left _ (List.mem_append_left _ (List.mem_append_right _ h)))) hown hK hP 0 rfl rfl 3 (by decide) (hts (.fieldLink RX3 26 "MeanLocks" "slots" "[LMeanLocks$Locks;") (List.mem_of_getElem? (i := 1) rfl)) (fun _ h9 => h9) rfl dX3_restore_13 ?_
  refine lv_iload_n hx hb dX3_restore_16 rfl (lv_at hl 1 rfl) ?_
  refine va_aldq (C := "MeanLocks$Locks") hx hb hK hP 39 3 rfl rfl hin2 dX3_restore_17 ?_
  rw [show gT M (nI i).toNatClampNeg = some hs by rw [hcl2]; unfold gT; rw [hM]; rfl]
  refine lv_astore_n (lv' := [(2, .ref hs), (0, .ref (q 0)), (1, .int (nI i))]) (x := hs) hx hb dX3_restore_18 rfl hl (by decide) rfl (fun ls hl => ?_)
  refine lv_aload_n hx hb dX3_restore_19 rfl (lv_at hl 0 rfl) ?_
  refine lv_ifnonnull (tgt := 26) hx hb dX3_restore_20 (by decide) ?_
  refine lv_aload_n hx hb dX3_restore_26 rfl (lv_at hl 1 rfl) ?_
  refine va_get (D := (dC, dI)) (ci := 3) (v := .ref (q 3)) (C := RX3) (T := TX3) (N := 5) hx hb hts (fun _ h => List.mem_cons_of_mem _ (List.mem_append_left _ (List.mem_append_left _ (List.mem_append_right _ h)))) hown hK hP 0 rfl rfl 2 (by decide) (hts (.fieldLink RX3 22 "MeanLocks" "history" "LMeanLocks$History;") (List.mem_of_getElem? (i := 2) rfl)) (fun _ h9 => h9) rfl dX3_restore_27 ?_
  refine lv_aload_n hx hb dX3_restore_30 rfl (lv_at hl 1 rfl) ?_
  refine va_get (D := (dC, dI)) (ci := 3) (v := .ref (q 1)) (C := RX3) (T := TX3) (N := 5) hx hb hts (fun _ h => List.mem_cons_of_mem _ (List.mem_append_left _ (List.mem_append_left _ (List.mem_append_right _ h)))) hown hK hP 0 rfl rfl 0 (by decide) (hts (.fieldLink RX3 12 "MeanLocks" "now" "LMeanLocks$Locks;") (List.mem_of_getElem? (i := 3) rfl)) (fun _ h9 => h9) rfl dX3_restore_31 ?_
  refine x_AV (As := [.ref (q 1)]) (rest := []) (wr := []) hC (kX0_note l dC dI cA q σN σW σP κ M hAN hw hsp hκ) (cwV 1 hts gX3_restore_X0_note rfl rfl rfl (by decide +kernel) ⟨(Nat.le_of_ble_eq_true rfl), (Nat.le_of_ble_eq_true rfl)⟩) 37 0 hO hV hN hK hP hD hS hA (by rw [List.append_nil]) rfl rfl rfl rfl hl.1 rfl (Nat.le_of_ble_eq_true rfl) ⟨(Nat.le_of_ble_eq_true rfl), (Nat.le_of_ble_eq_true rfl)⟩ dX3_restore_34 (fun u H locs hu hP hD hS => ?_)
  obtain ⟨h, ad, σ1, hR1, rfl⟩ := hu
  rw [List.append_nil] at hP hD
  generalize hMv : upM M sp (h, ad, σ1) = M1 at hP hD
  have hM1 : M1 (7 + i) = some (hs, as, τ) := by rw [← hMv, upM_n _ _ (by omega)]; exact hM
  have hpm : ∀ σ, (wXK cA q σ σW σP κ M1).Perm ((wL cA (q 1) (fun k => q (10 + k)) σ ++ wL cA hs as τ) ++ wXr_K cA q σW σP κ M1 (7 + i)) := fun σ => (pm_K (show 7 + i < 9 by omega) hM1).trans (List.Perm.append_right _ List.perm_append_comm)
  refine lv_aload_n hx hb dX3_restore_37 rfl (lv_at hl 1 rfl) ?_
  refine va_get (D := (dC, dI)) (ci := 3) (v := .ref (q 1)) (C := RX3) (T := TX3) (N := 5) hx hb hts (fun _ h => List.mem_cons_of_mem _ (List.mem_append_left _ (List.mem_append_left _ (List.mem_append_right _ h)))) hown hK hP 0 rfl rfl 0 (by decide) (hts (.fieldLink RX3 12 "MeanLocks" "now" "LMeanLocks$Locks;") (List.mem_of_getElem? (i := 3) rfl)) (fun _ h9 => h9) rfl dX3_restore_38 ?_
  refine lv_aload_n hx hb dX3_restore_41 rfl (lv_at hl 0 rfl) ?_
  refine x_PV (As := [.ref hs]) (rest := []) (wr := wXr_K cA q σW σP κ M1 (7 + i)) (w' := wXK cA q s3 σW σP κ M1) hC (kX1_become l dC dI cA (q 1) (fun k => q (10 + k)) hs as τ σN s3 e3) (cwV 1 hts gX3_restore_X1_become rfl rfl rfl (by decide +kernel) ⟨(Nat.le_of_ble_eq_true rfl), (Nat.le_of_ble_eq_true rfl)⟩) 1 1 hV hN hK hP hD hS hA (hpm σN) (hpm s3).symm rfl rfl rfl rfl hl.1 rfl (Nat.le_of_ble_eq_true rfl) ⟨(Nat.le_of_ble_eq_true rfl), (Nat.le_of_ble_eq_true rfl)⟩ dX3_restore_42 (fun H locs hP hD hS => ?_)
  refine lv_aload_n hx hb dX3_restore_45 rfl (lv_at hl 1 rfl) ?_
  refine va_get (D := (dC, dI)) (ci := 3) (v := .ref (q 3)) (C := RX3) (T := TX3) (N := 5) hx hb hts (fun _ h => List.mem_cons_of_mem _ (List.mem_append_left _ (List.mem_append_left _ (List.mem_append_right _ h)))) hown hK hP 0 rfl rfl 2 (by decide) (hts (.fieldLink RX3 22 "MeanLocks" "history" "LMeanLocks$History;") (List.mem_of_getElem? (i := 2) rfl)) (fun _ h9 => h9) rfl dX3_restore_46 ?_
  refine lv_aload_n hx hb dX3_restore_49 rfl (lv_at hl 1 rfl) ?_
  refine va_get (D := (dC, dI)) (ci := 3) (v := .ref (q 1)) (C := RX3) (T := TX3) (N := 5) hx hb hts (fun _ h => List.mem_cons_of_mem _ (List.mem_append_left _ (List.mem_append_left _ (List.mem_append_right _ h)))) hown hK hP 0 rfl rfl 0 (by decide) (hts (.fieldLink RX3 12 "MeanLocks" "now" "LMeanLocks$Locks;") (List.mem_of_getElem? (i := 3) rfl)) (fun _ h9 => h9) rfl dX3_restore_50 ?_
  refine va_get (D := (dC, dI)) (ci := 1) (v := .int (s3 1 0)) (C := RX1) (T := TX1) (N := 16) hx hb hts (fun _ h => List.mem_cons_of_mem _ (List.mem_append_left _ (List.mem_append_right _ h))) hown hK hP 1 rfl rfl 1 (by decide) (hts (.fieldLink RX3 117 "MeanLocks$Locks" "tick" "I") (List.mem_of_getElem? (i := 4) rfl)) (fun _ h9 => h9) rfl dX3_restore_53 ?_
  refine x_PI (As := [.int (s3 1 0)]) (rest := []) (wr := wXr_H cA q s3 σW σP (wRs cA q M1 ++ wkL cA M1 (List.range 9))) (w' := wXK cA q s3 σW σP κ' M1) hC (kX0_settle l dC dI cA (q 3) (fun _ => q 6) (s3 1 0) κ (s3 1 0) κ' h2) (cwV 1 hts gX3_restore_X0_settle rfl rfl rfl (by decide +kernel) ⟨(Nat.le_of_ble_eq_true rfl), (Nat.le_of_ble_eq_true rfl)⟩) 37 0 hV hN hK hP hD hS hA (pm_H cA q s3 σW σP κ (wRs cA q M1 ++ wkL cA M1 (List.range 9))) (pm_H cA q s3 σW σP κ' (wRs cA q M1 ++ wkL cA M1 (List.range 9))).symm rfl rfl rfl rfl hl.1 rfl (Nat.le_of_ble_eq_true rfl) ⟨(Nat.le_of_ble_eq_true rfl), (Nat.le_of_ble_eq_true rfl)⟩ dX3_restore_56 (fun H locs hP hD hS => ?_)
  refine W.widen (k := 17) (n := 1303) (by omega) (by omega) ?_
  exact x_retI hC hr hlocks rfl hP hD hS dX3_restore_59 ⟨rfl, h, ad, σ1, hR1, by rw [hMv]⟩
