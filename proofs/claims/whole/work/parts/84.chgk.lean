/-! The changes: note, change, settle -/
abbrev rmX3_set : Room := { frames := 3, cells := 17, slots := 1303, locals := 90 }
set_option maxHeartbeats 4000000 in
set_option maxRecDepth 100000 in
theorem kX3_set (l : Launch) (dC : Nat → ClassId) (dI : Nat → Nat → Nat) (cA : Nat → ClassId) (q : Nat → Nat) (a1 : Int32) (a2 : Int32) (σN σW σP κ : St) (M : Mk) {A : AS} {sp : Nat} (hAN : RepL σN A) (hw : WF A) (hsp : sp < 7) (hκ : κ 1 0 = nI sp) {v : Int32} {σN' κ' : St} (h1 : fX1_change a1 a2 σN = some (v, σN')) (h2 : fX0_settle v κ = some (v, κ')) : CGIa l yX3_set wsX3_set rmX3_set 17 1303 (dC, dI) vwCl (tysW cA) [.ref (q 0), .int a1, .int a2] (wXK cA q σN σW σP κ M) (fun r u => r = v ∧ ∃ h ad σ', RepL σ' A ∧ u = wXK cA q σN' σW σP κ' (upM M sp (h, ad, σ'))) := by
  refine CGIa_of (cc := cX3_set) (nL := 3) (ret := (some .int)) (by decide) rfl (Nat.le_of_ble_eq_true rfl) ?_
  intro p e s m av below meth c A0 ls H locs hO hC hl
  obtain ⟨hC, hr, hlocks, hV, hN, hK, hP, hD, hS, hA⟩ := hC
  have hC : CallFix p m c cX3_set 3 s _ wsX3_set RX3 := hC
  obtain ⟨hx, hb, hml, hown, hts⟩ := id hC
  have hl : lv_has ls 3 [(0, .ref (q 0)), (1, .int a1), (2, .int a2)] := hl
  refine lv_aload_n hx hb dX3_set_0 rfl (lv_at hl 0 rfl) ?_
  refine va_get (D := (dC, dI)) (ci := 3) (v := .ref (q 3)) (C := RX3) (T := TX3) (N := 5) hx hb hts (fun _ h => List.mem_cons_of_mem _ (List.mem_append_left _ (List.mem_append_left _ (List.mem_append_right _ h)))) hown hK hP 0 rfl rfl 2 (by decide) (hts (.fieldLink RX3 22 "MeanLocks" "history" "LMeanLocks$History;") (List.mem_of_getElem? (i := 1) rfl)) (fun _ h9 => h9) rfl dX3_set_1 ?_
  refine lv_aload_n hx hb dX3_set_4 rfl (lv_at hl 0 rfl) ?_
  refine va_get (D := (dC, dI)) (ci := 3) (v := .ref (q 1)) (C := RX3) (T := TX3) (N := 5) hx hb hts (fun _ h => List.mem_cons_of_mem _ (List.mem_append_left _ (List.mem_append_left _ (List.mem_append_right _ h)))) hown hK hP 0 rfl rfl 0 (by decide) (hts (.fieldLink RX3 12 "MeanLocks" "now" "LMeanLocks$Locks;") (List.mem_of_getElem? (i := 2) rfl)) (fun _ h9 => h9) rfl dX3_set_5 ?_
  refine x_AV (As := [.ref (q 1)]) (rest := []) (wr := []) hC (kX0_note l dC dI cA q σN σW σP κ M hAN hw hsp hκ) (cwV 1 hts gX3_set_X0_note rfl rfl rfl (by decide +kernel) ⟨(Nat.le_of_ble_eq_true rfl), (Nat.le_of_ble_eq_true rfl)⟩) 37 0 hO hV hN hK hP hD hS hA (by rw [List.append_nil]) rfl rfl rfl rfl hl.1 rfl (Nat.le_of_ble_eq_true rfl) ⟨(Nat.le_of_ble_eq_true rfl), (Nat.le_of_ble_eq_true rfl)⟩ dX3_set_8 (fun u H locs hu hP hD hS => ?_)
  obtain ⟨h, ad, σ1, hR1, rfl⟩ := hu
  rw [List.append_nil] at hP hD
  refine lv_aload_n hx hb dX3_set_11 rfl (lv_at hl 0 rfl) ?_
  refine va_get (D := (dC, dI)) (ci := 3) (v := .ref (q 3)) (C := RX3) (T := TX3) (N := 5) hx hb hts (fun _ h => List.mem_cons_of_mem _ (List.mem_append_left _ (List.mem_append_left _ (List.mem_append_right _ h)))) hown hK hP 0 rfl rfl 2 (by decide) (hts (.fieldLink RX3 22 "MeanLocks" "history" "LMeanLocks$History;") (List.mem_of_getElem? (i := 1) rfl)) (fun _ h9 => h9) rfl dX3_set_12 ?_
  refine lv_aload_n hx hb dX3_set_15 rfl (lv_at hl 0 rfl) ?_
  refine va_get (D := (dC, dI)) (ci := 3) (v := .ref (q 1)) (C := RX3) (T := TX3) (N := 5) hx hb hts (fun _ h => List.mem_cons_of_mem _ (List.mem_append_left _ (List.mem_append_left _ (List.mem_append_right _ h)))) hown hK hP 0 rfl rfl 0 (by decide) (hts (.fieldLink RX3 12 "MeanLocks" "now" "LMeanLocks$Locks;") (List.mem_of_getElem? (i := 2) rfl)) (fun _ h9 => h9) rfl dX3_set_16 ?_
  refine lv_iload_n hx hb dX3_set_19 rfl (lv_at hl 1 rfl) ?_
  refine lv_iload_n hx hb dX3_set_20 rfl (lv_at hl 2 rfl) ?_
  refine x_PI (As := [.int a1, .int a2]) (rest := [.ref (q 3)]) (wr := wXr_N cA q σW σP κ (wRs cA q (upM M sp (h, ad, σ1)) ++ wkL cA (upM M sp (h, ad, σ1)) (List.range 9))) (w' := wXK cA q σN' σW σP κ (upM M sp (h, ad, σ1))) hC (kX1_change l dC dI cA (q 1) (fun k => q (10 + k)) a1 a2 σN v σN' h1) (cwV 2 hts gX3_set_X1_change rfl rfl rfl (by decide +kernel) ⟨(Nat.le_of_ble_eq_true rfl), (Nat.le_of_ble_eq_true rfl)⟩) 1 1 hV hN hK hP hD hS hA (pm_N cA q σN σW σP κ (wRs cA q (upM M sp (h, ad, σ1)) ++ wkL cA (upM M sp (h, ad, σ1)) (List.range 9))) (pm_N cA q σN' σW σP κ (wRs cA q (upM M sp (h, ad, σ1)) ++ wkL cA (upM M sp (h, ad, σ1)) (List.range 9))).symm rfl rfl rfl rfl hl.1 rfl (Nat.le_of_ble_eq_true rfl) ⟨(Nat.le_of_ble_eq_true rfl), (Nat.le_of_ble_eq_true rfl)⟩ dX3_set_21 (fun H locs hP hD hS => ?_)
  refine x_PI (As := [.int v]) (rest := []) (wr := wXr_H cA q σN' σW σP (wRs cA q (upM M sp (h, ad, σ1)) ++ wkL cA (upM M sp (h, ad, σ1)) (List.range 9))) (w' := wXK cA q σN' σW σP κ' (upM M sp (h, ad, σ1))) hC (kX0_settle l dC dI cA (q 3) (fun _ => q 6) v κ v κ' h2) (cwV 1 hts gX3_set_X0_settle rfl rfl rfl (by decide +kernel) ⟨(Nat.le_of_ble_eq_true rfl), (Nat.le_of_ble_eq_true rfl)⟩) 37 0 hV hN hK hP hD hS hA (pm_H cA q σN' σW σP κ (wRs cA q (upM M sp (h, ad, σ1)) ++ wkL cA (upM M sp (h, ad, σ1)) (List.range 9))) (pm_H cA q σN' σW σP κ' (wRs cA q (upM M sp (h, ad, σ1)) ++ wkL cA (upM M sp (h, ad, σ1)) (List.range 9))).symm rfl rfl rfl rfl hl.1 rfl (Nat.le_of_ble_eq_true rfl) ⟨(Nat.le_of_ble_eq_true rfl), (Nat.le_of_ble_eq_true rfl)⟩ dX3_set_24 (fun H locs hP hD hS => ?_)
  refine W.widen (k := 17) (n := 1303) (by omega) (by omega) ?_
  exact x_retI hC hr hlocks rfl hP hD hS dX3_set_27 ⟨rfl, h, ad, σ1, hR1, rfl⟩
abbrev rmX3_request : Room := { frames := 5, cells := 17, slots := 1303, locals := 140 }
set_option maxHeartbeats 4000000 in
set_option maxRecDepth 100000 in
theorem kX3_request (l : Launch) (dC : Nat → ClassId) (dI : Nat → Nat → Nat) (cA : Nat → ClassId) (q : Nat → Nat) (a1 : Int32) (a2 : Int32) (a3 : Int32) (a4 : Int32) (a5 : Int32) (σN σW σP κ : St) (M : Mk) {A : AS} {sp : Nat} (hAN : RepL σN A) (hw : WF A) (hsp : sp < 7) (hκ : κ 1 0 = nI sp) {v : Int32} {σN' κ' : St} (h1 : fX1_ask a1 a2 a3 a4 a5 σN = some (v, σN')) (h2 : fX0_settle v κ = some (v, κ')) : CGIa l yX3_request wsX3_request rmX3_request 17 1303 (dC, dI) vwCl (tysW cA) [.ref (q 0), .int a1, .int a2, .int a3, .int a4, .int a5] (wXK cA q σN σW σP κ M) (fun r u => r = v ∧ ∃ h ad σ', RepL σ' A ∧ u = wXK cA q σN' σW σP κ' (upM M sp (h, ad, σ'))) := by
  refine CGIa_of (cc := cX3_request) (nL := 6) (ret := (some .int)) (by decide) rfl (Nat.le_of_ble_eq_true rfl) ?_
  intro p e s m av below meth c A0 ls H locs hO hC hl
  obtain ⟨hC, hr, hlocks, hV, hN, hK, hP, hD, hS, hA⟩ := hC
  have hC : CallFix p m c cX3_request 6 s _ wsX3_request RX3 := hC
  obtain ⟨hx, hb, hml, hown, hts⟩ := id hC
  have hl : lv_has ls 6 [(0, .ref (q 0)), (1, .int a1), (2, .int a2), (3, .int a3), (4, .int a4), (5, .int a5)] := hl
  refine lv_aload_n hx hb dX3_request_0 rfl (lv_at hl 0 rfl) ?_
  refine va_get (D := (dC, dI)) (ci := 3) (v := .ref (q 3)) (C := RX3) (T := TX3) (N := 5) hx hb hts (fun _ h => List.mem_cons_of_mem _ (List.mem_append_left _ (List.mem_append_left _ (List.mem_append_right _ h)))) hown hK hP 0 rfl rfl 2 (by decide) (hts (.fieldLink RX3 22 "MeanLocks" "history" "LMeanLocks$History;") (List.mem_of_getElem? (i := 1) rfl)) (fun _ h9 => h9) rfl dX3_request_1 ?_
  refine lv_aload_n hx hb dX3_request_4 rfl (lv_at hl 0 rfl) ?_
  refine va_get (D := (dC, dI)) (ci := 3) (v := .ref (q 1)) (C := RX3) (T := TX3) (N := 5) hx hb hts (fun _ h => List.mem_cons_of_mem _ (List.mem_append_left _ (List.mem_append_left _ (List.mem_append_right _ h)))) hown hK hP 0 rfl rfl 0 (by decide) (hts (.fieldLink RX3 12 "MeanLocks" "now" "LMeanLocks$Locks;") (List.mem_of_getElem? (i := 2) rfl)) (fun _ h9 => h9) rfl dX3_request_5 ?_
  refine x_AV (As := [.ref (q 1)]) (rest := []) (wr := []) hC (kX0_note l dC dI cA q σN σW σP κ M hAN hw hsp hκ) (cwV 1 hts gX3_request_X0_note rfl rfl rfl (by decide +kernel) ⟨(Nat.le_of_ble_eq_true rfl), (Nat.le_of_ble_eq_true rfl)⟩) 37 0 hO hV hN hK hP hD hS hA (by rw [List.append_nil]) rfl rfl rfl rfl hl.1 rfl (Nat.le_of_ble_eq_true rfl) ⟨(Nat.le_of_ble_eq_true rfl), (Nat.le_of_ble_eq_true rfl)⟩ dX3_request_8 (fun u H locs hu hP hD hS => ?_)
  obtain ⟨h, ad, σ1, hR1, rfl⟩ := hu
  rw [List.append_nil] at hP hD
  refine lv_aload_n hx hb dX3_request_11 rfl (lv_at hl 0 rfl) ?_
  refine va_get (D := (dC, dI)) (ci := 3) (v := .ref (q 3)) (C := RX3) (T := TX3) (N := 5) hx hb hts (fun _ h => List.mem_cons_of_mem _ (List.mem_append_left _ (List.mem_append_left _ (List.mem_append_right _ h)))) hown hK hP 0 rfl rfl 2 (by decide) (hts (.fieldLink RX3 22 "MeanLocks" "history" "LMeanLocks$History;") (List.mem_of_getElem? (i := 1) rfl)) (fun _ h9 => h9) rfl dX3_request_12 ?_
  refine lv_aload_n hx hb dX3_request_15 rfl (lv_at hl 0 rfl) ?_
  refine va_get (D := (dC, dI)) (ci := 3) (v := .ref (q 1)) (C := RX3) (T := TX3) (N := 5) hx hb hts (fun _ h => List.mem_cons_of_mem _ (List.mem_append_left _ (List.mem_append_left _ (List.mem_append_right _ h)))) hown hK hP 0 rfl rfl 0 (by decide) (hts (.fieldLink RX3 12 "MeanLocks" "now" "LMeanLocks$Locks;") (List.mem_of_getElem? (i := 2) rfl)) (fun _ h9 => h9) rfl dX3_request_16 ?_
  refine lv_iload_n hx hb dX3_request_19 rfl (lv_at hl 1 rfl) ?_
  refine lv_iload_n hx hb dX3_request_20 rfl (lv_at hl 2 rfl) ?_
  refine lv_iload_n hx hb dX3_request_21 rfl (lv_at hl 3 rfl) ?_
  refine lv_iload hx hb dX3_request_22 (lv_at hl 4 rfl) ?_
  refine lv_iload hx hb dX3_request_24 (lv_at hl 5 rfl) ?_
  refine x_PI (As := [.int a1, .int a2, .int a3, .int a4, .int a5]) (rest := [.ref (q 3)]) (wr := wXr_N cA q σW σP κ (wRs cA q (upM M sp (h, ad, σ1)) ++ wkL cA (upM M sp (h, ad, σ1)) (List.range 9))) (w' := wXK cA q σN' σW σP κ (upM M sp (h, ad, σ1))) hC (kX1_ask l dC dI cA (q 1) (fun k => q (10 + k)) a1 a2 a3 a4 a5 σN v σN' h1) (cwV 5 hts gX3_request_X1_ask rfl rfl rfl (by decide +kernel) ⟨(Nat.le_of_ble_eq_true rfl), (Nat.le_of_ble_eq_true rfl)⟩) 1 1 hV hN hK hP hD hS hA (pm_N cA q σN σW σP κ (wRs cA q (upM M sp (h, ad, σ1)) ++ wkL cA (upM M sp (h, ad, σ1)) (List.range 9))) (pm_N cA q σN' σW σP κ (wRs cA q (upM M sp (h, ad, σ1)) ++ wkL cA (upM M sp (h, ad, σ1)) (List.range 9))).symm rfl rfl rfl rfl hl.1 rfl (Nat.le_of_ble_eq_true rfl) ⟨(Nat.le_of_ble_eq_true rfl), (Nat.le_of_ble_eq_true rfl)⟩ dX3_request_26 (fun H locs hP hD hS => ?_)
  refine x_PI (As := [.int v]) (rest := []) (wr := wXr_H cA q σN' σW σP (wRs cA q (upM M sp (h, ad, σ1)) ++ wkL cA (upM M sp (h, ad, σ1)) (List.range 9))) (w' := wXK cA q σN' σW σP κ' (upM M sp (h, ad, σ1))) hC (kX0_settle l dC dI cA (q 3) (fun _ => q 6) v κ v κ' h2) (cwV 1 hts gX3_request_X0_settle rfl rfl rfl (by decide +kernel) ⟨(Nat.le_of_ble_eq_true rfl), (Nat.le_of_ble_eq_true rfl)⟩) 37 0 hV hN hK hP hD hS hA (pm_H cA q σN' σW σP κ (wRs cA q (upM M sp (h, ad, σ1)) ++ wkL cA (upM M sp (h, ad, σ1)) (List.range 9))) (pm_H cA q σN' σW σP κ' (wRs cA q (upM M sp (h, ad, σ1)) ++ wkL cA (upM M sp (h, ad, σ1)) (List.range 9))).symm rfl rfl rfl rfl hl.1 rfl (Nat.le_of_ble_eq_true rfl) ⟨(Nat.le_of_ble_eq_true rfl), (Nat.le_of_ble_eq_true rfl)⟩ dX3_request_29 (fun H locs hP hD hS => ?_)
  refine W.widen (k := 17) (n := 1303) (by omega) (by omega) ?_
  exact x_retI hC hr hlocks rfl hP hD hS dX3_request_32 ⟨rfl, h, ad, σ1, hR1, rfl⟩
abbrev rmX3_free : Room := { frames := 5, cells := 17, slots := 1303, locals := 140 }
set_option maxHeartbeats 4000000 in
set_option maxRecDepth 100000 in
theorem kX3_free (l : Launch) (dC : Nat → ClassId) (dI : Nat → Nat → Nat) (cA : Nat → ClassId) (q : Nat → Nat) (a1 : Int32) (a2 : Int32) (a3 : Int32) (σN σW σP κ : St) (M : Mk) {A : AS} {sp : Nat} (hAN : RepL σN A) (hw : WF A) (hsp : sp < 7) (hκ : κ 1 0 = nI sp) {v : Int32} {σN' κ' : St} (h1 : fX1_release a1 a2 a3 σN = some (v, σN')) (h2 : fX0_settle v κ = some (v, κ')) : CGIa l yX3_free wsX3_free rmX3_free 17 1303 (dC, dI) vwCl (tysW cA) [.ref (q 0), .int a1, .int a2, .int a3] (wXK cA q σN σW σP κ M) (fun r u => r = v ∧ ∃ h ad σ', RepL σ' A ∧ u = wXK cA q σN' σW σP κ' (upM M sp (h, ad, σ'))) := by
  refine CGIa_of (cc := cX3_free) (nL := 4) (ret := (some .int)) (by decide) rfl (Nat.le_of_ble_eq_true rfl) ?_
  intro p e s m av below meth c A0 ls H locs hO hC hl
  obtain ⟨hC, hr, hlocks, hV, hN, hK, hP, hD, hS, hA⟩ := hC
  have hC : CallFix p m c cX3_free 4 s _ wsX3_free RX3 := hC
  obtain ⟨hx, hb, hml, hown, hts⟩ := id hC
  have hl : lv_has ls 4 [(0, .ref (q 0)), (1, .int a1), (2, .int a2), (3, .int a3)] := hl
  refine lv_aload_n hx hb dX3_free_0 rfl (lv_at hl 0 rfl) ?_
  refine va_get (D := (dC, dI)) (ci := 3) (v := .ref (q 3)) (C := RX3) (T := TX3) (N := 5) hx hb hts (fun _ h => List.mem_cons_of_mem _ (List.mem_append_left _ (List.mem_append_left _ (List.mem_append_right _ h)))) hown hK hP 0 rfl rfl 2 (by decide) (hts (.fieldLink RX3 22 "MeanLocks" "history" "LMeanLocks$History;") (List.mem_of_getElem? (i := 1) rfl)) (fun _ h9 => h9) rfl dX3_free_1 ?_
  refine lv_aload_n hx hb dX3_free_4 rfl (lv_at hl 0 rfl) ?_
  refine va_get (D := (dC, dI)) (ci := 3) (v := .ref (q 1)) (C := RX3) (T := TX3) (N := 5) hx hb hts (fun _ h => List.mem_cons_of_mem _ (List.mem_append_left _ (List.mem_append_left _ (List.mem_append_right _ h)))) hown hK hP 0 rfl rfl 0 (by decide) (hts (.fieldLink RX3 12 "MeanLocks" "now" "LMeanLocks$Locks;") (List.mem_of_getElem? (i := 2) rfl)) (fun _ h9 => h9) rfl dX3_free_5 ?_
  refine x_AV (As := [.ref (q 1)]) (rest := []) (wr := []) hC (kX0_note l dC dI cA q σN σW σP κ M hAN hw hsp hκ) (cwV 1 hts gX3_free_X0_note rfl rfl rfl (by decide +kernel) ⟨(Nat.le_of_ble_eq_true rfl), (Nat.le_of_ble_eq_true rfl)⟩) 37 0 hO hV hN hK hP hD hS hA (by rw [List.append_nil]) rfl rfl rfl rfl hl.1 rfl (Nat.le_of_ble_eq_true rfl) ⟨(Nat.le_of_ble_eq_true rfl), (Nat.le_of_ble_eq_true rfl)⟩ dX3_free_8 (fun u H locs hu hP hD hS => ?_)
  obtain ⟨h, ad, σ1, hR1, rfl⟩ := hu
  rw [List.append_nil] at hP hD
  refine lv_aload_n hx hb dX3_free_11 rfl (lv_at hl 0 rfl) ?_
  refine va_get (D := (dC, dI)) (ci := 3) (v := .ref (q 3)) (C := RX3) (T := TX3) (N := 5) hx hb hts (fun _ h => List.mem_cons_of_mem _ (List.mem_append_left _ (List.mem_append_left _ (List.mem_append_right _ h)))) hown hK hP 0 rfl rfl 2 (by decide) (hts (.fieldLink RX3 22 "MeanLocks" "history" "LMeanLocks$History;") (List.mem_of_getElem? (i := 1) rfl)) (fun _ h9 => h9) rfl dX3_free_12 ?_
  refine lv_aload_n hx hb dX3_free_15 rfl (lv_at hl 0 rfl) ?_
  refine va_get (D := (dC, dI)) (ci := 3) (v := .ref (q 1)) (C := RX3) (T := TX3) (N := 5) hx hb hts (fun _ h => List.mem_cons_of_mem _ (List.mem_append_left _ (List.mem_append_left _ (List.mem_append_right _ h)))) hown hK hP 0 rfl rfl 0 (by decide) (hts (.fieldLink RX3 12 "MeanLocks" "now" "LMeanLocks$Locks;") (List.mem_of_getElem? (i := 2) rfl)) (fun _ h9 => h9) rfl dX3_free_16 ?_
  refine lv_iload_n hx hb dX3_free_19 rfl (lv_at hl 1 rfl) ?_
  refine lv_iload_n hx hb dX3_free_20 rfl (lv_at hl 2 rfl) ?_
  refine lv_iload_n hx hb dX3_free_21 rfl (lv_at hl 3 rfl) ?_
  refine x_PI (As := [.int a1, .int a2, .int a3]) (rest := [.ref (q 3)]) (wr := wXr_N cA q σW σP κ (wRs cA q (upM M sp (h, ad, σ1)) ++ wkL cA (upM M sp (h, ad, σ1)) (List.range 9))) (w' := wXK cA q σN' σW σP κ (upM M sp (h, ad, σ1))) hC (kX1_release l dC dI cA (q 1) (fun k => q (10 + k)) a1 a2 a3 σN v σN' h1) (cwV 3 hts gX3_free_X1_release rfl rfl rfl (by decide +kernel) ⟨(Nat.le_of_ble_eq_true rfl), (Nat.le_of_ble_eq_true rfl)⟩) 1 1 hV hN hK hP hD hS hA (pm_N cA q σN σW σP κ (wRs cA q (upM M sp (h, ad, σ1)) ++ wkL cA (upM M sp (h, ad, σ1)) (List.range 9))) (pm_N cA q σN' σW σP κ (wRs cA q (upM M sp (h, ad, σ1)) ++ wkL cA (upM M sp (h, ad, σ1)) (List.range 9))).symm rfl rfl rfl rfl hl.1 rfl (Nat.le_of_ble_eq_true rfl) ⟨(Nat.le_of_ble_eq_true rfl), (Nat.le_of_ble_eq_true rfl)⟩ dX3_free_22 (fun H locs hP hD hS => ?_)
  refine x_PI (As := [.int v]) (rest := []) (wr := wXr_H cA q σN' σW σP (wRs cA q (upM M sp (h, ad, σ1)) ++ wkL cA (upM M sp (h, ad, σ1)) (List.range 9))) (w' := wXK cA q σN' σW σP κ' (upM M sp (h, ad, σ1))) hC (kX0_settle l dC dI cA (q 3) (fun _ => q 6) v κ v κ' h2) (cwV 1 hts gX3_free_X0_settle rfl rfl rfl (by decide +kernel) ⟨(Nat.le_of_ble_eq_true rfl), (Nat.le_of_ble_eq_true rfl)⟩) 37 0 hV hN hK hP hD hS hA (pm_H cA q σN' σW σP κ (wRs cA q (upM M sp (h, ad, σ1)) ++ wkL cA (upM M sp (h, ad, σ1)) (List.range 9))) (pm_H cA q σN' σW σP κ' (wRs cA q (upM M sp (h, ad, σ1)) ++ wkL cA (upM M sp (h, ad, σ1)) (List.range 9))).symm rfl rfl rfl rfl hl.1 rfl (Nat.le_of_ble_eq_true rfl) ⟨(Nat.le_of_ble_eq_true rfl), (Nat.le_of_ble_eq_true rfl)⟩ dX3_free_25 (fun H locs hP hD hS => ?_)
  refine W.widen (k := 17) (n := 1303) (by omega) (by omega) ?_
  exact x_retI hC hr hlocks rfl hP hD hS dX3_free_28 ⟨rfl, h, ad, σ1, hR1, rfl⟩
abbrev rmX3_cancel : Room := { frames := 5, cells := 17, slots := 1303, locals := 140 }
set_option maxHeartbeats 4000000 in
set_option maxRecDepth 100000 in
theorem kX3_cancel (l : Launch) (dC : Nat → ClassId) (dI : Nat → Nat → Nat) (cA : Nat → ClassId) (q : Nat → Nat) (a1 : Int32) (σN σW σP κ : St) (M : Mk) {A : AS} {sp : Nat} (hAN : RepL σN A) (hw : WF A) (hsp : sp < 7) (hκ : κ 1 0 = nI sp) {v : Int32} {σN' κ' : St} (h1 : fX1_withdraw a1 σN = some (v, σN')) (h2 : fX0_settle v κ = some (v, κ')) : CGIa l yX3_cancel wsX3_cancel rmX3_cancel 17 1303 (dC, dI) vwCl (tysW cA) [.ref (q 0), .int a1] (wXK cA q σN σW σP κ M) (fun r u => r = v ∧ ∃ h ad σ', RepL σ' A ∧ u = wXK cA q σN' σW σP κ' (upM M sp (h, ad, σ'))) := by
  refine CGIa_of (cc := cX3_cancel) (nL := 2) (ret := (some .int)) (by decide) rfl (Nat.le_of_ble_eq_true rfl) ?_
  intro p e s m av below meth c A0 ls H locs hO hC hl
  obtain ⟨hC, hr, hlocks, hV, hN, hK, hP, hD, hS, hA⟩ := hC
  have hC : CallFix p m c cX3_cancel 2 s _ wsX3_cancel RX3 := hC
  obtain ⟨hx, hb, hml, hown, hts⟩ := id hC
  have hl : lv_has ls 2 [(0, .ref (q 0)), (1, .int a1)] := hl
  refine lv_aload_n hx hb dX3_cancel_0 rfl (lv_at hl 0 rfl) ?_
  refine va_get (D := (dC, dI)) (ci := 3) (v := .ref (q 3)) (C := RX3) (T := TX3) (N := 5) hx hb hts (fun _ h => List.mem_cons_of_mem _ (List.mem_append_left _ (List.mem_append_left _ (List.mem_append_right _ h)))) hown hK hP 0 rfl rfl 2 (by decide) (hts (.fieldLink RX3 22 "MeanLocks" "history" "LMeanLocks$History;") (List.mem_of_getElem? (i := 1) rfl)) (fun _ h9 => h9) rfl dX3_cancel_1 ?_
  refine lv_aload_n hx hb dX3_cancel_4 rfl (lv_at hl 0 rfl) ?_
  refine va_get (D := (dC, dI)) (ci := 3) (v := .ref (q 1)) (C := RX3) (T := TX3) (N := 5) hx hb hts (fun _ h => List.mem_cons_of_mem _ (List.mem_append_left _ (List.mem_append_left _ (List.mem_append_right _ h)))) hown hK hP 0 rfl rfl 0 (by decide) (hts (.fieldLink RX3 12 "MeanLocks" "now" "LMeanLocks$Locks;") (List.mem_of_getElem? (i := 2) rfl)) (fun _ h9 => h9) rfl dX3_cancel_5 ?_
  refine x_AV (As := [.ref (q 1)]) (rest := []) (wr := []) hC (kX0_note l dC dI cA q σN σW σP κ M hAN hw hsp hκ) (cwV 1 hts gX3_cancel_X0_note rfl rfl rfl (by decide +kernel) ⟨(Nat.le_of_ble_eq_true rfl), (Nat.le_of_ble_eq_true rfl)⟩) 37 0 hO hV hN hK hP hD hS hA (by rw [List.append_nil]) rfl rfl rfl rfl hl.1 rfl (Nat.le_of_ble_eq_true rfl) ⟨(Nat.le_of_ble_eq_true rfl), (Nat.le_of_ble_eq_true rfl)⟩ dX3_cancel_8 (fun u H locs hu hP hD hS => ?_)
  obtain ⟨h, ad, σ1, hR1, rfl⟩ := hu
  rw [List.append_nil] at hP hD
  refine lv_aload_n hx hb dX3_cancel_11 rfl (lv_at hl 0 rfl) ?_
  refine va_get (D := (dC, dI)) (ci := 3) (v := .ref (q 3)) (C := RX3) (T := TX3) (N := 5) hx hb hts (fun _ h => List.mem_cons_of_mem _ (List.mem_append_left _ (List.mem_append_left _ (List.mem_append_right _ h)))) hown hK hP 0 rfl rfl 2 (by decide) (hts (.fieldLink RX3 22 "MeanLocks" "history" "LMeanLocks$History;") (List.mem_of_getElem? (i := 1) rfl)) (fun _ h9 => h9) rfl dX3_cancel_12 ?_
  refine lv_aload_n hx hb dX3_cancel_15 rfl (lv_at hl 0 rfl) ?_
  refine va_get (D := (dC, dI)) (ci := 3) (v := .ref (q 1)) (C := RX3) (T := TX3) (N := 5) hx hb hts (fun _ h => List.mem_cons_of_mem _ (List.mem_append_left _ (List.mem_append_left _ (List.mem_append_right _ h)))) hown hK hP 0 rfl rfl 0 (by decide) (hts (.fieldLink RX3 12 "MeanLocks" "now" "LMeanLocks$Locks;") (List.mem_of_getElem? (i := 2) rfl)) (fun _ h9 => h9) rfl dX3_cancel_16 ?_
  refine lv_iload_n hx hb dX3_cancel_19 rfl (lv_at hl 1 rfl) ?_
  refine x_PI (As := [.int a1]) (rest := [.ref (q 3)]) (wr := wXr_N cA q σW σP κ (wRs cA q (upM M sp (h, ad, σ1)) ++ wkL cA (upM M sp (h, ad, σ1)) (List.range 9))) (w' := wXK cA q σN' σW σP κ (upM M sp (h, ad, σ1))) hC (kX1_withdraw l dC dI cA (q 1) (fun k => q (10 + k)) a1 σN v σN' h1) (cwV 1 hts gX3_cancel_X1_withdraw rfl rfl rfl (by decide +kernel) ⟨(Nat.le_of_ble_eq_true rfl), (Nat.le_of_ble_eq_true rfl)⟩) 1 1 hV hN hK hP hD hS hA (pm_N cA q σN σW σP κ (wRs cA q (upM M sp (h, ad, σ1)) ++ wkL cA (upM M sp (h, ad, σ1)) (List.range 9))) (pm_N cA q σN' σW σP κ (wRs cA q (upM M sp (h, ad, σ1)) ++ wkL cA (upM M sp (h, ad, σ1)) (List.range 9))).symm rfl rfl rfl rfl hl.1 rfl (Nat.le_of_ble_eq_true rfl) ⟨(Nat.le_of_ble_eq_true rfl), (Nat.le_of_ble_eq_true rfl)⟩ dX3_cancel_20 (fun H locs hP hD hS => ?_)
  refine x_PI (As := [.int v]) (rest := []) (wr := wXr_H cA q σN' σW σP (wRs cA q (upM M sp (h, ad, σ1)) ++ wkL cA (upM M sp (h, ad, σ1)) (List.range 9))) (w' := wXK cA q σN' σW σP κ' (upM M sp (h, ad, σ1))) hC (kX0_settle l dC dI cA (q 3) (fun _ => q 6) v κ v κ' h2) (cwV 1 hts gX3_cancel_X0_settle rfl rfl rfl (by decide +kernel) ⟨(Nat.le_of_ble_eq_true rfl), (Nat.le_of_ble_eq_true rfl)⟩) 37 0 hV hN hK hP hD hS hA (pm_H cA q σN' σW σP κ (wRs cA q (upM M sp (h, ad, σ1)) ++ wkL cA (upM M sp (h, ad, σ1)) (List.range 9))) (pm_H cA q σN' σW σP κ' (wRs cA q (upM M sp (h, ad, σ1)) ++ wkL cA (upM M sp (h, ad, σ1)) (List.range 9))).symm rfl rfl rfl rfl hl.1 rfl (Nat.le_of_ble_eq_true rfl) ⟨(Nat.le_of_ble_eq_true rfl), (Nat.le_of_ble_eq_true rfl)⟩ dX3_cancel_23 (fun H locs hP hD hS => ?_)
  refine W.widen (k := 17) (n := 1303) (by omega) (by omega) ?_
  exact x_retI hC hr hlocks rfl hP hD hS dX3_cancel_26 ⟨rfl, h, ad, σ1, hR1, rfl⟩
abbrev rmX3_leave : Room := { frames := 5, cells := 17, slots := 1303, locals := 140 }
set_option maxHeartbeats 4000000 in
set_option maxRecDepth 100000 in
theorem kX3_leave (l : Launch) (dC : Nat → ClassId) (dI : Nat → Nat → Nat) (cA : Nat → ClassId) (q : Nat → Nat) (a1 : Int32) (σN σW σP κ : St) (M : Mk) {A : AS} {sp : Nat} (hAN : RepL σN A) (hw : WF A) (hsp : sp < 7) (hκ : κ 1 0 = nI sp) {v : Int32} {σN' κ' : St} (h1 : fX1_depart a1 σN = some (v, σN')) (h2 : fX0_settle v κ = some (v, κ')) : CGIa l yX3_leave wsX3_leave rmX3_leave 17 1303 (dC, dI) vwCl (tysW cA) [.ref (q 0), .int a1] (wXK cA q σN σW σP κ M) (fun r u => r = v ∧ ∃ h ad σ', RepL σ' A ∧ u = wXK cA q σN' σW σP κ' (upM M sp (h, ad, σ'))) := by
  refine CGIa_of (cc := cX3_leave) (nL := 2) (ret := (some .int)) (by decide) rfl (Nat.le_of_ble_eq_true rfl) ?_
  intro p e s m av below meth c A0 ls H locs hO hC hl
  obtain ⟨hC, hr, hlocks, hV, hN, hK, hP, hD, hS, hA⟩ := hC
  have hC : CallFix p m c cX3_leave 2 s _ wsX3_leave RX3 := hC
  obtain ⟨hx, hb, hml, hown, hts⟩ := id hC
  have hl : lv_has ls 2 [(0, .ref (q 0)), (1, .int a1)] := hl
  refine lv_aload_n hx hb dX3_leave_0 rfl (lv_at hl 0 rfl) ?_
  refine va_get (D := (dC, dI)) (ci := 3) (v := .ref (q 3)) (C := RX3) (T := TX3) (N := 5) hx hb hts (fun _ h => List.mem_cons_of_mem _ (List.mem_append_left _ (List.mem_append_left _ (List.mem_append_right _ h)))) hown hK hP 0 rfl rfl 2 (by decide) (hts (.fieldLink RX3 22 "MeanLocks" "history" "LMeanLocks$History;") (List.mem_of_getElem? (i := 1) rfl)) (fun _ h9 => h9) rfl dX3_leave_1 ?_
  refine lv_aload_n hx hb dX3_leave_4 rfl (lv_at hl 0 rfl) ?_
  refine va_get (D := (dC, dI)) (ci := 3) (v := .ref (q 1)) (C := RX3) (T := TX3) (N := 5) hx hb hts (fun _ h => List.mem_cons_of_mem _ (List.mem_append_left _ (List.mem_append_left _ (List.mem_append_right _ h)))) hown hK hP 0 rfl rfl 0 (by decide) (hts (.fieldLink RX3 12 "MeanLocks" "now" "LMeanLocks$Locks;") (List.mem_of_getElem? (i := 2) rfl)) (fun _ h9 => h9) rfl dX3_leave_5 ?_
  refine x_AV (As := [.ref (q 1)]) (rest := []) (wr := []) hC (kX0_note l dC dI cA q σN σW σP κ M hAN hw hsp hκ) (cwV 1 hts gX3_leave_X0_note rfl rfl rfl (by decide +kernel) ⟨(Nat.le_of_ble_eq_true rfl), (Nat.le_of_ble_eq_true rfl)⟩) 37 0 hO hV hN hK hP hD hS hA (by rw [List.append_nil]) rfl rfl rfl rfl hl.1 rfl (Nat.le_of_ble_eq_true rfl) ⟨(Nat.le_of_ble_eq_true rfl), (Nat.le_of_ble_eq_true rfl)⟩ dX3_leave_8 (fun u H locs hu hP hD hS => ?_)
  obtain ⟨h, ad, σ1, hR1, rfl⟩ := hu
  rw [List.append_nil] at hP hD
  refine lv_aload_n hx hb dX3_leave_11 rfl (lv_at hl 0 rfl) ?_
  refine va_get (D := (dC, dI)) (ci := 3) (v := .ref (q 3)) (C := RX3) (T := TX3) (N := 5) hx hb hts (fun _ h => List.mem_cons_of_mem _ (List.mem_append_left _ (List.mem_append_left _ (List.mem_append_right _ h)))) hown hK hP 0 rfl rfl 2 (by decide) (hts (.fieldLink RX3 22 "MeanLocks" "history" "LMeanLocks$History;") (List.mem_of_getElem? (i := 1) rfl)) (fun _ h9 => h9) rfl dX3_leave_12 ?_
  refine lv_aload_n hx hb dX3_leave_15 rfl (lv_at hl 0 rfl) ?_
  refine va_get (D := (dC, dI)) (ci := 3) (v := .ref (q 1)) (C := RX3) (T := TX3) (N := 5) hx hb hts (fun _ h => List.mem_cons_of_mem _ (List.mem_append_left _ (List.mem_append_left _ (List.mem_append_right _ h)))) hown hK hP 0 rfl rfl 0 (by decide) (hts (.fieldLink RX3 12 "MeanLocks" "now" "LMeanLocks$Locks;") (List.mem_of_getElem? (i := 2) rfl)) (fun _ h9 => h9) rfl dX3_leave_16 ?_
  refine lv_iload_n hx hb dX3_leave_19 rfl (lv_at hl 1 rfl) ?_
  refine x_PI (As := [.int a1]) (rest := [.ref (q 3)]) (wr := wXr_N cA q σW σP κ (wRs cA q (upM M sp (h, ad, σ1)) ++ wkL cA (upM M sp (h, ad, σ1)) (List.range 9))) (w' := wXK cA q σN' σW σP κ (upM M sp (h, ad, σ1))) hC (kX1_depart l dC dI cA (q 1) (fun k => q (10 + k)) a1 σN v σN' h1) (cwV 1 hts gX3_leave_X1_depart rfl rfl rfl (by decide +kernel) ⟨(Nat.le_of_ble_eq_true rfl), (Nat.le_of_ble_eq_true rfl)⟩) 1 1 hV hN hK hP hD hS hA (pm_N cA q σN σW σP κ (wRs cA q (upM M sp (h, ad, σ1)) ++ wkL cA (upM M sp (h, ad, σ1)) (List.range 9))) (pm_N cA q σN' σW σP κ (wRs cA q (upM M sp (h, ad, σ1)) ++ wkL cA (upM M sp (h, ad, σ1)) (List.range 9))).symm rfl rfl rfl rfl hl.1 rfl (Nat.le_of_ble_eq_true rfl) ⟨(Nat.le_of_ble_eq_true rfl), (Nat.le_of_ble_eq_true rfl)⟩ dX3_leave_20 (fun H locs hP hD hS => ?_)
  refine x_PI (As := [.int v]) (rest := []) (wr := wXr_H cA q σN' σW σP (wRs cA q (upM M sp (h, ad, σ1)) ++ wkL cA (upM M sp (h, ad, σ1)) (List.range 9))) (w' := wXK cA q σN' σW σP κ' (upM M sp (h, ad, σ1))) hC (kX0_settle l dC dI cA (q 3) (fun _ => q 6) v κ v κ' h2) (cwV 1 hts gX3_leave_X0_settle rfl rfl rfl (by decide +kernel) ⟨(Nat.le_of_ble_eq_true rfl), (Nat.le_of_ble_eq_true rfl)⟩) 37 0 hV hN hK hP hD hS hA (pm_H cA q σN' σW σP κ (wRs cA q (upM M sp (h, ad, σ1)) ++ wkL cA (upM M sp (h, ad, σ1)) (List.range 9))) (pm_H cA q σN' σW σP κ' (wRs cA q (upM M sp (h, ad, σ1)) ++ wkL cA (upM M sp (h, ad, σ1)) (List.range 9))).symm rfl rfl rfl rfl hl.1 rfl (Nat.le_of_ble_eq_true rfl) ⟨(Nat.le_of_ble_eq_true rfl), (Nat.le_of_ble_eq_true rfl)⟩ dX3_leave_23 (fun H locs hP hD hS => ?_)
  refine W.widen (k := 17) (n := 1303) (by omega) (by omega) ?_
  exact x_retI hC hr hlocks rfl hP hD hS dX3_leave_26 ⟨rfl, h, ad, σ1, hR1, rfl⟩
abbrev rmX3_ticks : Room := { frames := 5, cells := 17, slots := 1303, locals := 140 }
set_option maxHeartbeats 4000000 in
set_option maxRecDepth 100000 in
theorem kX3_ticks (l : Launch) (dC : Nat → ClassId) (dI : Nat → Nat → Nat) (cA : Nat → ClassId) (q : Nat → Nat) (a1 : Int32) (σN σW σP κ : St) (M : Mk) {A : AS} {sp : Nat} (hAN : RepL σN A) (hw : WF A) (hsp : sp < 7) (hκ : κ 1 0 = nI sp) {v : Int32} {σN' κ' : St} (h1 : fX1_pass a1 σN = some (v, σN')) (h2 : fX0_settle v κ = some (v, κ')) : CGIa l yX3_ticks wsX3_ticks rmX3_ticks 17 1303 (dC, dI) vwCl (tysW cA) [.ref (q 0), .int a1] (wXK cA q σN σW σP κ M) (fun r u => r = v ∧ ∃ h ad σ', RepL σ' A ∧ u = wXK cA q σN' σW σP κ' (upM M sp (h, ad, σ'))) := by
  refine CGIa_of (cc := cX3_ticks) (nL := 2) (ret := (some .int)) (by decide) rfl (Nat.le_of_ble_eq_true rfl) ?_
  intro p e s m av below meth c A0 ls H locs hO hC hl
  obtain ⟨hC, hr, hlocks, hV, hN, hK, hP, hD, hS, hA⟩ := hC
  have hC : CallFix p m c cX3_ticks 2 s _ wsX3_ticks RX3 := hC
  obtain ⟨hx, hb, hml, hown, hts⟩ := id hC
  have hl : lv_has ls 2 [(0, .ref (q 0)), (1, .int a1)] := hl
  refine lv_aload_n hx hb dX3_ticks_0 rfl (lv_at hl 0 rfl) ?_
  refine va_get (D := (dC, dI)) (ci := 3) (v := .ref (q 3)) (C := RX3) (T := TX3) (N := 5) hx hb hts (fun _ h => List.mem_cons_of_mem _ (List.mem_append_left _ (List.mem_append_left _ (List.mem_append_right _ h)))) hown hK hP 0 rfl rfl 2 (by decide) (hts (.fieldLink RX3 22 "MeanLocks" "history" "LMeanLocks$History;") (List.mem_of_getElem? (i := 1) rfl)) (fun _ h9 => h9) rfl dX3_ticks_1 ?_
  refine lv_aload_n hx hb dX3_ticks_4 rfl (lv_at hl 0 rfl) ?_
  refine va_get (D := (dC, dI)) (ci := 3) (v := .ref (q 1)) (C := RX3) (T := TX3) (N := 5) hx hb hts (fun _ h => List.mem_cons_of_mem _ (List.mem_append_left _ (List.mem_append_left _ (List.mem_append_right _ h)))) hown hK hP 0 rfl rfl 0 (by decide) (hts (.fieldLink RX3 12 "MeanLocks" "now" "LMeanLocks$Locks;") (List.mem_of_getElem? (i := 2) rfl)) (fun _ h9 => h9) rfl dX3_ticks_5 ?_
  refine x_AV (As := [.ref (q 1)]) (rest := []) (wr := []) hC (kX0_note l dC dI cA q σN σW σP κ M hAN hw hsp hκ) (cwV 1 hts gX3_ticks_X0_note rfl rfl rfl (by decide +kernel) ⟨(Nat.le_of_ble_eq_true rfl), (Nat.le_of_ble_eq_true rfl)⟩) 37 0 hO hV hN hK hP hD hS hA (by rw [List.append_nil]) rfl rfl rfl rfl hl.1 rfl (Nat.le_of_ble_eq_true rfl) ⟨(Nat.le_of_ble_eq_true rfl), (Nat.le_of_ble_eq_true rfl)⟩ dX3_ticks_8 (fun u H locs hu hP hD hS => ?_)
  obtain ⟨h, ad, σ1, hR1, rfl⟩ := hu
  rw [List.append_nil] at hP hD
  refine lv_aload_n hx hb dX3_ticks_11 rfl (lv_at hl 0 rfl) ?_
  refine va_get (D := (dC, dI)) (ci := 3) (v := .ref (q 3)) (C := RX3) (T := TX3) (N := 5) hx hb hts (fun _ h => List.mem_cons_of_mem _ (List.mem_append_left _ (List.mem_append_left _ (List.mem_append_right _ h)))) hown hK hP 0 rfl rfl 2 (by decide) (hts (.fieldLink RX3 22 "MeanLocks" "history" "LMeanLocks$History;") (List.mem_of_getElem? (i := 1) rfl)) (fun _ h9 => h9) rfl dX3_ticks_12 ?_
  refine lv_aload_n hx hb dX3_ticks_15 rfl (lv_at hl 0 rfl) ?_
  refine va_get (D := (dC, dI)) (ci := 3) (v := .ref (q 1)) (C := RX3) (T := TX3) (N := 5) hx hb hts (fun _ h => List.mem_cons_of_mem _ (List.mem_append_left _ (List.mem_append_left _ (List.mem_append_right _ h)))) hown hK hP 0 rfl rfl 0 (by decide) (hts (.fieldLink RX3 12 "MeanLocks" "now" "LMeanLocks$Locks;") (List.mem_of_getElem? (i := 2) rfl)) (fun _ h9 => h9) rfl dX3_ticks_16 ?_
  refine lv_iload_n hx hb dX3_ticks_19 rfl (lv_at hl 1 rfl) ?_
  refine x_PI (As := [.int a1]) (rest := [.ref (q 3)]) (wr := wXr_N cA q σW σP κ (wRs cA q (upM M sp (h, ad, σ1)) ++ wkL cA (upM M sp (h, ad, σ1)) (List.range 9))) (w' := wXK cA q σN' σW σP κ (upM M sp (h, ad, σ1))) hC (kX1_pass l dC dI cA (q 1) (fun k => q (10 + k)) a1 σN v σN' h1) (cwV 1 hts gX3_ticks_X1_pass rfl rfl rfl (by decide +kernel) ⟨(Nat.le_of_ble_eq_true rfl), (Nat.le_of_ble_eq_true rfl)⟩) 1 1 hV hN hK hP hD hS hA (pm_N cA q σN σW σP κ (wRs cA q (upM M sp (h, ad, σ1)) ++ wkL cA (upM M sp (h, ad, σ1)) (List.range 9))) (pm_N cA q σN' σW σP κ (wRs cA q (upM M sp (h, ad, σ1)) ++ wkL cA (upM M sp (h, ad, σ1)) (List.range 9))).symm rfl rfl rfl rfl hl.1 rfl (Nat.le_of_ble_eq_true rfl) ⟨(Nat.le_of_ble_eq_true rfl), (Nat.le_of_ble_eq_true rfl)⟩ dX3_ticks_20 (fun H locs hP hD hS => ?_)
  refine x_PI (As := [.int v]) (rest := []) (wr := wXr_H cA q σN' σW σP (wRs cA q (upM M sp (h, ad, σ1)) ++ wkL cA (upM M sp (h, ad, σ1)) (List.range 9))) (w' := wXK cA q σN' σW σP κ' (upM M sp (h, ad, σ1))) hC (kX0_settle l dC dI cA (q 3) (fun _ => q 6) v κ v κ' h2) (cwV 1 hts gX3_ticks_X0_settle rfl rfl rfl (by decide +kernel) ⟨(Nat.le_of_ble_eq_true rfl), (Nat.le_of_ble_eq_true rfl)⟩) 37 0 hV hN hK hP hD hS hA (pm_H cA q σN' σW σP κ (wRs cA q (upM M sp (h, ad, σ1)) ++ wkL cA (upM M sp (h, ad, σ1)) (List.range 9))) (pm_H cA q σN' σW σP κ' (wRs cA q (upM M sp (h, ad, σ1)) ++ wkL cA (upM M sp (h, ad, σ1)) (List.range 9))).symm rfl rfl rfl rfl hl.1 rfl (Nat.le_of_ble_eq_true rfl) ⟨(Nat.le_of_ble_eq_true rfl), (Nat.le_of_ble_eq_true rfl)⟩ dX3_ticks_23 (fun H locs hP hD hS => ?_)
  refine W.widen (k := 17) (n := 1303) (by omega) (by omega) ?_
  exact x_retI hC hr hlocks rfl hP hD hS dX3_ticks_26 ⟨rfl, h, ad, σ1, hR1, rfl⟩
