/-! Carrying the orders out -/
def cyB (σW κ : St) (x1 x2 x3 : Int32) (σN σP : St) : Option ((Int32 × Int32 × Int32 × St × St) ⊕ (Int32 × Int32 × Int32 × St × St)) :=
  if (80 : Int32) ≤ x3 then some (.inr (x1, x2, x3, σN, σP)) else if x2 = 0 then some (.inr (x1, x2, x3, σN, σP)) else
  bn2 (fX2_readOrder σP) fun r s => if r = 0 then some (.inl (x1, 0, x3 + 1, σN, s)) else bn2 (fX3_obey σN σW s κ) fun r2 n => if r2 < 0 then some (.inl (x1, 0, x3 + 1, n, s)) else bn2 (fX2_skip 59 s) fun r3 s2 => some (.inl (x1 + 1, r3, x3 + 1, n, s2))
abbrev rmX3_carryOut : Room := { frames := 6, cells := 17, slots := 1303, locals := 170 }
set_option maxHeartbeats 4000000 in
set_option maxRecDepth 100000 in
theorem kX3_carryOut_no (l : Launch) (dC : Nat → ClassId) (dI : Nat → Nat → Nat) (cA : Nat → ClassId) (q : Nat → Nat) (σN σW σP κ : St) (M : Mk) {r : Int32} {σP' : St} (h1 : fX2_firstFault σP = some (r, σP')) (hr6 : ¬ r = -6) : CI l yX3_carryOut wsX3_carryOut { frames := 6, cells := 0, slots := 0, locals := 170 } (dC, dI) vwCl (tysW cA) [.ref (q 0)] (wXK cA q σN σW σP κ M) (-3) (wXK cA q σN σW σP' κ M) := by
  refine CGI_of (cc := cX3_carryOut) (nL := 4) (ret := (some .int)) (by decide) rfl (Nat.le_of_ble_eq_true rfl) ?_
  intro p e s m av below meth c A0 ls H locs hC hl
  obtain ⟨hC, hr, hlocks, hV, hN, hK, hP, hD, hS, hA⟩ := hC
  have hC : CallFix p m c cX3_carryOut 4 s _ wsX3_carryOut RX3 := hC
  obtain ⟨hx, hb, hml, hown, hts⟩ := id hC
  have hl : lv_has ls 4 [(0, .ref (q 0))] := hl
  refine lv_aload_n hx hb dX3_carryOut_0 rfl (lv_at hl 0 rfl) ?_
  refine va_get (D := (dC, dI)) (ci := 3) (v := .ref (q 5)) (C := RX3) (T := TX3) (N := 5) hx hb hts (fun _ h => List.mem_cons_of_mem _ (List.mem_append_left _ (List.mem_append_left _ (List.mem_append_left _ (List.mem_append_right _ h))))) hown hK hP 0 rfl rfl 4 (by decide) (hts (.fieldLink RX3 33 "MeanLocks" "pad" "LMeanLocks$Pad;") (List.mem_of_getElem? (i := 1) rfl)) (fun _ h9 => h9) rfl dX3_carryOut_1 ?_
  refine x_PI (As := []) (rest := []) (wr := wXr_P cA q σN σW κ (wRs cA q M ++ wkL cA M (List.range 9))) (w' := wXK cA q σN σW σP' κ M) hC (kX2_firstFault l dC dI cA (q 5) (fun k => q (70 + k)) σP r σP' h1) (cwV 0 hts gX3_carryOut_X2_firstFault rfl rfl rfl (by decide +kernel) ⟨(Nat.le_of_ble_eq_true rfl), (Nat.le_of_ble_eq_true rfl)⟩) 35 2 hV hN hK hP hD hS hA (pm_P cA q σN σW σP κ (wRs cA q M ++ wkL cA M (List.range 9))) (pm_P cA q σN σW σP' κ (wRs cA q M ++ wkL cA M (List.range 9))).symm rfl rfl rfl rfl hl.1 rfl (Nat.le_of_ble_eq_true rfl) ⟨Nat.zero_le _, Nat.zero_le _⟩ dX3_carryOut_4 (fun H locs hP hD hS => ?_)
  refine lv_bipush (v := (-6 : Int32)) hx hb dX3_carryOut_7 (by decide) ?_
  refine lv_icmp_eq (tgt := 15) hx hb dX3_carryOut_9 (by decide) (fun hc => absurd hc hr6) (fun _ => ?_)
  refine lv_bipush (v := (-3 : Int32)) hx hb dX3_carryOut_12 (by decide) ?_
  exact x_retI hC hr hlocks rfl hP hD hS dX3_carryOut_14 ⟨rfl, rfl⟩
set_option maxHeartbeats 4000000 in
set_option maxRecDepth 100000 in
theorem kX3_carryOut (l : Launch) (dC : Nat → ClassId) (dI : Nat → Nat → Nat) (cA : Nat → ClassId) (q : Nat → Nat) (σN σW σP κ : St) (M : Mk) {A : AS} {sp : Nat} (hAN : RepL σN A) (hw : WF A) (hsp : sp < 7) (hκ : κ 1 0 = nI sp) {r : Int32} {σP' : St} (h1 : fX2_firstFault σP = some (r, σP')) (hr6 : r = -6) {d x2e x3e : Int32} {σN2 σP2 σP3 κ' : St} (hE : lp (fun t : (Int32 × Int32 × Int32 × St × St) => cyB σW κ t.1 t.2.1 t.2.2.1 t.2.2.2.1 t.2.2.2.2) FU ((0 : Int32), (1 : Int32), (0 : Int32), σN, put σP' 2 (fun _ => (0 : Int32))) = some (d, x2e, x3e, σN2, σP2)) {n0 : Int32} (he : fX2_erase σP2 = some (n0, σP3)) (h2 : fX0_settle d κ = some (d, κ')) : CGIa l yX3_carryOut wsX3_carryOut rmX3_carryOut 17 1303 (dC, dI) vwCl (tysW cA) [.ref (q 0)] (wXK cA q σN σW σP κ M) (fun r u => r = d ∧ ∃ h ad σ', RepL σ' A ∧ u = wXK cA q σN2 σW σP3 κ' (upM M sp (h, ad, σ'))) := by
  refine CGIa_of (cc := cX3_carryOut) (nL := 4) (ret := (some .int)) (by decide) rfl (Nat.le_of_ble_eq_true rfl) ?_
  intro p e s m av below meth c A0 ls H locs hO hC hl
  obtain ⟨hC, hr, hlocks, hV, hN, hK, hP, hD, hS, hA⟩ := hC
  have hC : CallFix p m c cX3_carryOut 4 s _ wsX3_carryOut RX3 := hC
  obtain ⟨hx, hb, hml, hown, hts⟩ := id hC
  have hl : lv_has ls 4 [(0, .ref (q 0))] := hl
  refine lv_aload_n hx hb dX3_carryOut_0 rfl (lv_at hl 0 rfl) ?_
  refine va_get (D := (dC, dI)) (ci := 3) (v := .ref (q 5)) (C := RX3) (T := TX3) (N := 5) hx hb hts (fun _ h => List.mem_cons_of_mem _ (List.mem_append_left _ (List.mem_append_left _ (List.mem_append_left _ (List.mem_append_right _ h))))) hown hK hP 0 rfl rfl 4 (by decide) (hts (.fieldLink RX3 33 "MeanLocks" "pad" "LMeanLocks$Pad;") (List.mem_of_getElem? (i := 1) rfl)) (fun _ h9 => h9) rfl dX3_carryOut_1 ?_
  refine x_PI (As := []) (rest := []) (wr := wXr_P cA q σN σW κ (wRs cA q M ++ wkL cA M (List.range 9))) (w' := wXK cA q σN σW σP' κ M) hC (kX2_firstFault l dC dI cA (q 5) (fun k => q (70 + k)) σP r σP' h1) (cwV 0 hts gX3_carryOut_X2_firstFault rfl rfl rfl (by decide +kernel) ⟨(Nat.le_of_ble_eq_true rfl), (Nat.le_of_ble_eq_true rfl)⟩) 35 2 hV hN hK hP hD hS hA (pm_P cA q σN σW σP κ (wRs cA q M ++ wkL cA M (List.range 9))) (pm_P cA q σN σW σP' κ (wRs cA q M ++ wkL cA M (List.range 9))).symm rfl rfl rfl rfl hl.1 rfl (Nat.le_of_ble_eq_true rfl) ⟨Nat.zero_le _, Nat.zero_le _⟩ dX3_carryOut_4 (fun H locs hP hD hS => ?_)
  refine lv_bipush (v := (-6 : Int32)) hx hb dX3_carryOut_7 (by decide) ?_
  refine lv_icmp_eq (tgt := 15) hx hb dX3_carryOut_9 (by decide) (fun _ => ?_) (fun hc => absurd hr6 hc)
  refine lv_aload_n hx hb dX3_carryOut_15 rfl (lv_at hl 0 rfl) ?_
  refine va_get (D := (dC, dI)) (ci := 3) (v := .ref (q 3)) (C := RX3) (T := TX3) (N := 5) hx hb hts (fun _ h => List.mem_cons_of_mem _ (List.mem_append_left _ (List.mem_append_left _ (List.mem_append_left _ (List.mem_append_right _ h))))) hown hK hP 0 rfl rfl 2 (by decide) (hts (.fieldLink RX3 22 "MeanLocks" "history" "LMeanLocks$History;") (List.mem_of_getElem? (i := 2) rfl)) (fun _ h9 => h9) rfl dX3_carryOut_16 ?_
  refine lv_aload_n hx hb dX3_carryOut_19 rfl (lv_at hl 0 rfl) ?_
  refine va_get (D := (dC, dI)) (ci := 3) (v := .ref (q 1)) (C := RX3) (T := TX3) (N := 5) hx hb hts (fun _ h => List.mem_cons_of_mem _ (List.mem_append_left _ (List.mem_append_left _ (List.mem_append_left _ (List.mem_append_right _ h))))) hown hK hP 0 rfl rfl 0 (by decide) (hts (.fieldLink RX3 12 "MeanLocks" "now" "LMeanLocks$Locks;") (List.mem_of_getElem? (i := 3) rfl)) (fun _ h9 => h9) rfl dX3_carryOut_20 ?_
  refine x_AV (As := [.ref (q 1)]) (rest := []) (wr := []) hC (kX0_note l dC dI cA q σN σW σP' κ M hAN hw hsp hκ) (cwV 1 hts gX3_carryOut_X0_note rfl rfl rfl (by decide +kernel) ⟨(Nat.le_of_ble_eq_true rfl), (Nat.le_of_ble_eq_true rfl)⟩) 37 0 hO hV hN hK hP hD hS hA (by rw [List.append_nil]) rfl rfl rfl rfl hl.1 rfl (Nat.le_of_ble_eq_true rfl) ⟨(Nat.le_of_ble_eq_true rfl), (Nat.le_of_ble_eq_true rfl)⟩ dX3_carryOut_23 (fun u H locs hu hP hD hS => ?_)
  obtain ⟨h, ad, σ1, hR1, rfl⟩ := hu
  rw [List.append_nil] at hP hD
  generalize hMv : upM M sp (h, ad, σ1) = M1 at hP hD
  refine lv_aload_n hx hb dX3_carryOut_26 rfl (lv_at hl 0 rfl) ?_
  refine va_get (D := (dC, dI)) (ci := 3) (v := .ref (q 5)) (C := RX3) (T := TX3) (N := 5) hx hb hts (fun _ h => List.mem_cons_of_mem _ (List.mem_append_left _ (List.mem_append_left _ (List.mem_append_left _ (List.mem_append_right _ h))))) hown hK hP 0 rfl rfl 4 (by decide) (hts (.fieldLink RX3 33 "MeanLocks" "pad" "LMeanLocks$Pad;") (List.mem_of_getElem? (i := 1) rfl)) (fun _ h9 => h9) rfl dX3_carryOut_27 ?_
  refine lv_iconst (v := (0 : Int32)) hx hb dX3_carryOut_30 (by decide) ?_
  refine x_put (D := (dC, dI)) (ws' := wXK cA q σN σW (put σP' 2 (fun _ => (0 : Int32))) κ M1) (ci := 2) (fs := [.ref (q 70), .int (σP' 1 0), .int (σP' 2 0), .int (σP' 3 0), .int (σP' 4 0), .int (σP' 5 0), .int (σP' 6 0), .int (σP' 7 0)]) (v := .int (0 : Int32)) (ty := .int) (C := RX2) (T := TX2) (N := 8) hC (fun _ h => List.mem_cons_of_mem _ (List.mem_append_left _ (List.mem_append_left _ (List.mem_append_right _ h)))) tyX2 tyX2_ok nmX2 hK hP hD hS 35 rfl rfl 2 (by decide) (hts (.fieldLink RX3 195 "MeanLocks$Pad" "position" "I") (List.mem_of_getElem? (i := 4) rfl)) rfl rfl rfl rfl (by decide +kernel) (Nat.le_of_ble_eq_true rfl) rfl dX3_carryOut_31 (fun H locs hP hD hS => ?_)
  refine lv_iconst (v := (0 : Int32)) hx hb dX3_carryOut_34 (by decide) ?_
  refine lv_istore_n (lv' := [(1, .int (0 : Int32)), (0, .ref (q 0))]) hx hb dX3_carryOut_35 rfl hl (by decide) rfl (fun ls hl => ?_)
  refine lv_iconst (v := (1 : Int32)) hx hb dX3_carryOut_36 (by decide) ?_
  refine lv_istore_n (lv' := [(2, .int (1 : Int32)), (1, .int (0 : Int32)), (0, .ref (q 0))]) hx hb dX3_carryOut_37 rfl hl (by decide) rfl (fun ls hl => ?_)
  refine lv_iconst (v := (0 : Int32)) hx hb dX3_carryOut_38 (by decide) ?_
  refine lv_istore_n (lv' := [(3, .int (0 : Int32)), (2, .int (1 : Int32)), (1, .int (0 : Int32)), (0, .ref (q 0))]) hx hb dX3_carryOut_39 rfl hl (by decide) rfl (fun ls hl => ?_)
  refine W.widen (k := 17) (n := 1303) (by omega) (by omega) ?_
  have KN : ∀ (H : Heap) (locs : List Loc) (ls : Array Slot), va_P (dC, dI) vwCl (wXK cA q σN2 σW σP2 κ M1) H → va_D A0 (wXK cA q σN2 σW σP2 κ M1) → va_S A0 s.heap H locs → lv_has ls 4 [(3, .int x3e), (2, .int x2e), (1, .int d), (0, .ref (q 0))] → W p l e (headSpec wsX3_carryOut rmX3_carryOut).room s m av below meth c H locs 17 1303 (MQ below (va_Qi (fun r u => r = d ∧ ∃ h ad σ', RepL σ' A ∧ u = wXK cA q σN2 σW σP3 κ' (upM M sp (h, ad, σ'))) (cWd (dC, dI) vwCl A0) A0) av s 17 1303 A0) (F0 m 96 ls []) := by
    intro H locs ls hP hD hS hl
    refine lv_aload_n hx hb dX3_carryOut_96 rfl (lv_at hl 3 rfl) ?_
    refine va_get (D := (dC, dI)) (ci := 3) (v := .ref (q 5)) (C := RX3) (T := TX3) (N := 5) hx hb hts (fun _ h => List.mem_cons_of_mem _ (List.mem_append_left _ (List.mem_append_left _ (List.mem_append_left _ (List.mem_append_right _ h))))) hown hK hP 0 rfl rfl 4 (by decide) (hts (.fieldLink RX3 33 "MeanLocks" "pad" "LMeanLocks$Pad;") (List.mem_of_getElem? (i := 1) rfl)) (fun _ h9 => h9) rfl dX3_carryOut_97 ?_
    refine x_PI (As := []) (rest := []) (wr := wXr_P cA q σN2 σW κ (wRs cA q M1 ++ wkL cA M1 (List.range 9))) (w' := wXK cA q σN2 σW σP3 κ M1) hC (kX2_erase l dC dI cA (q 5) (fun k => q (70 + k)) σP2 n0 σP3 he) (cwV 0 hts gX3_carryOut_X2_erase rfl rfl rfl (by decide +kernel) ⟨(Nat.le_of_ble_eq_true rfl), (Nat.le_of_ble_eq_true rfl)⟩) 35 2 hV hN hK hP hD hS hA (pm_P cA q σN2 σW σP2 κ (wRs cA q M1 ++ wkL cA M1 (List.range 9))) (pm_P cA q σN2 σW σP3 κ (wRs cA q M1 ++ wkL cA M1 (List.range 9))).symm rfl rfl rfl rfl hl.1 rfl (Nat.le_of_ble_eq_true rfl) ⟨(Nat.le_of_ble_eq_true rfl), (Nat.le_of_ble_eq_true rfl)⟩ dX3_carryOut_100 (fun H locs hP hD hS => ?_)
    refine lv_pop hx hb dX3_carryOut_103 rfl ?_
    refine lv_aload_n hx hb dX3_carryOut_104 rfl (lv_at hl 3 rfl) ?_
    refine va_get (D := (dC, dI)) (ci := 3) (v := .ref (q 3)) (C := RX3) (T := TX3) (N := 5) hx hb hts (fun _ h => List.mem_cons_of_mem _ (List.mem_append_left _ (List.mem_append_left _ (List.mem_append_left _ (List.mem_append_right _ h))))) hown hK hP 0 rfl rfl 2 (by decide) (hts (.fieldLink RX3 22 "MeanLocks" "history" "LMeanLocks$History;") (List.mem_of_getElem? (i := 2) rfl)) (fun _ h9 => h9) rfl dX3_carryOut_105 ?_
    refine lv_iload_n hx hb dX3_carryOut_108 rfl (lv_at hl 2 rfl) ?_
    refine x_PI (As := [.int d]) (rest := []) (wr := wXr_H cA q σN2 σW σP3 (wRs cA q M1 ++ wkL cA M1 (List.range 9))) (w' := wXK cA q σN2 σW σP3 κ' M1) hC (kX0_settle l dC dI cA (q 3) (fun _ => q 6) d κ d κ' h2) (cwV 1 hts gX3_carryOut_X0_settle rfl rfl rfl (by decide +kernel) ⟨(Nat.le_of_ble_eq_true rfl), (Nat.le_of_ble_eq_true rfl)⟩) 37 0 hV hN hK hP hD hS hA (pm_H cA q σN2 σW σP3 κ (wRs cA q M1 ++ wkL cA M1 (List.range 9))) (pm_H cA q σN2 σW σP3 κ' (wRs cA q M1 ++ wkL cA M1 (List.range 9))).symm rfl rfl rfl rfl hl.1 rfl (Nat.le_of_ble_eq_true rfl) ⟨(Nat.le_of_ble_eq_true rfl), (Nat.le_of_ble_eq_true rfl)⟩ dX3_carryOut_109 (fun H locs hP hD hS => ?_)
    exact x_retI hC hr hlocks rfl hP hD hS dX3_carryOut_112 ⟨rfl, h, ad, σ1, hR1, by rw [hMv]⟩
  have LOOP : ∀ (n : Nat) (x1 x2 x3 : Int32) (sN sP : St), lp (fun t : (Int32 × Int32 × Int32 × St × St) => cyB σW κ t.1 t.2.1 t.2.2.1 t.2.2.2.1 t.2.2.2.2) n (x1, x2, x3, sN, sP) = some (d, x2e, x3e, σN2, σP2) → ∀ (H : Heap) (locs : List Loc) (ls : Array Slot), va_P (dC, dI) vwCl (wXK cA q sN σW sP κ M1) H → va_D A0 (wXK cA q sN σW sP κ M1) → va_S A0 s.heap H locs → lv_has ls 4 [(3, .int x3), (2, .int x2), (1, .int x1), (0, .ref (q 0))] → W p l e (headSpec wsX3_carryOut rmX3_carryOut).room s m av below meth c H locs 17 1303 (MQ below (va_Qi (fun r u => r = d ∧ ∃ h ad σ', RepL σ' A ∧ u = wXK cA q σN2 σW σP3 κ' (upM M sp (h, ad, σ'))) (cWd (dC, dI) vwCl A0) A0) av s 17 1303 A0) (F0 m 40 ls []) := by
    intro n
    induction n with
    | zero => intro x1 x2 x3 sN sP h0; exact (lp_0 h0).elim
    | succ n ih =>
      intro x1 x2 x3 sN sP h0 H locs ls hP hD hS hl
      obtain ⟨z, hz, hzz⟩ := lp_s h0
      have hz : cyB σW κ x1 x2 x3 sN sP = some z := hz
      unfold cyB at hz
      refine lv_iload_n hx hb dX3_carryOut_40 rfl (lv_at hl 0 rfl) ?_
      refine lv_bipush (v := (80 : Int32)) hx hb dX3_carryOut_41 (by decide) ?_
      refine lv_icmp_ge (tgt := 96) hx hb dX3_carryOut_43 (by decide) (fun hc => ?_) (fun hc => ?_)
      · have hz := it_t hz hc
        have hq := lp_r hz hzz
        obtain ⟨e1, hq⟩ := Prod.mk.inj hq
        obtain ⟨e2, hq⟩ := Prod.mk.inj hq
        obtain ⟨e3, hq⟩ := Prod.mk.inj hq
        obtain ⟨e4, e5⟩ := Prod.mk.inj hq
        subst e1; subst e2; subst e3; subst e4; subst e5
        exact KN _ _ ls hP hD hS hl
      · have hz := it_f hz hc
        refine lv_iload_n hx hb dX3_carryOut_46 rfl (lv_at hl 1 rfl) ?_
        refine lv_if_eq (tgt := 96) hx hb dX3_carryOut_47 (by decide) (fun hc2 => ?_) (fun hc2 => ?_)
        · have hz := it_t hz hc2
          have hq := lp_r hz hzz
          obtain ⟨e1, hq⟩ := Prod.mk.inj hq
          obtain ⟨e2, hq⟩ := Prod.mk.inj hq
          obtain ⟨e3, hq⟩ := Prod.mk.inj hq
          obtain ⟨e4, e5⟩ := Prod.mk.inj hq
          subst e1; subst e2; subst e3; subst e4; subst e5
          exact KN _ _ ls hP hD hS hl
        · have hz := it_f hz hc2
          obtain ⟨r1, s5, hf1, hz⟩ := bn2_some hz
          refine lv_aload_n hx hb dX3_carryOut_50 rfl (lv_at hl 3 rfl) ?_
          refine va_get (D := (dC, dI)) (ci := 3) (v := .ref (q 5)) (C := RX3) (T := TX3) (N := 5) hx hb hts (fun _ h => List.mem_cons_of_mem _ (List.mem_append_left _ (List.mem_append_left _ (List.mem_append_left _ (List.mem_append_right _ h))))) hown hK hP 0 rfl rfl 4 (by decide) (hts (.fieldLink RX3 33 "MeanLocks" "pad" "LMeanLocks$Pad;") (List.mem_of_getElem? (i := 1) rfl)) (fun _ h9 => h9) rfl dX3_carryOut_51 ?_
          refine x_PI (As := []) (rest := []) (wr := wXr_P cA q sN σW κ (wRs cA q M1 ++ wkL cA M1 (List.range 9))) (w' := wXK cA q sN σW s5 κ M1) hC (kX2_readOrder l dC dI cA (q 5) (fun k => q (70 + k)) sP r1 s5 hf1) (cwV 0 hts gX3_carryOut_X2_readOrder rfl rfl rfl (by decide +kernel) ⟨(Nat.le_of_ble_eq_true rfl), (Nat.le_of_ble_eq_true rfl)⟩) 35 2 hV hN hK hP hD hS hA (pm_P cA q sN σW sP κ (wRs cA q M1 ++ wkL cA M1 (List.range 9))) (pm_P cA q sN σW s5 κ (wRs cA q M1 ++ wkL cA M1 (List.range 9))).symm rfl rfl rfl rfl hl.1 rfl (Nat.le_of_ble_eq_true rfl) ⟨(Nat.le_of_ble_eq_true rfl), (Nat.le_of_ble_eq_true rfl)⟩ dX3_carryOut_54 (fun H locs hP hD hS => ?_)
          refine lv_if_eq (tgt := 71) hx hb dX3_carryOut_57 (by decide) (fun hc3 => ?_) (fun hc3 => ?_)
          · have hz := it_t hz hc3
            refine lv_iconst (v := (0 : Int32)) hx hb dX3_carryOut_71 (by decide) ?_
            refine lv_istore_n (lv' := [(2, .int (0 : Int32)), (3, .int x3), (1, .int x1), (0, .ref (q 0))]) hx hb dX3_carryOut_72 rfl hl (by decide) rfl (fun ls hl => ?_)
            refine lv_iload_n hx hb dX3_carryOut_73 rfl (lv_at hl 0 rfl) ?_
            refine lv_if_eq (tgt := 90) hx hb dX3_carryOut_74 (by decide) (fun _ => ?_) (fun hc => absurd rfl hc)
            refine lv_iinc (v := x3 + 1) (lv' := [(3, .int (x3 + 1)), (2, .int (0 : Int32)), (1, .int x1), (0, .ref (q 0))]) hx hb dX3_carryOut_90 hl (k := 1) rfl rfl (by decide) rfl (fun ls hl => ?_)
            refine lv_goto (tgt := 40) hx hb dX3_carryOut_93 (by decide) ?_
            exact ih _ _ _ _ _ (lp_l hz hzz) _ _ ls hP hD hS hl
          · have hz := it_f hz hc3
            obtain ⟨r2, n5, hf2, hz⟩ := bn2_some hz
            refine lv_aload_n hx hb dX3_carryOut_60 rfl (lv_at hl 3 rfl) ?_
            refine x_VI (As := []) (rest := []) (ws' := wXK cA q n5 σW s5 κ M1) hC (kX3_obey l dC dI cA q (wRs cA q M1 ++ wkL cA M1 (List.range 9)) sN σW s5 κ r2 n5 hf2) (cwV 0 hts gX3_carryOut_X3_obey rfl rfl rfl (by decide +kernel) ⟨(Nat.le_of_ble_eq_true rfl), (Nat.le_of_ble_eq_true rfl)⟩) 0 3 hV hN hK hP hD hS hA rfl rfl rfl rfl hl.1 rfl (Nat.le_of_ble_eq_true rfl) ⟨(Nat.le_of_ble_eq_true rfl), (Nat.le_of_ble_eq_true rfl)⟩ dX3_carryOut_61 (fun H locs hP hD hS => ?_)
            refine lv_if_lt (tgt := 71) hx hb dX3_carryOut_64 (by decide) (fun hc4 => ?_) (fun hc4 => ?_)
            · have hz := it_t hz hc4
              refine lv_iconst (v := (0 : Int32)) hx hb dX3_carryOut_71 (by decide) ?_
              refine lv_istore_n (lv' := [(2, .int (0 : Int32)), (3, .int x3), (1, .int x1), (0, .ref (q 0))]) hx hb dX3_carryOut_72 rfl hl (by decide) rfl (fun ls hl => ?_)
              refine lv_iload_n hx hb dX3_carryOut_73 rfl (lv_at hl 0 rfl) ?_
              refine lv_if_eq (tgt := 90) hx hb dX3_carryOut_74 (by decide) (fun _ => ?_) (fun hc => absurd rfl hc)
              refine lv_iinc (v := x3 + 1) (lv' := [(3, .int (x3 + 1)), (2, .int (0 : Int32)), (1, .int x1), (0, .ref (q 0))]) hx hb dX3_carryOut_90 hl (k := 1) rfl rfl (by decide) rfl (fun ls hl => ?_)
              refine lv_goto (tgt := 40) hx hb dX3_carryOut_93 (by decide) ?_
              exact ih _ _ _ _ _ (lp_l hz hzz) _ _ ls hP hD hS hl
            · have hz := it_f hz hc4
              obtain ⟨r3, s6, hf3, hz⟩ := bn2_some hz
              refine lv_iconst (v := (1 : Int32)) hx hb dX3_carryOut_67 (by decide) ?_
              refine lv_goto (tgt := 72) hx hb dX3_carryOut_68 (by decide) ?_
              refine lv_istore_n (lv' := [(2, .int (1 : Int32)), (3, .int x3), (1, .int x1), (0, .ref (q 0))]) hx hb dX3_carryOut_72 rfl hl (by decide) rfl (fun ls hl => ?_)
              refine lv_iload_n hx hb dX3_carryOut_73 rfl (lv_at hl 0 rfl) ?_
              refine lv_if_eq (tgt := 90) hx hb dX3_carryOut_74 (by decide) (fun hc => absurd hc (by decide)) (fun _ => ?_)
              refine lv_iinc (v := x1 + 1) (lv' := [(1, .int (x1 + 1)), (2, .int (1 : Int32)), (3, .int x3), (0, .ref (q 0))]) hx hb dX3_carryOut_77 hl (k := 2) rfl rfl (by decide) rfl (fun ls hl => ?_)
              refine lv_aload_n hx hb dX3_carryOut_80 rfl (lv_at hl 3 rfl) ?_
              refine va_get (D := (dC, dI)) (ci := 3) (v := .ref (q 5)) (C := RX3) (T := TX3) (N := 5) hx hb hts (fun _ h => List.mem_cons_of_mem _ (List.mem_append_left _ (List.mem_append_left _ (List.mem_append_left _ (List.mem_append_right _ h))))) hown hK hP 0 rfl rfl 4 (by decide) (hts (.fieldLink RX3 33 "MeanLocks" "pad" "LMeanLocks$Pad;") (List.mem_of_getElem? (i := 1) rfl)) (fun _ h9 => h9) rfl dX3_carryOut_81 ?_
              refine lv_bipush (v := (59 : Int32)) hx hb dX3_carryOut_84 (by decide) ?_
              refine x_PI (As := [.int (59 : Int32)]) (rest := []) (wr := wXr_P cA q n5 σW κ (wRs cA q M1 ++ wkL cA M1 (List.range 9))) (w' := wXK cA q n5 σW s6 κ M1) hC (kX2_skip l dC dI cA (q 5) (fun k => q (70 + k)) 59 s5 r3 s6 hf3) (cwV 1 hts gX3_carryOut_X2_skip rfl rfl rfl (by decide +kernel) ⟨(Nat.le_of_ble_eq_true rfl), (Nat.le_of_ble_eq_true rfl)⟩) 35 2 hV hN hK hP hD hS hA (pm_P cA q n5 σW s5 κ (wRs cA q M1 ++ wkL cA M1 (List.range 9))) (pm_P cA q n5 σW s6 κ (wRs cA q M1 ++ wkL cA M1 (List.range 9))).symm rfl rfl rfl rfl hl.1 rfl (Nat.le_of_ble_eq_true rfl) ⟨(Nat.le_of_ble_eq_true rfl), (Nat.le_of_ble_eq_true rfl)⟩ dX3_carryOut_86 (fun H locs hP hD hS => ?_)
              refine lv_istore_n (lv' := [(2, .int r3), (1, .int (x1 + 1)), (3, .int x3), (0, .ref (q 0))]) hx hb dX3_carryOut_89 rfl hl (by decide) rfl (fun ls hl => ?_)
              refine lv_iinc (v := x3 + 1) (lv' := [(3, .int (x3 + 1)), (2, .int r3), (1, .int (x1 + 1)), (0, .ref (q 0))]) hx hb dX3_carryOut_90 hl (k := 2) rfl rfl (by decide) rfl (fun ls hl => ?_)
              refine lv_goto (tgt := 40) hx hb dX3_carryOut_93 (by decide) ?_
              exact ih _ _ _ _ _ (lp_l hz hzz) _ _ ls hP hD hS hl
  exact LOOP FU 0 1 0 σN _ hE _ _ ls hP hD hS hl
