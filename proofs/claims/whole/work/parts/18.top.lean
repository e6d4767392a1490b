def fX3_at (a1 : Int32) (a2 : Int32) (σN : St) (σW : St) (σP : St) (κ : St) : Option Int32 := bnd (fX3_isOwner a1) fun r1 => if (r1 : Int32) = (0 : Int32) then (some (-1 : Int32)) else (bnd (fX3_isPlace a2) fun r2 => if (r2 : Int32) = (0 : Int32) then (some (-1 : Int32)) else (bnd (fX1_kindAt a1 a2 σN) fun r3 => some r3))
abbrev rmX3_at : Room := { frames := 1, cells := 0, slots := 0, locals := 23 }
set_option maxHeartbeats 4000000 in
set_option maxRecDepth 100000 in
theorem kX3_at (l : Launch) (dC : Nat → ClassId) (dI : Nat → Nat → Nat) (cA : Nat → ClassId) (q : Nat → Nat) (rest : va_W) (a1 : Int32) (a2 : Int32) (σN : St) (σW : St) (σP : St) (κ : St) (R0 : Int32) (h0 : fX3_at a1 a2 σN σW σP κ = some R0) : CI l yX3_at wsX3_at rmX3_at (dC, dI) vwCl (tysW cA) [.ref (q 0), .int a1, .int a2] ((wX cA q σN σW σP κ rest)) R0 ((wX cA q σN σW σP κ rest)) := by
  refine CGI_of (cc := cX3_at) (nL := 3) (ret := (some .int)) (by decide) rfl (Nat.le_of_ble_eq_true rfl) ?_
  intro p e s m av below meth c A ls H locs hC hl
  obtain ⟨hC, hr, hlocks, hV, hN, hK, hP, hD, hS, hA⟩ := hC
  have hC : CallFix p m c cX3_at 3 s _ wsX3_at RX3 := hC
  obtain ⟨hx, hb, hml, hown, hts⟩ := id hC
  have hl : lv_has ls 3 [(0, .ref (q 0)), (1, .int a1), (2, .int a2)] := hl
  unfold fX3_at at h0
  refine lv_iload_n hx hb dX3_at_0 rfl (lv_at hl 1 rfl) ?_
  obtain ⟨r1, hf1, h0⟩ := bnd_some h0
  refine x_SI (As := [.int a1]) (rest := []) hC (kX3_isOwner l dC dI cA a1 r1 hf1) (cwS 1 hts gX3_at_X3_isOwner rfl rfl rfl (by decide +kernel) ⟨Nat.le_of_ble_eq_true rfl, Nat.le_of_ble_eq_true rfl⟩) hV hN hK hP hD hS hA rfl hl.1 rfl (Nat.le_of_ble_eq_true rfl) ⟨Nat.zero_le _, Nat.zero_le _⟩ dX3_at_1 (fun H locs hP hD hS => ?_)
  refine lv_if_eq (tgt := 14) hx hb dX3_at_4 (by decide) (fun hc => ?_) (fun hc => ?_)
  · have h0 := it_t h0 hc
    refine lv_iconst (v := (-1 : Int32)) hx hb dX3_at_14 (by decide) ?_
    have e1 := Option.some.inj h0
    exact x_retI hC hr hlocks rfl hP hD hS dX3_at_15 ⟨e1, rfl⟩
  · have h0 := it_f h0 hc
    refine lv_iload_n hx hb dX3_at_7 rfl (lv_at hl 2 rfl) ?_
    obtain ⟨r2, hf2, h0⟩ := bnd_some h0
    refine x_SI (As := [.int a2]) (rest := []) hC (kX3_isPlace l dC dI cA a2 r2 hf2) (cwS 1 hts gX3_at_X3_isPlace rfl rfl rfl (by decide +kernel) ⟨Nat.le_of_ble_eq_true rfl, Nat.le_of_ble_eq_true rfl⟩) hV hN hK hP hD hS hA rfl hl.1 rfl (Nat.le_of_ble_eq_true rfl) ⟨Nat.zero_le _, Nat.zero_le _⟩ dX3_at_8 (fun H locs hP hD hS => ?_)
    refine lv_if_ne (tgt := 16) hx hb dX3_at_11 (by decide) (fun hc => ?_) (fun hc => ?_)
    · have h0 := it_f h0 hc
      refine lv_aload_n hx hb dX3_at_16 rfl (lv_at hl 0 rfl) ?_
      refine va_get (D := (dC, dI)) (ci := 3) (v := .ref (q 1)) (C := RX3) (T := TX3) (N := 5) hx hb hts (fun _ h => (List.mem_cons_of_mem _ (List.mem_append_left _ (List.mem_append_right _ h)))) hown hK hP 0 rfl rfl 0 (by decide) (hts (.fieldLink RX3 12 "MeanLocks" "now" "LMeanLocks$Locks;") (List.mem_of_getElem? (i := 1) rfl)) (fun _ h9 => h9) rfl dX3_at_17 ?_
      refine lv_iload_n hx hb dX3_at_20 rfl (lv_at hl 1 rfl) ?_
      refine lv_iload_n hx hb dX3_at_21 rfl (lv_at hl 2 rfl) ?_
      obtain ⟨r3, hf3, h0⟩ := bnd_some h0
      refine x_PI (As := [.int a1, .int a2]) (rest := []) hC (kX1_kindAt l dC dI cA (q 1) (fun k => q (10 + k)) a1 a2 σN r3 hf3) (cwV 2 hts gX3_at_X1_kindAt rfl rfl rfl (by decide +kernel) ⟨Nat.le_of_ble_eq_true rfl, Nat.le_of_ble_eq_true rfl⟩) 1 1 hV hN hK hP hD hS hA (pm_N cA q σN σW σP κ rest) (pm_N cA q σN σW σP κ rest).symm rfl rfl rfl rfl hl.1 rfl (Nat.le_of_ble_eq_true rfl) ⟨Nat.zero_le _, Nat.zero_le _⟩ dX3_at_22 (fun H locs hP hD hS => ?_)
      have e1 := Option.some.inj h0
      exact x_retI hC hr hlocks rfl hP hD hS dX3_at_25 ⟨e1, rfl⟩
    · have h0 := it_t h0 hc
      refine lv_iconst (v := (-1 : Int32)) hx hb dX3_at_14 (by decide) ?_
      have e1 := Option.some.inj h0
      exact x_retI hC hr hlocks rfl hP hD hS dX3_at_15 ⟨e1, rfl⟩
def fX3_inTheWay (a1 : Int32) (a2 : Int32) (a3 : Int32) (a4 : Int32) (σN : St) (σW : St) (σP : St) (κ : St) : Option Int32 := bnd (fX3_isOwner a1) fun r1 => if (r1 : Int32) = (0 : Int32) then (some (-1 : Int32)) else (bnd (fX3_isLock a2) fun r2 => if (r2 : Int32) = (0 : Int32) then (some (-2 : Int32)) else (bnd (fX3_isRange a3 a4) fun r3 => if (r3 : Int32) = (0 : Int32) then (some (-2 : Int32)) else (bnd (fX1_inWay a1 a2 a3 a4 (σN 4 0) σN) fun r4 => some r4)))
abbrev rmX3_inTheWay : Room := { frames := 2, cells := 0, slots := 0, locals := 60 }
set_option maxHeartbeats 4000000 in
set_option maxRecDepth 100000 in
theorem kX3_inTheWay (l : Launch) (dC : Nat → ClassId) (dI : Nat → Nat → Nat) (cA : Nat → ClassId) (q : Nat → Nat) (rest : va_W) (a1 : Int32) (a2 : Int32) (a3 : Int32) (a4 : Int32) (σN : St) (σW : St) (σP : St) (κ : St) (R0 : Int32) (h0 : fX3_inTheWay a1 a2 a3 a4 σN σW σP κ = some R0) : CI l yX3_inTheWay wsX3_inTheWay rmX3_inTheWay (dC, dI) vwCl (tysW cA) [.ref (q 0), .int a1, .int a2, .int a3, .int a4] ((wX cA q σN σW σP κ rest)) R0 ((wX cA q σN σW σP κ rest)) := by
  refine CGI_of (cc := cX3_inTheWay) (nL := 5) (ret := (some .int)) (by decide) rfl (Nat.le_of_ble_eq_true rfl) ?_
  intro p e s m av below meth c A ls H locs hC hl
  obtain ⟨hC, hr, hlocks, hV, hN, hK, hP, hD, hS, hA⟩ := hC
  have hC : CallFix p m c cX3_inTheWay 5 s _ wsX3_inTheWay RX3 := hC
  obtain ⟨hx, hb, hml, hown, hts⟩ := id hC
  have hl : lv_has ls 5 [(0, .ref (q 0)), (1, .int a1), (2, .int a2), (3, .int a3), (4, .int a4)] := hl
  unfold fX3_inTheWay at h0
  refine lv_iload_n hx hb dX3_inTheWay_0 rfl (lv_at hl 1 rfl) ?_
  obtain ⟨r1, hf1, h0⟩ := bnd_some h0
  refine x_SI (As := [.int a1]) (rest := []) hC (kX3_isOwner l dC dI cA a1 r1 hf1) (cwS 1 hts gX3_inTheWay_X3_isOwner rfl rfl rfl (by decide +kernel) ⟨Nat.le_of_ble_eq_true rfl, Nat.le_of_ble_eq_true rfl⟩) hV hN hK hP hD hS hA rfl hl.1 rfl (Nat.le_of_ble_eq_true rfl) ⟨Nat.zero_le _, Nat.zero_le _⟩ dX3_inTheWay_1 (fun H locs hP hD hS => ?_)
  refine lv_if_ne (tgt := 9) hx hb dX3_inTheWay_4 (by decide) (fun hc => ?_) (fun hc => ?_)
  · have h0 := it_f h0 hc
    refine lv_iload_n hx hb dX3_inTheWay_9 rfl (lv_at hl 2 rfl) ?_
    obtain ⟨r2, hf2, h0⟩ := bnd_some h0
    refine x_SI (As := [.int a2]) (rest := []) hC (kX3_isLock l dC dI cA a2 r2 hf2) (cwS 1 hts gX3_inTheWay_X3_isLock rfl rfl rfl (by decide +kernel) ⟨Nat.le_of_ble_eq_true rfl, Nat.le_of_ble_eq_true rfl⟩) hV hN hK hP hD hS hA rfl hl.1 rfl (Nat.le_of_ble_eq_true rfl) ⟨Nat.zero_le _, Nat.zero_le _⟩ dX3_inTheWay_10 (fun H locs hP hD hS => ?_)
    refine lv_if_eq (tgt := 25) hx hb dX3_inTheWay_13 (by decide) (fun hc => ?_) (fun hc => ?_)
    · have h0 := it_t h0 hc
      refine lv_bipush (v := (-2 : Int32)) hx hb dX3_inTheWay_25 (by decide) ?_
      have e1 := Option.some.inj h0
      exact x_retI hC hr hlocks rfl hP hD hS dX3_inTheWay_27 ⟨e1, rfl⟩
    · have h0 := it_f h0 hc
      refine lv_iload_n hx hb dX3_inTheWay_16 rfl (lv_at hl 3 rfl) ?_
      refine lv_iload hx hb dX3_inTheWay_17 (lv_at hl 4 rfl) ?_
      obtain ⟨r3, hf3, h0⟩ := bnd_some h0
      refine x_SI (As := [.int a3, .int a4]) (rest := []) hC (kX3_isRange l dC dI cA a3 a4 r3 hf3) (cwS 2 hts gX3_inTheWay_X3_isRange rfl rfl rfl (by decide +kernel) ⟨Nat.le_of_ble_eq_true rfl, Nat.le_of_ble_eq_true rfl⟩) hV hN hK hP hD hS hA rfl hl.1 rfl (Nat.le_of_ble_eq_true rfl) ⟨Nat.zero_le _, Nat.zero_le _⟩ dX3_inTheWay_19 (fun H locs hP hD hS => ?_)
      refine lv_if_ne (tgt := 28) hx hb dX3_inTheWay_22 (by decide) (fun hc => ?_) (fun hc => ?_)
      · have h0 := it_f h0 hc
        refine lv_aload_n hx hb dX3_inTheWay_28 rfl (lv_at hl 0 rfl) ?_
        refine va_get (D := (dC, dI)) (ci := 3) (v := .ref (q 1)) (C := RX3) (T := TX3) (N := 5) hx hb hts (fun _ h => (List.mem_cons_of_mem _ (List.mem_append_left _ (List.mem_append_right _ h)))) hown hK hP 0 rfl rfl 0 (by decide) (hts (.fieldLink RX3 12 "MeanLocks" "now" "LMeanLocks$Locks;") (List.mem_of_getElem? (i := 1) rfl)) (fun _ h9 => h9) rfl dX3_inTheWay_29 ?_
        refine lv_iload_n hx hb dX3_inTheWay_32 rfl (lv_at hl 1 rfl) ?_
        refine lv_iload_n hx hb dX3_inTheWay_33 rfl (lv_at hl 2 rfl) ?_
        refine lv_iload_n hx hb dX3_inTheWay_34 rfl (lv_at hl 3 rfl) ?_
        refine lv_iload hx hb dX3_inTheWay_35 (lv_at hl 4 rfl) ?_
        refine lv_aload_n hx hb dX3_inTheWay_37 rfl (lv_at hl 0 rfl) ?_
        refine va_get (D := (dC, dI)) (ci := 3) (v := .ref (q 1)) (C := RX3) (T := TX3) (N := 5) hx hb hts (fun _ h => (List.mem_cons_of_mem _ (List.mem_append_left _ (List.mem_append_right _ h)))) hown hK hP 0 rfl rfl 0 (by decide) (hts (.fieldLink RX3 12 "MeanLocks" "now" "LMeanLocks$Locks;") (List.mem_of_getElem? (i := 1) rfl)) (fun _ h9 => h9) rfl dX3_inTheWay_38 ?_
        refine va_get (D := (dC, dI)) (ci := 1) (v := .int (σN 4 0)) (C := RX1) (T := TX1) (N := 16) hx hb hts (fun _ h => (List.mem_cons_of_mem _ (List.mem_append_right _ h))) hown hK hP 1 rfl rfl 4 (by decide) (hts (.fieldLink RX3 107 "MeanLocks$Locks" "waiting" "I") (List.mem_of_getElem? (i := 2) rfl)) (fun _ h9 => h9) rfl dX3_inTheWay_41 ?_
        obtain ⟨r4, hf4, h0⟩ := bnd_some h0
        refine x_PI (As := [.int a1, .int a2, .int a3, .int a4, .int (σN 4 0)]) (rest := []) hC (kX1_inWay l dC dI cA (q 1) (fun k => q (10 + k)) a1 a2 a3 a4 (σN 4 0) σN r4 hf4) (cwV 5 hts gX3_inTheWay_X1_inWay rfl rfl rfl (by decide +kernel) ⟨Nat.le_of_ble_eq_true rfl, Nat.le_of_ble_eq_true rfl⟩) 1 1 hV hN hK hP hD hS hA (pm_N cA q σN σW σP κ rest) (pm_N cA q σN σW σP κ rest).symm rfl rfl rfl rfl hl.1 rfl (Nat.le_of_ble_eq_true rfl) ⟨Nat.zero_le _, Nat.zero_le _⟩ dX3_inTheWay_44 (fun H locs hP hD hS => ?_)
        have e1 := Option.some.inj h0
        exact x_retI hC hr hlocks rfl hP hD hS dX3_inTheWay_47 ⟨e1, rfl⟩
      · have h0 := it_t h0 hc
        refine lv_bipush (v := (-2 : Int32)) hx hb dX3_inTheWay_25 (by decide) ?_
        have e1 := Option.some.inj h0
        exact x_retI hC hr hlocks rfl hP hD hS dX3_inTheWay_27 ⟨e1, rfl⟩
  · have h0 := it_t h0 hc
    refine lv_iconst (v := (-1 : Int32)) hx hb dX3_inTheWay_7 (by decide) ?_
    have e1 := Option.some.inj h0
    exact x_retI hC hr hlocks rfl hP hD hS dX3_inTheWay_8 ⟨e1, rfl⟩
def fX3_couldGive (a1 : Int32) (a2 : Int32) (a3 : Int32) (a4 : Int32) (σN : St) (σW : St) (σP : St) (κ : St) : Option Int32 := bnd (fX3_inTheWay a1 a2 a3 a4 σN σW σP κ) fun r1 => if (0 : Int32) ≤ r1 then (if (r1 : Int32) = (0 : Int32) then (some (1 : Int32)) else (some (0 : Int32))) else (some r1)
abbrev rmX3_couldGive : Room := { frames := 3, cells := 0, slots := 0, locals := 84 }
set_option maxHeartbeats 4000000 in
set_option maxRecDepth 100000 in
theorem kX3_couldGive (l : Launch) (dC : Nat → ClassId) (dI : Nat → Nat → Nat) (cA : Nat → ClassId) (q : Nat → Nat) (rest : va_W) (a1 : Int32) (a2 : Int32) (a3 : Int32) (a4 : Int32) (σN : St) (σW : St) (σP : St) (κ : St) (R0 : Int32) (h0 : fX3_couldGive a1 a2 a3 a4 σN σW σP κ = some R0) : CI l yX3_couldGive wsX3_couldGive rmX3_couldGive (dC, dI) vwCl (tysW cA) [.ref (q 0), .int a1, .int a2, .int a3, .int a4] ((wX cA q σN σW σP κ rest)) R0 ((wX cA q σN σW σP κ rest)) := by
  refine CGI_of (cc := cX3_couldGive) (nL := 6) (ret := (some .int)) (by decide) rfl (Nat.le_of_ble_eq_true rfl) ?_
  intro p e s m av below meth c A ls H locs hC hl
  obtain ⟨hC, hr, hlocks, hV, hN, hK, hP, hD, hS, hA⟩ := hC
  have hC : CallFix p m c cX3_couldGive 6 s _ wsX3_couldGive RX3 := hC
  obtain ⟨hx, hb, hml, hown, hts⟩ := id hC
  have hl : lv_has ls 6 [(0, .ref (q 0)), (1, .int a1), (2, .int a2), (3, .int a3), (4, .int a4)] := hl
  unfold fX3_couldGive at h0
  refine lv_aload_n hx hb dX3_couldGive_0 rfl (lv_at hl 0 rfl) ?_
  refine lv_iload_n hx hb dX3_couldGive_1 rfl (lv_at hl 1 rfl) ?_
  refine lv_iload_n hx hb dX3_couldGive_2 rfl (lv_at hl 2 rfl) ?_
  refine lv_iload_n hx hb dX3_couldGive_3 rfl (lv_at hl 3 rfl) ?_
  refine lv_iload hx hb dX3_couldGive_4 (lv_at hl 4 rfl) ?_
  obtain ⟨r1, hf1, h0⟩ := bnd_some h0
  refine x_VI (As := [.int a1, .int a2, .int a3, .int a4]) (rest := []) hC (kX3_inTheWay l dC dI cA q rest a1 a2 a3 a4 σN σW σP κ r1 hf1) (cwV 4 hts gX3_couldGive_X3_inTheWay rfl rfl rfl (by decide +kernel) ⟨Nat.le_of_ble_eq_true rfl, Nat.le_of_ble_eq_true rfl⟩) 0 3 hV hN hK hP hD hS hA rfl rfl rfl rfl hl.1 rfl (Nat.le_of_ble_eq_true rfl) ⟨Nat.zero_le _, Nat.zero_le _⟩ dX3_couldGive_6 (fun H locs hP hD hS => ?_)
  refine lv_istore (lv' := [(5, .int r1), (0, .ref (q 0)), (1, .int a1), (2, .int a2), (3, .int a3), (4, .int a4)]) hx hb dX3_couldGive_9 hl (by decide) rfl (fun ls hl => ?_)
  refine lv_iload hx hb dX3_couldGive_11 (lv_at hl 0 rfl) ?_
  refine lv_if_ge (tgt := 19) hx hb dX3_couldGive_13 (by decide) (fun hc => ?_) (fun hc => ?_)
  · have h0 := it_t h0 hc
    refine lv_iload hx hb dX3_couldGive_19 (lv_at hl 0 rfl) ?_
    refine lv_if_ne (tgt := 28) hx hb dX3_couldGive_21 (by decide) (fun hc => ?_) (fun hc => ?_)
    · have h0 := it_f h0 hc
      refine lv_iconst (v := (0 : Int32)) hx hb dX3_couldGive_28 (by decide) ?_
      have e1 := Option.some.inj h0
      exact x_retI hC hr hlocks rfl hP hD hS dX3_couldGive_29 ⟨e1, rfl⟩
    · have h0 := it_t h0 hc
      refine lv_iconst (v := (1 : Int32)) hx hb dX3_couldGive_24 (by decide) ?_
      refine lv_goto (tgt := 29) hx hb dX3_couldGive_25 (by decide) ?_
      have e1 := Option.some.inj h0
      exact x_retI hC hr hlocks rfl hP hD hS dX3_couldGive_29 ⟨e1, rfl⟩
  · have h0 := it_f h0 hc
    refine lv_iload hx hb dX3_couldGive_16 (lv_at hl 0 rfl) ?_
    have e1 := Option.some.inj h0
    exact x_retI hC hr hlocks rfl hP hD hS dX3_couldGive_18 ⟨e1, rfl⟩
def fX3_couldLock (a1 : Int32) (a2 : Int32) (a3 : Int32) (σN : St) (σW : St) (σP : St) (κ : St) : Option Int32 := bnd (fX1_inWay a1 a2 a3 (a3 + (1 : Int32)) (σN 4 0) σN) fun r1 => if (r1 : Int32) = (0 : Int32) then (some (1 : Int32)) else (some (0 : Int32))
abbrev rmX3_couldLock : Room := { frames := 2, cells := 0, slots := 0, locals := 60 }
set_option maxHeartbeats 4000000 in
set_option maxRecDepth 100000 in
theorem kX3_couldLock (l : Launch) (dC : Nat → ClassId) (dI : Nat → Nat → Nat) (cA : Nat → ClassId) (q : Nat → Nat) (rest : va_W) (a1 : Int32) (a2 : Int32) (a3 : Int32) (σN : St) (σW : St) (σP : St) (κ : St) (R0 : Int32) (h0 : fX3_couldLock a1 a2 a3 σN σW σP κ = some R0) : CI l yX3_couldLock wsX3_couldLock rmX3_couldLock (dC, dI) vwCl (tysW cA) [.ref (q 0), .int a1, .int a2, .int a3] ((wX cA q σN σW σP κ rest)) R0 ((wX cA q σN σW σP κ rest)) := by
  refine CGI_of (cc := cX3_couldLock) (nL := 4) (ret := (some .boolean)) (by decide) rfl (Nat.le_of_ble_eq_true rfl) ?_
  intro p e s m av below meth c A ls H locs hC hl
  obtain ⟨hC, hr, hlocks, hV, hN, hK, hP, hD, hS, hA⟩ := hC
  have hC : CallFix p m c cX3_couldLock 4 s _ wsX3_couldLock RX3 := hC
  obtain ⟨hx, hb, hml, hown, hts⟩ := id hC
  have hl : lv_has ls 4 [(0, .ref (q 0)), (1, .int a1), (2, .int a2), (3, .int a3)] := hl
  unfold fX3_couldLock at h0
  refine lv_aload_n hx hb dX3_couldLock_0 rfl (lv_at hl 0 rfl) ?_
  refine va_get (D := (dC, dI)) (ci := 3) (v := .ref (q 1)) (C := RX3) (T := TX3) (N := 5) hx hb hts (fun _ h => (List.mem_cons_of_mem _ (List.mem_append_left _ (List.mem_append_right _ h)))) hown hK hP 0 rfl rfl 0 (by decide) (hts (.fieldLink RX3 12 "MeanLocks" "now" "LMeanLocks$Locks;") (List.mem_of_getElem? (i := 1) rfl)) (fun _ h9 => h9) rfl dX3_couldLock_1 ?_
  refine lv_iload_n hx hb dX3_couldLock_4 rfl (lv_at hl 1 rfl) ?_
  refine lv_iload_n hx hb dX3_couldLock_5 rfl (lv_at hl 2 rfl) ?_
  refine lv_iload_n hx hb dX3_couldLock_6 rfl (lv_at hl 3 rfl) ?_
  refine lv_iload_n hx hb dX3_couldLock_7 rfl (lv_at hl 3 rfl) ?_
  refine lv_iconst (v := (1 : Int32)) hx hb dX3_couldLock_8 (by decide) ?_
  refine lv_iadd hx hb dX3_couldLock_9 ?_
  refine lv_aload_n hx hb dX3_couldLock_10 rfl (lv_at hl 0 rfl) ?_
  refine va_get (D := (dC, dI)) (ci := 3) (v := .ref (q 1)) (C := RX3) (T := TX3) (N := 5) hx hb hts (fun _ h => (List.mem_cons_of_mem _ (List.mem_append_left _ (List.mem_append_right _ h)))) hown hK hP 0 rfl rfl 0 (by decide) (hts (.fieldLink RX3 12 "MeanLocks" "now" "LMeanLocks$Locks;") (List.mem_of_getElem? (i := 1) rfl)) (fun _ h9 => h9) rfl dX3_couldLock_11 ?_
  refine va_get (D := (dC, dI)) (ci := 1) (v := .int (σN 4 0)) (C := RX1) (T := TX1) (N := 16) hx hb hts (fun _ h => (List.mem_cons_of_mem _ (List.mem_append_right _ h))) hown hK hP 1 rfl rfl 4 (by decide) (hts (.fieldLink RX3 107 "MeanLocks$Locks" "waiting" "I") (List.mem_of_getElem? (i := 2) rfl)) (fun _ h9 => h9) rfl dX3_couldLock_14 ?_
  obtain ⟨r1, hf1, h0⟩ := bnd_some h0
  refine x_PI (As := [.int a1, .int a2, .int a3, .int (a3 + (1 : Int32)), .int (σN 4 0)]) (rest := []) hC (kX1_inWay l dC dI cA (q 1) (fun k => q (10 + k)) a1 a2 a3 (a3 + (1 : Int32)) (σN 4 0) σN r1 hf1) (cwV 5 hts gX3_couldLock_X1_inWay rfl rfl rfl (by decide +kernel) ⟨Nat.le_of_ble_eq_true rfl, Nat.le_of_ble_eq_true rfl⟩) 1 1 hV hN hK hP hD hS hA (pm_N cA q σN σW σP κ rest) (pm_N cA q σN σW σP κ rest).symm rfl rfl rfl rfl hl.1 rfl (Nat.le_of_ble_eq_true rfl) ⟨Nat.zero_le _, Nat.zero_le _⟩ dX3_couldLock_17 (fun H locs hP hD hS => ?_)
  refine lv_if_ne (tgt := 27) hx hb dX3_couldLock_20 (by decide) (fun hc => ?_) (fun hc => ?_)
  · have h0 := it_f h0 hc
    refine lv_iconst (v := (0 : Int32)) hx hb dX3_couldLock_27 (by decide) ?_
    have e1 := Option.some.inj h0
    exact x_retI hC hr hlocks rfl hP hD hS dX3_couldLock_28 ⟨e1, rfl⟩
  · have h0 := it_t h0 hc
    refine lv_iconst (v := (1 : Int32)) hx hb dX3_couldLock_23 (by decide) ?_
    refine lv_goto (tgt := 28) hx hb dX3_couldLock_24 (by decide) ?_
    have e1 := Option.some.inj h0
    exact x_retI hC hr hlocks rfl hP hD hS dX3_couldLock_28 ⟨e1, rfl⟩
def fX3_count (a1 : Int32) (σN : St) (σW : St) (σP : St) (κ : St) : Option Int32 := if (a1 : Int32) = (0 : Int32) then (some (σN 1 0)) else (if (a1 : Int32) = (1 : Int32) then (some (σN 4 0)) else (if (a1 : Int32) = (2 : Int32) then (bnd (fX1_placesLocked  σN) fun r1 => some r1) else (if (a1 : Int32) = (3 : Int32) then (ax (0 : Int32) 3 (some (σN 0 ((0 : Int32) : Int32).toNatClampNeg))) else (if (a1 : Int32) = (4 : Int32) then (ax (1 : Int32) 3 (some (σN 0 ((1 : Int32) : Int32).toNatClampNeg))) else (if (a1 : Int32) = (5 : Int32) then (ax (2 : Int32) 3 (some (σN 0 ((2 : Int32) : Int32).toNatClampNeg))) else (if (a1 : Int32) = (6 : Int32) then (bnd (fX1_allGiven  σN) fun r2 => some r2) else (if (a1 : Int32) = (7 : Int32) then (some (σN 13 0)) else (if (a1 : Int32) = (8 : Int32) then (some (σN 14 0)) else (if (a1 : Int32) = (9 : Int32) then (some (σP 1 0)) else (if (a1 : Int32) = (10 : Int32) then (some (κ 2 0)) else (some (-2 : Int32))))))))))))
abbrev rmX3_count : Room := { frames := 1, cells := 0, slots := 0, locals := 22 }
set_option maxHeartbeats 4000000 in
set_option maxRecDepth 100000 in
theorem kX3_count (l : Launch) (dC : Nat → ClassId) (dI : Nat → Nat → Nat) (cA : Nat → ClassId) (q : Nat → Nat) (rest : va_W) (a1 : Int32) (σN : St) (σW : St) (σP : St) (κ : St) (R0 : Int32) (h0 : fX3_count a1 σN σW σP κ = some R0) : CI l yX3_count wsX3_count rmX3_count (dC, dI) vwCl (tysW cA) [.ref (q 0), .int a1] ((wX cA q σN σW σP κ rest)) R0 ((wX cA q σN σW σP κ rest)) := by
  refine CGI_of (cc := cX3_count) (nL := 2) (ret := (some .int)) (by decide) rfl (Nat.le_of_ble_eq_true rfl) ?_
  intro p e s m av below meth c A ls H locs hC hl
  obtain ⟨hC, hr, hlocks, hV, hN, hK, hP, hD, hS, hA⟩ := hC
  have hC : CallFix p m c cX3_count 2 s _ wsX3_count RX3 := hC
  obtain ⟨hx, hb, hml, hown, hts⟩ := id hC
  have hl : lv_has ls 2 [(0, .ref (q 0)), (1, .int a1)] := hl
  unfold fX3_count at h0
  refine lv_iload_n hx hb dX3_count_0 rfl (lv_at hl 1 rfl) ?_
  by_cases hq0 : (a1 : Int32) = (0 : Int32)
  · have h0 := it_t h0 hq0
    refine lv_tableIn (tgt := 60) hx hb dX3_count_1 (by rw [hq0]; decide) (by rw [hq0]; decide) (off := 59) (by rw [hq0]; rfl) (by decide) ?_
    refine lv_aload_n hx hb dX3_count_60 rfl (lv_at hl 0 rfl) ?_
    refine va_get (D := (dC, dI)) (ci := 3) (v := .ref (q 1)) (C := RX3) (T := TX3) (N := 5) hx hb hts (fun _ h => (List.mem_cons_of_mem _ (List.mem_append_left _ (List.mem_append_left _ (List.mem_append_left _ (List.mem_append_right _ h)))))) hown hK hP 0 rfl rfl 0 (by decide) (hts (.fieldLink RX3 12 "MeanLocks" "now" "LMeanLocks$Locks;") (List.mem_of_getElem? (i := 1) rfl)) (fun _ h9 => h9) rfl dX3_count_61 ?_
    refine va_get (D := (dC, dI)) (ci := 1) (v := .int (σN 1 0)) (C := RX1) (T := TX1) (N := 16) hx hb hts (fun _ h => (List.mem_cons_of_mem _ (List.mem_append_left _ (List.mem_append_left _ (List.mem_append_right _ h))))) hown hK hP 1 rfl rfl 1 (by decide) (hts (.fieldLink RX3 117 "MeanLocks$Locks" "tick" "I") (List.mem_of_getElem? (i := 2) rfl)) (fun _ h9 => h9) rfl dX3_count_64 ?_
    have e1 := Option.some.inj h0
    exact x_retI hC hr hlocks rfl hP hD hS dX3_count_67 ⟨e1, rfl⟩
  have h0 := it_f h0 hq0
  by_cases hq1 : (a1 : Int32) = (1 : Int32)
  · have h0 := it_t h0 hq1
    refine lv_tableIn (tgt := 68) hx hb dX3_count_1 (by rw [hq1]; decide) (by rw [hq1]; decide) (off := 67) (by rw [hq1]; rfl) (by decide) ?_
    refine lv_aload_n hx hb dX3_count_68 rfl (lv_at hl 0 rfl) ?_
    refine va_get (D := (dC, dI)) (ci := 3) (v := .ref (q 1)) (C := RX3) (T := TX3) (N := 5) hx hb hts (fun _ h => (List.mem_cons_of_mem _ (List.mem_append_left _ (List.mem_append_left _ (List.mem_append_left _ (List.mem_append_right _ h)))))) hown hK hP 0 rfl rfl 0 (by decide) (hts (.fieldLink RX3 12 "MeanLocks" "now" "LMeanLocks$Locks;") (List.mem_of_getElem? (i := 1) rfl)) (fun _ h9 => h9) rfl dX3_count_69 ?_
    refine va_get (D := (dC, dI)) (ci := 1) (v := .int (σN 4 0)) (C := RX1) (T := TX1) (N := 16) hx hb hts (fun _ h => (List.mem_cons_of_mem _ (List.mem_append_left _ (List.mem_append_left _ (List.mem_append_right _ h))))) hown hK hP 1 rfl rfl 4 (by decide) (hts (.fieldLink RX3 107 "MeanLocks$Locks" "waiting" "I") (List.mem_of_getElem? (i := 3) rfl)) (fun _ h9 => h9) rfl dX3_count_72 ?_
    have e1 := Option.some.inj h0
    exact x_retI hC hr hlocks rfl hP hD hS dX3_count_75 ⟨e1, rfl⟩
  have h0 := it_f h0 hq1
  by_cases hq2 : (a1 : Int32) = (2 : Int32)
  · have h0 := it_t h0 hq2
    refine lv_tableIn (tgt := 76) hx hb dX3_count_1 (by rw [hq2]; decide) (by rw [hq2]; decide) (off := 75) (by rw [hq2]; rfl) (by decide) ?_
    refine lv_aload_n hx hb dX3_count_76 rfl (lv_at hl 0 rfl) ?_
    refine va_get (D := (dC, dI)) (ci := 3) (v := .ref (q 1)) (C := RX3) (T := TX3) (N := 5) hx hb hts (fun _ h => (List.mem_cons_of_mem _ (List.mem_append_left _ (List.mem_append_left _ (List.mem_append_left _ (List.mem_append_right _ h)))))) hown hK hP 0 rfl rfl 0 (by decide) (hts (.fieldLink RX3 12 "MeanLocks" "now" "LMeanLocks$Locks;") (List.mem_of_getElem? (i := 1) rfl)) (fun _ h9 => h9) rfl dX3_count_77 ?_
    obtain ⟨r1, hf1, h0⟩ := bnd_some h0
    refine x_PI (As := []) (rest := []) hC (kX1_placesLocked l dC dI cA (q 1) (fun k => q (10 + k)) σN r1 hf1) (cwV 0 hts gX3_count_X1_placesLocked rfl rfl rfl (by decide +kernel) ⟨Nat.le_of_ble_eq_true rfl, Nat.le_of_ble_eq_true rfl⟩) 1 1 hV hN hK hP hD hS hA (pm_N cA q σN σW σP κ rest) (pm_N cA q σN σW σP κ rest).symm rfl rfl rfl rfl hl.1 rfl (Nat.le_of_ble_eq_true rfl) ⟨Nat.zero_le _, Nat.zero_le _⟩ dX3_count_80 (fun H locs hP hD hS => ?_)
    have e1 := Option.some.inj h0
    exact x_retI hC hr hlocks rfl hP hD hS dX3_count_83 ⟨e1, rfl⟩
  have h0 := it_f h0 hq2
  by_cases hq3 : (a1 : Int32) = (3 : Int32)
  · have h0 := it_t h0 hq3
    refine lv_tableIn (tgt := 84) hx hb dX3_count_1 (by rw [hq3]; decide) (by rw [hq3]; decide) (off := 83) (by rw [hq3]; rfl) (by decide) ?_
    refine lv_aload_n hx hb dX3_count_84 rfl (lv_at hl 0 rfl) ?_
    refine va_get (D := (dC, dI)) (ci := 3) (v := .ref (q 1)) (C := RX3) (T := TX3) (N := 5) hx hb hts (fun _ h => (List.mem_cons_of_mem _ (List.mem_append_left _ (List.mem_append_left _ (List.mem_append_left _ (List.mem_append_right _ h)))))) hown hK hP 0 rfl rfl 0 (by decide) (hts (.fieldLink RX3 12 "MeanLocks" "now" "LMeanLocks$Locks;") (List.mem_of_getElem? (i := 1) rfl)) (fun _ h9 => h9) rfl dX3_count_85 ?_
    refine va_get (D := (dC, dI)) (ci := 1) (v := .ref (q (10 + 0))) (C := RX1) (T := TX1) (N := 16) hx hb hts (fun _ h => (List.mem_cons_of_mem _ (List.mem_append_left _ (List.mem_append_left _ (List.mem_append_right _ h))))) hown hK hP 1 rfl rfl 0 (by decide) (hts (.fieldLink RX3 37 "MeanLocks$Locks" "settings" "[I") (List.mem_of_getElem? (i := 4) rfl)) (fun _ h9 => h9) rfl dX3_count_88 ?_
    refine lv_iconst (v := (0 : Int32)) hx hb dX3_count_91 (by decide) ?_
    obtain ⟨hi, h0⟩ := ax_some h0
    refine va_iald hx hb hK hP 2 0 rfl rfl hi dX3_count_92 ?_
    have e1 := Option.some.inj h0
    exact x_retI hC hr hlocks rfl hP hD hS dX3_count_93 ⟨e1, rfl⟩
  have h0 := it_f h0 hq3
  by_cases hq4 : (a1 : Int32) = (4 : Int32)
  · have h0 := it_t h0 hq4
    refine lv_tableIn (tgt := 94) hx hb dX3_count_1 (by rw [hq4]; decide) (by rw [hq4]; decide) (off := 93) (by rw [hq4]; rfl) (by decide) ?_
    refine lv_aload_n hx hb dX3_count_94 rfl (lv_at hl 0 rfl) ?_
    refine va_get (D := (dC, dI)) (ci := 3) (v := .ref (q 1)) (C := RX3) (T := TX3) (N := 5) hx hb hts (fun _ h => (List.mem_cons_of_mem _ (List.mem_append_left _ (List.mem_append_left _ (List.mem_append_left _ (List.mem_append_right _ h)))))) hown hK hP 0 rfl rfl 0 (by decide) (hts (.fieldLink RX3 12 "MeanLocks" "now" "LMeanLocks$Locks;") (List.mem_of_getElem? (i := 1) rfl)) (fun _ h9 => h9) rfl dX3_count_95 ?_
    refine va_get (D := (dC, dI)) (ci := 1) (v := .ref (q (10 + 0))) (C := RX1) (T := TX1) (N := 16) hx hb hts (fun _ h => (List.mem_cons_of_mem _ (List.mem_append_left _ (List.mem_append_left _ (List.mem_append_right _ h))))) hown hK hP 1 rfl rfl 0 (by decide) (hts (.fieldLink RX3 37 "MeanLocks$Locks" "settings" "[I") (List.mem_of_getElem? (i := 4) rfl)) (fun _ h9 => h9) rfl dX3_count_98 ?_
    refine lv_iconst (v := (1 : Int32)) hx hb dX3_count_101 (by decide) ?_
    obtain ⟨hi, h0⟩ := ax_some h0
    refine va_iald hx hb hK hP 2 0 rfl rfl hi dX3_count_102 ?_
    have e1 := Option.some.inj h0
    exact x_retI hC hr hlocks rfl hP hD hS dX3_count_103 ⟨e1, rfl⟩
  have h0 := it_f h0 hq4
  by_cases hq5 : (a1 : Int32) = (5 : Int32)
  · have h0 := it_t h0 hq5
    refine lv_tableIn (tgt := 104) hx hb dX3_count_1 (by rw [hq5]; decide) (by rw [hq5]; decide) (off := 103) (by rw [hq5]; rfl) (by decide) ?_
    refine lv_aload_n hx hb dX3_count_104 rfl (lv_at hl 0 rfl) ?_
    refine va_get (D := (dC, dI)) (ci := 3) (v := .ref (q 1)) (C := RX3) (T := TX3) (N := 5) hx hb hts (fun _ h => (List.mem_cons_of_mem _ (List.mem_append_left _ (List.mem_append_left _ (List.mem_append_left _ (List.mem_append_right _ h)))))) hown hK hP 0 rfl rfl 0 (by decide) (hts (.fieldLink RX3 12 "MeanLocks" "now" "LMeanLocks$Locks;") (List.mem_of_getElem? (i := 1) rfl)) (fun _ h9 => h9) rfl dX3_count_105 ?_
    refine va_get (D := (dC, dI)) (ci := 1) (v := .ref (q (10 + 0))) (C := RX1) (T := TX1) (N := 16) hx hb hts (fun _ h => (List.mem_cons_of_mem _ (List.mem_append_left _ (List.mem_append_left _ (List.mem_append_right _ h))))) hown hK hP 1 rfl rfl 0 (by decide) (hts (.fieldLink RX3 37 "MeanLocks$Locks" "settings" "[I") (List.mem_of_getElem? (i := 4) rfl)) (fun _ h9 => h9) rfl dX3_count_108 ?_
    refine lv_iconst (v := (2 : Int32)) hx hb dX3_count_111 (by decide) ?_
    obtain ⟨hi, h0⟩ := ax_some h0
    refine va_iald hx hb hK hP 2 0 rfl rfl hi dX3_count_112 ?_
    have e1 := Option.some.inj h0
    exact x_retI hC hr hlocks rfl hP hD hS dX3_count_113 ⟨e1, rfl⟩
  have h0 := it_f h0 hq5
  by_cases hq6 : (a1 : Int32) = (6 : Int32)
  · have h0 := it_t h0 hq6
    refine lv_tableIn (tgt := 114) hx hb dX3_count_1 (by rw [hq6]; decide) (by rw [hq6]; decide) (off := 113) (by rw [hq6]; rfl) (by decide) ?_
    refine lv_aload_n hx hb dX3_count_114 rfl (lv_at hl 0 rfl) ?_
    refine va_get (D := (dC, dI)) (ci := 3) (v := .ref (q 1)) (C := RX3) (T := TX3) (N := 5) hx hb hts (fun _ h => (List.mem_cons_of_mem _ (List.mem_append_left _ (List.mem_append_left _ (List.mem_append_left _ (List.mem_append_right _ h)))))) hown hK hP 0 rfl rfl 0 (by decide) (hts (.fieldLink RX3 12 "MeanLocks" "now" "LMeanLocks$Locks;") (List.mem_of_getElem? (i := 1) rfl)) (fun _ h9 => h9) rfl dX3_count_115 ?_
    obtain ⟨r2, hf2, h0⟩ := bnd_some h0
    refine x_PI (As := []) (rest := []) hC (kX1_allGiven l dC dI cA (q 1) (fun k => q (10 + k)) σN r2 hf2) (cwV 0 hts gX3_count_X1_allGiven rfl rfl rfl (by decide +kernel) ⟨Nat.le_of_ble_eq_true rfl, Nat.le_of_ble_eq_true rfl⟩) 1 1 hV hN hK hP hD hS hA (pm_N cA q σN σW σP κ rest) (pm_N cA q σN σW σP κ rest).symm rfl rfl rfl rfl hl.1 rfl (Nat.le_of_ble_eq_true rfl) ⟨Nat.zero_le _, Nat.zero_le _⟩ dX3_count_118 (fun H locs hP hD hS => ?_)
    have e1 := Option.some.inj h0
    exact x_retI hC hr hlocks rfl hP hD hS dX3_count_121 ⟨e1, rfl⟩
  have h0 := it_f h0 hq6
  by_cases hq7 : (a1 : Int32) = (7 : Int32)
  · have h0 := it_t h0 hq7
    refine lv_tableIn (tgt := 122) hx hb dX3_count_1 (by rw [hq7]; decide) (by rw [hq7]; decide) (off := 121) (by rw [hq7]; rfl) (by decide) ?_
    refine lv_aload_n hx hb dX3_count_122 rfl (lv_at hl 0 rfl) ?_
    refine va_get (D := (dC, dI)) (ci := 3) (v := .ref (q 1)) (C := RX3) (T := TX3) (N := 5) hx hb hts (fun _ h => (List.mem_cons_of_mem _ (List.mem_append_left _ (List.mem_append_left _ (List.mem_append_left _ (List.mem_append_right _ h)))))) hown hK hP 0 rfl rfl 0 (by decide) (hts (.fieldLink RX3 12 "MeanLocks" "now" "LMeanLocks$Locks;") (List.mem_of_getElem? (i := 1) rfl)) (fun _ h9 => h9) rfl dX3_count_123 ?_
    refine va_get (D := (dC, dI)) (ci := 1) (v := .int (σN 13 0)) (C := RX1) (T := TX1) (N := 16) hx hb hts (fun _ h => (List.mem_cons_of_mem _ (List.mem_append_left _ (List.mem_append_left _ (List.mem_append_right _ h))))) hown hK hP 1 rfl rfl 13 (by decide) (hts (.fieldLink RX3 127 "MeanLocks$Locks" "gone" "I") (List.mem_of_getElem? (i := 5) rfl)) (fun _ h9 => h9) rfl dX3_count_126 ?_
    have e1 := Option.some.inj h0
    exact x_retI hC hr hlocks rfl hP hD hS dX3_count_129 ⟨e1, rfl⟩
  have h0 := it_f h0 hq7
  by_cases hq8 : (a1 : Int32) = (8 : Int32)
  · have h0 := it_t h0 hq8
    refine lv_tableIn (tgt := 130) hx hb dX3_count_1 (by rw [hq8]; decide) (by rw [hq8]; decide) (off := 129) (by rw [hq8]; rfl) (by decide) ?_
    refine lv_aload_n hx hb dX3_count_130 rfl (lv_at hl 0 rfl) ?_
    refine va_get (D := (dC, dI)) (ci := 3) (v := .ref (q 1)) (C := RX3) (T := TX3) (N := 5) hx hb hts (fun _ h => (List.mem_cons_of_mem _ (List.mem_append_left _ (List.mem_append_left _ (List.mem_append_left _ (List.mem_append_right _ h)))))) hown hK hP 0 rfl rfl 0 (by decide) (hts (.fieldLink RX3 12 "MeanLocks" "now" "LMeanLocks$Locks;") (List.mem_of_getElem? (i := 1) rfl)) (fun _ h9 => h9) rfl dX3_count_131 ?_
    refine va_get (D := (dC, dI)) (ci := 1) (v := .int (σN 14 0)) (C := RX1) (T := TX1) (N := 16) hx hb hts (fun _ h => (List.mem_cons_of_mem _ (List.mem_append_left _ (List.mem_append_left _ (List.mem_append_right _ h))))) hown hK hP 1 rfl rfl 14 (by decide) (hts (.fieldLink RX3 130 "MeanLocks$Locks" "breaks" "I") (List.mem_of_getElem? (i := 6) rfl)) (fun _ h9 => h9) rfl dX3_count_134 ?_
    have e1 := Option.some.inj h0
    exact x_retI hC hr hlocks rfl hP hD hS dX3_count_137 ⟨e1, rfl⟩
  have h0 := it_f h0 hq8
  by_cases hq9 : (a1 : Int32) = (9 : Int32)
  · have h0 := it_t h0 hq9
    refine lv_tableIn (tgt := 138) hx hb dX3_count_1 (by rw [hq9]; decide) (by rw [hq9]; decide) (off := 137) (by rw [hq9]; rfl) (by decide) ?_
    refine lv_aload_n hx hb dX3_count_138 rfl (lv_at hl 0 rfl) ?_
    refine va_get (D := (dC, dI)) (ci := 3) (v := .ref (q 5)) (C := RX3) (T := TX3) (N := 5) hx hb hts (fun _ h => (List.mem_cons_of_mem _ (List.mem_append_left _ (List.mem_append_left _ (List.mem_append_left _ (List.mem_append_right _ h)))))) hown hK hP 0 rfl rfl 4 (by decide) (hts (.fieldLink RX3 33 "MeanLocks" "pad" "LMeanLocks$Pad;") (List.mem_of_getElem? (i := 7) rfl)) (fun _ h9 => h9) rfl dX3_count_139 ?_
    refine va_get (D := (dC, dI)) (ci := 2) (v := .int (σP 1 0)) (C := RX2) (T := TX2) (N := 8) hx hb hts (fun _ h => (List.mem_cons_of_mem _ (List.mem_append_left _ (List.mem_append_right _ h)))) hown hK hP 35 rfl rfl 1 (by decide) (hts (.fieldLink RX3 133 "MeanLocks$Pad" "length" "I") (List.mem_of_getElem? (i := 8) rfl)) (fun _ h9 => h9) rfl dX3_count_142 ?_
    have e1 := Option.some.inj h0
    exact x_retI hC hr hlocks rfl hP hD hS dX3_count_145 ⟨e1, rfl⟩
  have h0 := it_f h0 hq9
  by_cases hq10 : (a1 : Int32) = (10 : Int32)
  · have h0 := it_t h0 hq10
    refine lv_tableIn (tgt := 146) hx hb dX3_count_1 (by rw [hq10]; decide) (by rw [hq10]; decide) (off := 145) (by rw [hq10]; rfl) (by decide) ?_
    refine lv_aload_n hx hb dX3_count_146 rfl (lv_at hl 0 rfl) ?_
    refine va_get (D := (dC, dI)) (ci := 3) (v := .ref (q 3)) (C := RX3) (T := TX3) (N := 5) hx hb hts (fun _ h => (List.mem_cons_of_mem _ (List.mem_append_left _ (List.mem_append_left _ (List.mem_append_left _ (List.mem_append_right _ h)))))) hown hK hP 0 rfl rfl 2 (by decide) (hts (.fieldLink RX3 22 "MeanLocks" "history" "LMeanLocks$History;") (List.mem_of_getElem? (i := 9) rfl)) (fun _ h9 => h9) rfl dX3_count_147 ?_
    refine va_get (D := (dC, dI)) (ci := 0) (v := .int (κ 2 0)) (C := RX0) (T := TX0) (N := 3) hx hb hts (fun _ h => (List.mem_cons_of_mem _ (List.mem_append_right _ h))) hown hK hP 37 rfl rfl 2 (by decide) (hts (.fieldLink RX3 136 "MeanLocks$History" "kept" "I") (List.mem_of_getElem? (i := 10) rfl)) (fun _ h9 => h9) rfl dX3_count_150 ?_
    have e1 := Option.some.inj h0
    exact x_retI hC hr hlocks rfl hP hD hS dX3_count_153 ⟨e1, rfl⟩
  have h0 := it_f h0 hq10
  have hg : W p l e (headSpec wsX3_count rmX3_count).room s m av below meth c H locs 0 0 (MQ below (qI (dC, dI) A R0 ((wX cA q σN σW σP κ rest))) av s 0 0 A) (F0 m 154 ls []) := by
    refine lv_bipush (v := (-2 : Int32)) hx hb dX3_count_154 (by decide) ?_
    have e1 := Option.some.inj h0
    exact x_retI hC hr hlocks rfl hP hD hS dX3_count_156 ⟨e1, rfl⟩
  by_cases hin : 0 ≤ (a1 : Int32).toInt ∧ (a1 : Int32).toInt ≤ 10
  · obtain ⟨k, hk⟩ : ∃ k : Int, (a1 : Int32).toInt = k := ⟨_, rfl⟩
    rw [hk] at hin
    rcases (show k = 0 ∨ k = 1 ∨ k = 2 ∨ k = 3 ∨ k = 4 ∨ k = 5 ∨ k = 6 ∨ k = 7 ∨ k = 8 ∨ k = 9 ∨ k = 10 by omega) with rfl | rfl | rfl | rfl | rfl | rfl | rfl | rfl | rfl | rfl | rfl
    · exact absurd (sw_eq (n := (0 : Int32)) hk rfl) hq0
    · exact absurd (sw_eq (n := (1 : Int32)) hk rfl) hq1
    · exact absurd (sw_eq (n := (2 : Int32)) hk rfl) hq2
    · exact absurd (sw_eq (n := (3 : Int32)) hk rfl) hq3
    · exact absurd (sw_eq (n := (4 : Int32)) hk rfl) hq4
    · exact absurd (sw_eq (n := (5 : Int32)) hk rfl) hq5
    · exact absurd (sw_eq (n := (6 : Int32)) hk rfl) hq6
    · exact absurd (sw_eq (n := (7 : Int32)) hk rfl) hq7
    · exact absurd (sw_eq (n := (8 : Int32)) hk rfl) hq8
    · exact absurd (sw_eq (n := (9 : Int32)) hk rfl) hq9
    · exact absurd (sw_eq (n := (10 : Int32)) hk rfl) hq10
  · exact lv_tableOut (tgt := 154) hx hb dX3_count_1 (by omega) (by decide) hg
def bX3_firstFor_46 (a1 : Int32) (a2 : Int32) (a3 : Int32) (σN : St) (σW : St) (σP : St) (κ : St) (x5 : Int32) (x4 : Int32) : Option ((Int32 × Int32) ⊕ ((Int32 × Int32) ⊕ Int32)) := if (300 : Int32) ≤ x4 then (some (.inr (.inl (x5, x4)))) else (bnd (fX3_couldLock a1 a2 x4 σN σW σP κ) fun r6 => if (r6 : Int32) = (0 : Int32) then (if ((0 : Int32) : Int32) = a3 then (some (.inr (.inr ((x4 + (1 : Int32)) - a3)))) else (nm (x4 + (1 : Int32)) fun v7 => some (.inl ((0 : Int32), v7)))) else (nm (x5 + (1 : Int32)) fun v8 => if (v8 : Int32) = a3 then (some (.inr (.inr ((x4 + (1 : Int32)) - a3)))) else (nm (x4 + (1 : Int32)) fun v9 => some (.inl (v8, v9)))))
def fX3_firstFor (a1 : Int32) (a2 : Int32) (a3 : Int32) (a4 : Int32) (σN : St) (σW : St) (σP : St) (κ : St) : Option Int32 := bnd (fX3_isOwner a1) fun r1 => if (r1 : Int32) = (0 : Int32) then (some (-1 : Int32)) else (bnd (fX3_isLock a2) fun r2 => if (r2 : Int32) = (0 : Int32) then (some (-2 : Int32)) else (if (a3 : Int32) < (1 : Int32) then (some (-2 : Int32)) else (if (300 : Int32) < a3 then (some (-2 : Int32)) else (bnd (fX3_isPlace a4) fun r3 => if (r3 : Int32) = (0 : Int32) then (some (-2 : Int32)) else (bnd (lp (fun t : (Int32 × Int32) => bX3_firstFor_46 a1 a2 a3 σN σW σP κ t.1 t.2) FU ((0 : Int32), a4)) (fun e0 : ((Int32 × Int32) ⊕ Int32) => el e0 (fun e : (Int32 × Int32) => nm e.1 fun x10 => nm e.2 fun x11 => some (-6 : Int32)) (fun r : Int32 => some r)))))))
abbrev rmX3_firstFor : Room := { frames := 3, cells := 0, slots := 0, locals := 83 }
set_option maxHeartbeats 4000000 in
set_option maxRecDepth 100000 in
theorem kX3_firstFor (l : Launch) (dC : Nat → ClassId) (dI : Nat → Nat → Nat) (cA : Nat → ClassId) (q : Nat → Nat) (rest : va_W) (a1 : Int32) (a2 : Int32) (a3 : Int32) (a4 : Int32) (σN : St) (σW : St) (σP : St) (κ : St) (R0 : Int32) (h0 : fX3_firstFor a1 a2 a3 a4 σN σW σP κ = some R0) : CI l yX3_firstFor wsX3_firstFor rmX3_firstFor (dC, dI) vwCl (tysW cA) [.ref (q 0), .int a1, .int a2, .int a3, .int a4] ((wX cA q σN σW σP κ rest)) R0 ((wX cA q σN σW σP κ rest)) := by
  refine CGI_of (cc := cX3_firstFor) (nL := 7) (ret := (some .int)) (by decide) rfl (Nat.le_of_ble_eq_true rfl) ?_
  intro p e s m av below meth c A ls H locs hC hl
  obtain ⟨hC, hr, hlocks, hV, hN, hK, hP, hD, hS, hA⟩ := hC
  have hC : CallFix p m c cX3_firstFor 7 s _ wsX3_firstFor RX3 := hC
  obtain ⟨hx, hb, hml, hown, hts⟩ := id hC
  have hl : lv_has ls 7 [(0, .ref (q 0)), (1, .int a1), (2, .int a2), (3, .int a3), (4, .int a4)] := hl
  unfold fX3_firstFor at h0
  refine lv_iload_n hx hb dX3_firstFor_0 rfl (lv_at hl 1 rfl) ?_
  obtain ⟨r1, hf1, h0⟩ := bnd_some h0
  refine x_SI (As := [.int a1]) (rest := []) hC (kX3_isOwner l dC dI cA a1 r1 hf1) (cwS 1 hts gX3_firstFor_X3_isOwner rfl rfl rfl (by decide +kernel) ⟨Nat.le_of_ble_eq_true rfl, Nat.le_of_ble_eq_true rfl⟩) hV hN hK hP hD hS hA rfl hl.1 rfl (Nat.le_of_ble_eq_true rfl) ⟨Nat.zero_le _, Nat.zero_le _⟩ dX3_firstFor_1 (fun H locs hP hD hS => ?_)
  refine lv_if_ne (tgt := 9) hx hb dX3_firstFor_4 (by decide) (fun hc => ?_) (fun hc => ?_)
  · have h0 := it_f h0 hc
    refine lv_iload_n hx hb dX3_firstFor_9 rfl (lv_at hl 2 rfl) ?_
    obtain ⟨r2, hf2, h0⟩ := bnd_some h0
    refine x_SI (As := [.int a2]) (rest := []) hC (kX3_isLock l dC dI cA a2 r2 hf2) (cwS 1 hts gX3_firstFor_X3_isLock rfl rfl rfl (by decide +kernel) ⟨Nat.le_of_ble_eq_true rfl, Nat.le_of_ble_eq_true rfl⟩) hV hN hK hP hD hS hA rfl hl.1 rfl (Nat.le_of_ble_eq_true rfl) ⟨Nat.zero_le _, Nat.zero_le _⟩ dX3_firstFor_10 (fun H locs hP hD hS => ?_)
    refine lv_if_eq (tgt := 36) hx hb dX3_firstFor_13 (by decide) (fun hc => ?_) (fun hc => ?_)
    · have h0 := it_t h0 hc
      refine lv_bipush (v := (-2 : Int32)) hx hb dX3_firstFor_36 (by decide) ?_
      have e1 := Option.some.inj h0
      exact x_retI hC hr hlocks rfl hP hD hS dX3_firstFor_38 ⟨e1, rfl⟩
    · have h0 := it_f h0 hc
      refine lv_iload_n hx hb dX3_firstFor_16 rfl (lv_at hl 3 rfl) ?_
      refine lv_iconst (v := (1 : Int32)) hx hb dX3_firstFor_17 (by decide) ?_
      refine lv_icmp_lt (tgt := 36) hx hb dX3_firstFor_18 (by decide) (fun hc => ?_) (fun hc => ?_)
      · have h0 := it_t h0 hc
        refine lv_bipush (v := (-2 : Int32)) hx hb dX3_firstFor_36 (by decide) ?_
        have e1 := Option.some.inj h0
        exact x_retI hC hr hlocks rfl hP hD hS dX3_firstFor_38 ⟨e1, rfl⟩
      · have h0 := it_f h0 hc
        refine lv_iload_n hx hb dX3_firstFor_21 rfl (lv_at hl 3 rfl) ?_
        refine lv_sipush (v := (300 : Int32)) hx hb dX3_firstFor_22 (by decide) ?_
        refine lv_icmp_gt (tgt := 36) hx hb dX3_firstFor_25 (by decide) (fun hc => ?_) (fun hc => ?_)
        · have h0 := it_t h0 hc
          refine lv_bipush (v := (-2 : Int32)) hx hb dX3_firstFor_36 (by decide) ?_
          have e1 := Option.some.inj h0
          exact x_retI hC hr hlocks rfl hP hD hS dX3_firstFor_38 ⟨e1, rfl⟩
        · have h0 := it_f h0 hc
          refine lv_iload hx hb dX3_firstFor_28 (lv_at hl 4 rfl) ?_
          obtain ⟨r3, hf3, h0⟩ := bnd_some h0
          refine x_SI (As := [.int a4]) (rest := []) hC (kX3_isPlace l dC dI cA a4 r3 hf3) (cwS 1 hts gX3_firstFor_X3_isPlace rfl rfl rfl (by decide +kernel) ⟨Nat.le_of_ble_eq_true rfl, Nat.le_of_ble_eq_true rfl⟩) hV hN hK hP hD hS hA rfl hl.1 rfl (Nat.le_of_ble_eq_true rfl) ⟨Nat.zero_le _, Nat.zero_le _⟩ dX3_firstFor_30 (fun H locs hP hD hS => ?_)
          refine lv_if_ne (tgt := 39) hx hb dX3_firstFor_33 (by decide) (fun hc => ?_) (fun hc => ?_)
          · have h0 := it_f h0 hc
            refine lv_iconst (v := (0 : Int32)) hx hb dX3_firstFor_39 (by decide) ?_
            refine lv_istore (lv' := [(5, .int (0 : Int32)), (0, .ref (q 0)), (1, .int a1), (2, .int a2), (3, .int a3), (4, .int a4)]) hx hb dX3_firstFor_40 hl (by decide) rfl (fun ls hl => ?_)
            refine lv_iload hx hb dX3_firstFor_42 (lv_at hl 5 rfl) ?_
            refine lv_istore (lv' := [(6, .int a4), (5, .int (0 : Int32)), (0, .ref (q 0)), (1, .int a1), (2, .int a2), (3, .int a3), (4, .int a4)]) hx hb dX3_firstFor_44 hl (by decide) rfl (fun ls hl => ?_)
            obtain ⟨ε4, hl4, h0⟩ := bnd_some h0
            have KN4 : ∀ (x10 : Int32) (x11 : Int32), ε4 = .inl (x10, x11) → ∀ (H : Heap) (locs : List Loc), va_P (dC, dI) vwCl ((wX cA q σN σW σP κ rest)) H → va_D A ((wX cA q σN σW σP κ rest)) → va_S A s.heap H locs → ∀ (ls : Array Slot), lv_has ls 7 [(6, .int x11), (5, .int x10), (0, .ref (q 0)), (1, .int a1), (2, .int a2), (3, .int a3), (4, .int a4)] → W p l e (headSpec wsX3_firstFor rmX3_firstFor).room s m av below meth c H locs 0 0 (MQ below (qI (dC, dI) A R0 ((wX cA q σN σW σP κ rest))) av s 0 0 A) (F0 m 94 ls []) := by
              intro x10 x11 hε H locs hP hD hS ls hl
              rw [hε] at h0
              have h0 := el_l h0
              have h0 := nm_at (z := x10) rfl h0
              have h0 := nm_at (z := x11) rfl h0
              refine lv_bipush (v := (-6 : Int32)) hx hb dX3_firstFor_94 (by decide) ?_
              have e1 := Option.some.inj h0
              exact x_retI hC hr hlocks rfl hP hD hS dX3_firstFor_96 ⟨e1, rfl⟩
            have LP4 : ∀ (n : Nat) (x5 : Int32) (x4 : Int32), lp (fun t : (Int32 × Int32) => bX3_firstFor_46 a1 a2 a3 σN σW σP κ t.1 t.2) n (x5, x4) = some ε4 → ∀ (H : Heap) (locs : List Loc), va_P (dC, dI) vwCl ((wX cA q σN σW σP κ rest)) H → va_D A ((wX cA q σN σW σP κ rest)) → va_S A s.heap H locs → ∀ (ls : Array Slot), lv_has ls 7 [(6, .int x4), (5, .int x5), (0, .ref (q 0)), (1, .int a1), (2, .int a2), (3, .int a3), (4, .int a4)] → W p l e (headSpec wsX3_firstFor rmX3_firstFor).room s m av below meth c H locs 0 0 (MQ below (qI (dC, dI) A R0 ((wX cA q σN σW σP κ rest))) av s 0 0 A) (F0 m 46 ls []) := by
              intro n
              induction n with
              | zero => intro x5 x4 hl0; exact (lp_0 hl0).elim
              | succ n ih4 =>
                intro x5 x4 hl0 H locs hP hD hS ls hl
                obtain ⟨z4, h1, hz4⟩ := lp_s hl0
                have h1 : bX3_firstFor_46 a1 a2 a3 σN σW σP κ x5 x4 = some z4 := h1
                unfold bX3_firstFor_46 at h1
                refine lv_iload hx hb dX3_firstFor_46 (lv_at hl 0 rfl) ?_
                refine lv_sipush (v := (300 : Int32)) hx hb dX3_firstFor_48 (by decide) ?_
                refine lv_icmp_ge (tgt := 94) hx hb dX3_firstFor_51 (by decide) (fun hc => ?_) (fun hc => ?_)
                · have h1 := it_t h1 hc
                  have he := lp_r h1 hz4
                  exact KN4 x5 x4 he _ _ hP hD hS ls (lv_sub hl [0, 1, 2, 3, 4, 5, 6] rfl)
                · have h1 := it_f h1 hc
                  refine lv_aload_n hx hb dX3_firstFor_54 rfl (lv_at hl 2 rfl) ?_
                  refine lv_iload_n hx hb dX3_firstFor_55 rfl (lv_at hl 3 rfl) ?_
                  refine lv_iload_n hx hb dX3_firstFor_56 rfl (lv_at hl 4 rfl) ?_
                  refine lv_iload hx hb dX3_firstFor_57 (lv_at hl 0 rfl) ?_
                  obtain ⟨r6, hf5, h1⟩ := bnd_some h1
                  refine x_VI (As := [.int a1, .int a2, .int x4]) (rest := []) hC (kX3_couldLock l dC dI cA q rest a1 a2 x4 σN σW σP κ r6 hf5) (cwV 3 hts gX3_firstFor_X3_couldLock rfl rfl rfl (by decide +kernel) ⟨Nat.le_of_ble_eq_true rfl, Nat.le_of_ble_eq_true rfl⟩) 0 3 hV hN hK hP hD hS hA rfl rfl rfl rfl hl.1 rfl (Nat.le_of_ble_eq_true rfl) ⟨Nat.zero_le _, Nat.zero_le _⟩ dX3_firstFor_59 (fun H locs hP hD hS => ?_)
                  refine lv_if_eq (tgt := 72) hx hb dX3_firstFor_62 (by decide) (fun hc => ?_) (fun hc => ?_)
                  · have h1 := it_t h1 hc
                    refine lv_iconst (v := (0 : Int32)) hx hb dX3_firstFor_72 (by decide) ?_
                    refine lv_istore (lv' := [(5, .int (0 : Int32)), (6, .int x4), (0, .ref (q 0)), (1, .int a1), (2, .int a2), (3, .int a3), (4, .int a4)]) hx hb dX3_firstFor_73 hl (by decide) rfl (fun ls hl => ?_)
                    refine lv_iload hx hb dX3_firstFor_75 (lv_at hl 0 rfl) ?_
                    refine lv_iload_n hx hb dX3_firstFor_77 rfl (lv_at hl 5 rfl) ?_
                    refine lv_icmp_ne (tgt := 88) hx hb dX3_firstFor_78 (by decide) (fun hc => ?_) (fun hc => ?_)
                    · have h1 := it_f h1 hc
                      obtain ⟨v7, ev7, h1⟩ := nm_some h1
                      refine lv_iinc (v := v7) (lv' := [(6, .int v7), (5, .int (0 : Int32)), (0, .ref (q 0)), (1, .int a1), (2, .int a2), (3, .int a3), (4, .int a4)]) hx hb dX3_firstFor_88 hl (k := 1) rfl (by rw [ev7]; rfl) (by decide) rfl (fun ls hl => ?_)
                      refine lv_goto (tgt := 46) hx hb dX3_firstFor_91 (by decide) ?_
                      have hc := lp_l h1 hz4
                      exact ih4 (0 : Int32) v7 hc _ _ hP hD hS ls (lv_sub hl [0, 1, 2, 3, 4, 5, 6] rfl)
                    · have h1 := it_t h1 hc
                      refine lv_iload hx hb dX3_firstFor_81 (lv_at hl 1 rfl) ?_
                      refine lv_iconst (v := (1 : Int32)) hx hb dX3_firstFor_83 (by decide) ?_
                      refine lv_iadd hx hb dX3_firstFor_84 ?_
                      refine lv_iload_n hx hb dX3_firstFor_85 rfl (lv_at hl 5 rfl) ?_
                      refine lv_isub hx hb dX3_firstFor_86 ?_
                      have he := lp_r h1 hz4
                      rw [he] at h0
                      have h0 := el_r h0
                      have e1 := Option.some.inj h0
                      exact x_retI hC hr hlocks rfl hP hD hS dX3_firstFor_87 ⟨e1, rfl⟩
                  · have h1 := it_f h1 hc
                    refine lv_iload hx hb dX3_firstFor_65 (lv_at hl 1 rfl) ?_
                    refine lv_iconst (v := (1 : Int32)) hx hb dX3_firstFor_67 (by decide) ?_
                    refine lv_iadd hx hb dX3_firstFor_68 ?_
                    refine lv_goto (tgt := 73) hx hb dX3_firstFor_69 (by decide) ?_
                    refine lv_topi (fun v8 ev8 => ?_)
                    have h1 := nm_at ev8 h1
                    refine lv_istore (lv' := [(5, .int v8), (6, .int x4), (0, .ref (q 0)), (1, .int a1), (2, .int a2), (3, .int a3), (4, .int a4)]) hx hb dX3_firstFor_73 hl (by decide) rfl (fun ls hl => ?_)
                    refine lv_iload hx hb dX3_firstFor_75 (lv_at hl 0 rfl) ?_
                    refine lv_iload_n hx hb dX3_firstFor_77 rfl (lv_at hl 5 rfl) ?_
                    refine lv_icmp_ne (tgt := 88) hx hb dX3_firstFor_78 (by decide) (fun hc => ?_) (fun hc => ?_)
                    · have h1 := it_f h1 hc
                      obtain ⟨v9, ev9, h1⟩ := nm_some h1
                      refine lv_iinc (v := v9) (lv' := [(6, .int v9), (5, .int v8), (0, .ref (q 0)), (1, .int a1), (2, .int a2), (3, .int a3), (4, .int a4)]) hx hb dX3_firstFor_88 hl (k := 1) rfl (by rw [ev9]; rfl) (by decide) rfl (fun ls hl => ?_)
                      refine lv_goto (tgt := 46) hx hb dX3_firstFor_91 (by decide) ?_
                      have hc := lp_l h1 hz4
                      exact ih4 v8 v9 hc _ _ hP hD hS ls (lv_sub hl [0, 1, 2, 3, 4, 5, 6] rfl)
                    · have h1 := it_t h1 hc
                      refine lv_iload hx hb dX3_firstFor_81 (lv_at hl 1 rfl) ?_
                      refine lv_iconst (v := (1 : Int32)) hx hb dX3_firstFor_83 (by decide) ?_
                      refine lv_iadd hx hb dX3_firstFor_84 ?_
                      refine lv_iload_n hx hb dX3_firstFor_85 rfl (lv_at hl 5 rfl) ?_
                      refine lv_isub hx hb dX3_firstFor_86 ?_
                      have he := lp_r h1 hz4
                      rw [he] at h0
                      have h0 := el_r h0
                      have e1 := Option.some.inj h0
                      exact x_retI hC hr hlocks rfl hP hD hS dX3_firstFor_87 ⟨e1, rfl⟩
            exact LP4 FU (0 : Int32) a4 hl4 _ _ hP hD hS ls hl
          · have h0 := it_t h0 hc
            refine lv_bipush (v := (-2 : Int32)) hx hb dX3_firstFor_36 (by decide) ?_
            have e1 := Option.some.inj h0
            exact x_retI hC hr hlocks rfl hP hD hS dX3_firstFor_38 ⟨e1, rfl⟩
  · have h0 := it_t h0 hc
    refine lv_iconst (v := (-1 : Int32)) hx hb dX3_firstFor_7 (by decide) ?_
    have e1 := Option.some.inj h0
    exact x_retI hC hr hlocks rfl hP hD hS dX3_firstFor_8 ⟨e1, rfl⟩
def fX3_givenIf (a1 : Int32) (σN : St) (σW : St) (σP : St) (κ : St) : Option (Int32 × St) := bnd (fX3_isOwner a1) fun r1 => if (r1 : Int32) = (0 : Int32) then (some ((-1 : Int32), σW)) else (bnd (fX1_become  σN σW) fun s3 => bn2 (fX1_strip a1 s3) fun r4 s5 => bn2 (fX1_goThroughRow  s5) fun r6 s7 => some (r6, s7))
abbrev rmX3_givenIf : Room := { frames := 4, cells := 0, slots := 0, locals := 106 }
set_option maxHeartbeats 4000000 in
set_option maxRecDepth 100000 in
theorem kX3_givenIf (l : Launch) (dC : Nat → ClassId) (dI : Nat → Nat → Nat) (cA : Nat → ClassId) (q : Nat → Nat) (rest : va_W) (a1 : Int32) (σN : St) (σW : St) (σP : St) (κ : St) (R0 : Int32) (σ' : St) (h0 : fX3_givenIf a1 σN σW σP κ = some (R0, σ')) : CI l yX3_givenIf wsX3_givenIf rmX3_givenIf (dC, dI) vwCl (tysW cA) [.ref (q 0), .int a1] ((wX cA q σN σW σP κ rest)) R0 ((wX cA q σN σ' σP κ rest)) := by
  refine CGI_of (cc := cX3_givenIf) (nL := 2) (ret := (some .int)) (by decide) rfl (Nat.le_of_ble_eq_true rfl) ?_
  intro p e s m av below meth c A ls H locs hC hl
  obtain ⟨hC, hr, hlocks, hV, hN, hK, hP, hD, hS, hA⟩ := hC
  have hC : CallFix p m c cX3_givenIf 2 s _ wsX3_givenIf RX3 := hC
  obtain ⟨hx, hb, hml, hown, hts⟩ := id hC
  have hl : lv_has ls 2 [(0, .ref (q 0)), (1, .int a1)] := hl
  unfold fX3_givenIf at h0
  refine lv_iload_n hx hb dX3_givenIf_0 rfl (lv_at hl 1 rfl) ?_
  obtain ⟨r1, hf1, h0⟩ := bnd_some h0
  refine x_SI (As := [.int a1]) (rest := []) hC (kX3_isOwner l dC dI cA a1 r1 hf1) (cwS 1 hts gX3_givenIf_X3_isOwner rfl rfl rfl (by decide +kernel) ⟨Nat.le_of_ble_eq_true rfl, Nat.le_of_ble_eq_true rfl⟩) hV hN hK hP hD hS hA rfl hl.1 rfl (Nat.le_of_ble_eq_true rfl) ⟨Nat.zero_le _, Nat.zero_le _⟩ dX3_givenIf_1 (fun H locs hP hD hS => ?_)
  refine lv_if_ne (tgt := 9) hx hb dX3_givenIf_4 (by decide) (fun hc => ?_) (fun hc => ?_)
  · have h0 := it_f h0 hc
    refine lv_aload_n hx hb dX3_givenIf_9 rfl (lv_at hl 0 rfl) ?_
    refine va_get (D := (dC, dI)) (ci := 3) (v := .ref (q 2)) (C := RX3) (T := TX3) (N := 5) hx hb hts (fun _ h => (List.mem_cons_of_mem _ (List.mem_append_left _ (List.mem_append_right _ h)))) hown hK hP 0 rfl rfl 1 (by decide) (hts (.fieldLink RX3 16 "MeanLocks" "whatIf" "LMeanLocks$Locks;") (List.mem_of_getElem? (i := 1) rfl)) (fun _ h9 => h9) rfl dX3_givenIf_10 ?_
    refine lv_aload_n hx hb dX3_givenIf_13 rfl (lv_at hl 0 rfl) ?_
    refine va_get (D := (dC, dI)) (ci := 3) (v := .ref (q 1)) (C := RX3) (T := TX3) (N := 5) hx hb hts (fun _ h => (List.mem_cons_of_mem _ (List.mem_append_left _ (List.mem_append_right _ h)))) hown hK hP 0 rfl rfl 0 (by decide) (hts (.fieldLink RX3 12 "MeanLocks" "now" "LMeanLocks$Locks;") (List.mem_of_getElem? (i := 2) rfl)) (fun _ h9 => h9) rfl dX3_givenIf_14 ?_
    obtain ⟨s3, hf2, h0⟩ := bnd_some h0
    refine x_PV (As := [.ref (q 1)]) (rest := []) (wr := (wXr_B cA q σP κ rest)) hC (kX1_become l dC dI cA (q 2) (fun k => q (40 + k)) (q 1) (fun k => q (10 + k)) σN σW s3 hf2) (cwV 1 hts gX3_givenIf_X1_become rfl rfl rfl (by decide +kernel) ⟨Nat.le_of_ble_eq_true rfl, Nat.le_of_ble_eq_true rfl⟩) 18 1 hV hN hK hP hD hS hA (pm_B cA q σN σW σP κ rest) (pm_B cA q σN s3 σP κ rest).symm rfl rfl rfl rfl hl.1 rfl (Nat.le_of_ble_eq_true rfl) ⟨Nat.zero_le _, Nat.zero_le _⟩ dX3_givenIf_17 (fun H locs hP hD hS => ?_)
    refine lv_aload_n hx hb dX3_givenIf_20 rfl (lv_at hl 0 rfl) ?_
    refine va_get (D := (dC, dI)) (ci := 3) (v := .ref (q 2)) (C := RX3) (T := TX3) (N := 5) hx hb hts (fun _ h => (List.mem_cons_of_mem _ (List.mem_append_left _ (List.mem_append_right _ h)))) hown hK hP 0 rfl rfl 1 (by decide) (hts (.fieldLink RX3 16 "MeanLocks" "whatIf" "LMeanLocks$Locks;") (List.mem_of_getElem? (i := 1) rfl)) (fun _ h9 => h9) rfl dX3_givenIf_21 ?_
    refine lv_iload_n hx hb dX3_givenIf_24 rfl (lv_at hl 1 rfl) ?_
    obtain ⟨r4, s5, hf3, h0⟩ := bn2_some h0
    refine x_PI (As := [.int a1]) (rest := []) hC (kX1_strip l dC dI cA (q 2) (fun k => q (40 + k)) a1 s3 r4 s5 hf3) (cwV 1 hts gX3_givenIf_X1_strip rfl rfl rfl (by decide +kernel) ⟨Nat.le_of_ble_eq_true rfl, Nat.le_of_ble_eq_true rfl⟩) 18 1 hV hN hK hP hD hS hA (pm_W cA q σN s3 σP κ rest) (pm_W cA q σN s5 σP κ rest).symm rfl rfl rfl rfl hl.1 rfl (Nat.le_of_ble_eq_true rfl) ⟨Nat.zero_le _, Nat.zero_le _⟩ dX3_givenIf_25 (fun H locs hP hD hS => ?_)
    refine lv_pop hx hb dX3_givenIf_28 rfl ?_
    refine lv_aload_n hx hb dX3_givenIf_29 rfl (lv_at hl 0 rfl) ?_
    refine va_get (D := (dC, dI)) (ci := 3) (v := .ref (q 2)) (C := RX3) (T := TX3) (N := 5) hx hb hts (fun _ h => (List.mem_cons_of_mem _ (List.mem_append_left _ (List.mem_append_right _ h)))) hown hK hP 0 rfl rfl 1 (by decide) (hts (.fieldLink RX3 16 "MeanLocks" "whatIf" "LMeanLocks$Locks;") (List.mem_of_getElem? (i := 1) rfl)) (fun _ h9 => h9) rfl dX3_givenIf_30 ?_
    obtain ⟨r6, s7, hf4, h0⟩ := bn2_some h0
    refine x_PI (As := []) (rest := []) hC (kX1_goThroughRow l dC dI cA (q 2) (fun k => q (40 + k)) s5 r6 s7 hf4) (cwV 0 hts gX3_givenIf_X1_goThroughRow rfl rfl rfl (by decide +kernel) ⟨Nat.le_of_ble_eq_true rfl, Nat.le_of_ble_eq_true rfl⟩) 18 1 hV hN hK hP hD hS hA (pm_W cA q σN s5 σP κ rest) (pm_W cA q σN s7 σP κ rest).symm rfl rfl rfl rfl hl.1 rfl (Nat.le_of_ble_eq_true rfl) ⟨Nat.zero_le _, Nat.zero_le _⟩ dX3_givenIf_33 (fun H locs hP hD hS => ?_)
    obtain ⟨e1, e2⟩ := Prod.mk.inj (Option.some.inj h0)
    exact x_retI hC hr hlocks rfl hP hD hS dX3_givenIf_36 ⟨e1, by rw [← e2]⟩
  · have h0 := it_t h0 hc
    refine lv_iconst (v := (-1 : Int32)) hx hb dX3_givenIf_7 (by decide) ?_
    obtain ⟨e1, e2⟩ := Prod.mk.inj (Option.some.inj h0)
    exact x_retI hC hr hlocks rfl hP hD hS dX3_givenIf_8 ⟨e1, by rw [← e2]⟩
def bX3_greatestBar_20 (σN : St) (σP : St) (κ : St) (x3 : Int32) (x2 : Int32) (x1 : Int32) (s4 : St) : Option ((Int32 × Int32 × Int32 × St) ⊕ (Int32 × Int32 × Int32 × St)) := if (8 : Int32) ≤ x1 then (some (.inr (x3, x2, x1, s4))) else (bn2 (fX3_givenIf x1 σN s4 σP κ) fun r5 s6 => bnd (fJ6_bitCount_0f7a4 r5) fun r7 => if (r7 : Int32) ≤ x3 then (nm (x1 + (1 : Int32)) fun v8 => some (.inl (x3, x2, v8, s6))) else (nm (x1 + (1 : Int32)) fun v9 => some (.inl (r7, x1, v9, s6))))
def fX3_greatestBar (a1 : Int32) (σN : St) (σW : St) (σP : St) (κ : St) : Option (Int32 × St) := if (a1 : Int32) < (0 : Int32) then (some ((-2 : Int32), σW)) else (if (a1 : Int32) ≤ (1 : Int32) then (bnd (lp (fun t : (Int32 × Int32 × Int32 × St) => bX3_greatestBar_20 σN σP κ t.1 t.2.1 t.2.2.1 t.2.2.2) FU ((0 : Int32), (-6 : Int32), (0 : Int32), σW)) (fun e : (Int32 × Int32 × Int32 × St) => nm e.1 fun x10 => nm e.2.1 fun x11 => nm e.2.2.1 fun x12 => nm e.2.2.2 fun s13 => if (x10 : Int32) = (0 : Int32) then (some ((-6 : Int32), s13)) else (if (a1 : Int32) = (0 : Int32) then (some (x11, s13)) else (some (x10, s13))))) else (some ((-2 : Int32), σW)))
abbrev rmX3_greatestBar : Room := { frames := 5, cells := 0, slots := 0, locals := 127 }
set_option maxHeartbeats 4000000 in
set_option maxRecDepth 100000 in
theorem kX3_greatestBar (l : Launch) (dC : Nat → ClassId) (dI : Nat → Nat → Nat) (cA : Nat → ClassId) (q : Nat → Nat) (rest : va_W) (a1 : Int32) (σN : St) (σW : St) (σP : St) (κ : St) (R0 : Int32) (σ' : St) (h0 : fX3_greatestBar a1 σN σW σP κ = some (R0, σ')) : CI l yX3_greatestBar wsX3_greatestBar rmX3_greatestBar (dC, dI) vwCl (tysW cA) [.ref (q 0), .int a1] ((wX cA q σN σW σP κ rest)) R0 ((wX cA q σN σ' σP κ rest)) := by
  refine CGI_of (cc := cX3_greatestBar) (nL := 6) (ret := (some .int)) (by decide) rfl (Nat.le_of_ble_eq_true rfl) ?_
  intro p e s m av below meth c A ls H locs hC hl
  obtain ⟨hC, hr, hlocks, hV, hN, hK, hP, hD, hS, hA⟩ := hC
  have hC : CallFix p m c cX3_greatestBar 6 s _ wsX3_greatestBar RX3 := hC
  obtain ⟨hx, hb, hml, hown, hts⟩ := id hC
  have hl : lv_has ls 6 [(0, .ref (q 0)), (1, .int a1)] := hl
  unfold fX3_greatestBar at h0
  refine lv_iload_n hx hb dX3_greatestBar_0 rfl (lv_at hl 1 rfl) ?_
  refine lv_if_lt (tgt := 9) hx hb dX3_greatestBar_1 (by decide) (fun hc => ?_) (fun hc => ?_)
  · have h0 := it_t h0 hc
    refine lv_bipush (v := (-2 : Int32)) hx hb dX3_greatestBar_9 (by decide) ?_
    obtain ⟨e1, e2⟩ := Prod.mk.inj (Option.some.inj h0)
    exact x_retI hC hr hlocks rfl hP hD hS dX3_greatestBar_11 ⟨e1, by rw [← e2]⟩
  · have h0 := it_f h0 hc
    refine lv_iload_n hx hb dX3_greatestBar_4 rfl (lv_at hl 1 rfl) ?_
    refine lv_iconst (v := (1 : Int32)) hx hb dX3_greatestBar_5 (by decide) ?_
    refine lv_icmp_le (tgt := 12) hx hb dX3_greatestBar_6 (by decide) (fun hc => ?_) (fun hc => ?_)
    · have h0 := it_t h0 hc
      refine lv_iconst (v := (0 : Int32)) hx hb dX3_greatestBar_12 (by decide) ?_
      refine lv_istore_n (lv' := [(2, .int (0 : Int32)), (0, .ref (q 0)), (1, .int a1)]) hx hb dX3_greatestBar_13 rfl hl (by decide) rfl (fun ls hl => ?_)
      refine lv_bipush (v := (-6 : Int32)) hx hb dX3_greatestBar_14 (by decide) ?_
      refine lv_istore_n (lv' := [(3, .int (-6 : Int32)), (2, .int (0 : Int32)), (0, .ref (q 0)), (1, .int a1)]) hx hb dX3_greatestBar_16 rfl hl (by decide) rfl (fun ls hl => ?_)
      refine lv_iconst (v := (0 : Int32)) hx hb dX3_greatestBar_17 (by decide) ?_
      refine lv_istore (lv' := [(4, .int (0 : Int32)), (3, .int (-6 : Int32)), (2, .int (0 : Int32)), (0, .ref (q 0)), (1, .int a1)]) hx hb dX3_greatestBar_18 hl (by decide) rfl (fun ls hl => ?_)
      obtain ⟨ε1, hl1, h0⟩ := bnd_some h0
      have KN1 : ∀ (x10 : Int32) (x11 : Int32) (x12 : Int32) (s13 : St), ε1 = (x10, x11, x12, s13) → ∀ (H : Heap) (locs : List Loc), va_P (dC, dI) vwCl ((wX cA q σN s13 σP κ rest)) H → va_D A ((wX cA q σN s13 σP κ rest)) → va_S A s.heap H locs → ∀ (ls : Array Slot), lv_has ls 6 [(4, .int x12), (3, .int x11), (2, .int x10), (0, .ref (q 0)), (1, .int a1)] → W p l e (headSpec wsX3_greatestBar rmX3_greatestBar).room s m av below meth c H locs 0 0 (MQ below (qI (dC, dI) A R0 ((wX cA q σN σ' σP κ rest))) av s 0 0 A) (F0 m 56 ls []) := by
        intro x10 x11 x12 s13 hε H locs hP hD hS ls hl
        rw [hε] at h0
        have h0 := nm_at (z := x10) rfl h0
        have h0 := nm_at (z := x11) rfl h0
        have h0 := nm_at (z := x12) rfl h0
        have h0 := nm_at (z := s13) rfl h0
        refine lv_iload_n hx hb dX3_greatestBar_56 rfl (lv_at hl 2 rfl) ?_
        refine lv_if_ne (tgt := 63) hx hb dX3_greatestBar_57 (by decide) (fun hc => ?_) (fun hc => ?_)
        · have h0 := it_f h0 hc
          refine lv_iload_n hx hb dX3_greatestBar_63 rfl (lv_at hl 4 rfl) ?_
          refine lv_if_ne (tgt := 71) hx hb dX3_greatestBar_64 (by decide) (fun hc => ?_) (fun hc => ?_)
          · have h0 := it_f h0 hc
            refine lv_iload_n hx hb dX3_greatestBar_71 rfl (lv_at hl 2 rfl) ?_
            obtain ⟨e1, e2⟩ := Prod.mk.inj (Option.some.inj h0)
            exact x_retI hC hr hlocks rfl hP hD hS dX3_greatestBar_72 ⟨e1, by rw [← e2]⟩
          · have h0 := it_t h0 hc
            refine lv_iload_n hx hb dX3_greatestBar_67 rfl (lv_at hl 1 rfl) ?_
            refine lv_goto (tgt := 72) hx hb dX3_greatestBar_68 (by decide) ?_
            obtain ⟨e1, e2⟩ := Prod.mk.inj (Option.some.inj h0)
            exact x_retI hC hr hlocks rfl hP hD hS dX3_greatestBar_72 ⟨e1, by rw [← e2]⟩
        · have h0 := it_t h0 hc
          refine lv_bipush (v := (-6 : Int32)) hx hb dX3_greatestBar_60 (by decide) ?_
          obtain ⟨e1, e2⟩ := Prod.mk.inj (Option.some.inj h0)
          exact x_retI hC hr hlocks rfl hP hD hS dX3_greatestBar_62 ⟨e1, by rw [← e2]⟩
      have LP1 : ∀ (n : Nat) (x3 : Int32) (x2 : Int32) (x1 : Int32) (s4 : St), lp (fun t : (Int32 × Int32 × Int32 × St) => bX3_greatestBar_20 σN σP κ t.1 t.2.1 t.2.2.1 t.2.2.2) n (x3, x2, x1, s4) = some ε1 → ∀ (H : Heap) (locs : List Loc), va_P (dC, dI) vwCl ((wX cA q σN s4 σP κ rest)) H → va_D A ((wX cA q σN s4 σP κ rest)) → va_S A s.heap H locs → ∀ (ls : Array Slot), lv_has ls 6 [(4, .int x1), (3, .int x2), (2, .int x3), (0, .ref (q 0)), (1, .int a1)] → W p l e (headSpec wsX3_greatestBar rmX3_greatestBar).room s m av below meth c H locs 0 0 (MQ below (qI (dC, dI) A R0 ((wX cA q σN σ' σP κ rest))) av s 0 0 A) (F0 m 20 ls []) := by
        intro n
        induction n with
        | zero => intro x3 x2 x1 s4 hl0; exact (lp_0 hl0).elim
        | succ n ih1 =>
          intro x3 x2 x1 s4 hl0 H locs hP hD hS ls hl
          obtain ⟨z1, h1, hz1⟩ := lp_s hl0
          have h1 : bX3_greatestBar_20 σN σP κ x3 x2 x1 s4 = some z1 := h1
          unfold bX3_greatestBar_20 at h1
          refine lv_iload hx hb dX3_greatestBar_20 (lv_at hl 0 rfl) ?_
          refine lv_bipush (v := (8 : Int32)) hx hb dX3_greatestBar_22 (by decide) ?_
          refine lv_icmp_ge (tgt := 56) hx hb dX3_greatestBar_24 (by decide) (fun hc => ?_) (fun hc => ?_)
          · have h1 := it_t h1 hc
            have he := lp_r h1 hz1
            exact KN1 x3 x2 x1 s4 he _ _ hP hD hS ls (lv_sub hl [0, 1, 2, 3, 4] rfl)
          · have h1 := it_f h1 hc
            refine lv_aload_n hx hb dX3_greatestBar_27 rfl (lv_at hl 3 rfl) ?_
            refine lv_iload hx hb dX3_greatestBar_28 (lv_at hl 0 rfl) ?_
            obtain ⟨r5, s6, hf2, h1⟩ := bn2_some h1
            refine x_VI (As := [.int x1]) (rest := []) hC (kX3_givenIf l dC dI cA q rest x1 σN s4 σP κ r5 s6 hf2) (cwV 1 hts gX3_greatestBar_X3_givenIf rfl rfl rfl (by decide +kernel) ⟨Nat.le_of_ble_eq_true rfl, Nat.le_of_ble_eq_true rfl⟩) 0 3 hV hN hK hP hD hS hA rfl rfl rfl rfl hl.1 rfl (Nat.le_of_ble_eq_true rfl) ⟨Nat.zero_le _, Nat.zero_le _⟩ dX3_greatestBar_30 (fun H locs hP hD hS => ?_)
            obtain ⟨r7, hf3, h1⟩ := bnd_some h1
            refine x_SI (As := [.int r5]) (rest := []) hC (kJ6_bitCount_0f7a4 l dC dI cA r5 r7 hf3) (va_cwS 1 hts gX3_greatestBar_J6_bitCount_0f7a4 rfl rfl rfl (by decide +kernel) ⟨Nat.le_of_ble_eq_true rfl, Nat.le_of_ble_eq_true rfl⟩) hV hN hK hP hD hS hA rfl hl.1 rfl (Nat.le_of_ble_eq_true rfl) ⟨Nat.zero_le _, Nat.zero_le _⟩ dX3_greatestBar_33 (fun H locs hP hD hS => ?_)
            refine lv_istore (lv' := [(5, .int r7), (4, .int x1), (3, .int x2), (2, .int x3), (0, .ref (q 0)), (1, .int a1)]) hx hb dX3_greatestBar_36 hl (by decide) rfl (fun ls hl => ?_)
            refine lv_iload hx hb dX3_greatestBar_38 (lv_at hl 0 rfl) ?_
            refine lv_iload_n hx hb dX3_greatestBar_40 rfl (lv_at hl 3 rfl) ?_
            refine lv_icmp_le (tgt := 50) hx hb dX3_greatestBar_41 (by decide) (fun hc => ?_) (fun hc => ?_)
            · have h1 := it_t h1 hc
              obtain ⟨v8, ev8, h1⟩ := nm_some h1
              refine lv_iinc (v := v8) (lv' := [(4, .int v8), (5, .int r7), (3, .int x2), (2, .int x3), (0, .ref (q 0)), (1, .int a1)]) hx hb dX3_greatestBar_50 hl (k := 1) rfl (by rw [ev8]; rfl) (by decide) rfl (fun ls hl => ?_)
              refine lv_goto (tgt := 20) hx hb dX3_greatestBar_53 (by decide) ?_
              have hc := lp_l h1 hz1
              exact ih1 x3 x2 v8 s6 hc _ _ hP hD hS ls (lv_sub hl [0, 2, 3, 4, 5] rfl)
            · have h1 := it_f h1 hc
              refine lv_iload hx hb dX3_greatestBar_44 (lv_at hl 0 rfl) ?_
              refine lv_istore_n (lv' := [(2, .int r7), (5, .int r7), (4, .int x1), (3, .int x2), (0, .ref (q 0)), (1, .int a1)]) hx hb dX3_greatestBar_46 rfl hl (by decide) rfl (fun ls hl => ?_)
              refine lv_iload hx hb dX3_greatestBar_47 (lv_at hl 2 rfl) ?_
              refine lv_istore_n (lv' := [(3, .int x1), (2, .int r7), (5, .int r7), (4, .int x1), (0, .ref (q 0)), (1, .int a1)]) hx hb dX3_greatestBar_49 rfl hl (by decide) rfl (fun ls hl => ?_)
              obtain ⟨v9, ev9, h1⟩ := nm_some h1
              refine lv_iinc (v := v9) (lv' := [(4, .int v9), (3, .int x1), (2, .int r7), (5, .int r7), (0, .ref (q 0)), (1, .int a1)]) hx hb dX3_greatestBar_50 hl (k := 3) rfl (by rw [ev9]; rfl) (by decide) rfl (fun ls hl => ?_)
              refine lv_goto (tgt := 20) hx hb dX3_greatestBar_53 (by decide) ?_
              have hc := lp_l h1 hz1
              exact ih1 r7 x1 v9 s6 hc _ _ hP hD hS ls (lv_sub hl [0, 1, 2, 4, 5] rfl)
      exact LP1 FU (0 : Int32) (-6 : Int32) (0 : Int32) σW hl1 _ _ hP hD hS ls hl
    · have h0 := it_f h0 hc
      refine lv_bipush (v := (-2 : Int32)) hx hb dX3_greatestBar_9 (by decide) ?_
      obtain ⟨e1, e2⟩ := Prod.mk.inj (Option.some.inj h0)
      exact x_retI hC hr hlocks rfl hP hD hS dX3_greatestBar_11 ⟨e1, by rw [← e2]⟩
def fX3_inRow (a1 : Int32) (σN : St) (σW : St) (σP : St) (κ : St) : Option Int32 := if (a1 : Int32) < (0 : Int32) then (some (-1 : Int32)) else (if (a1 : Int32) < (σN 4 0) then (ax a1 8 (some (σN 3 (a1 : Int32).toNatClampNeg))) else (some (-1 : Int32)))
abbrev rmX3_inRow : Room := { frames := 0, cells := 0, slots := 0, locals := 0 }
set_option maxHeartbeats 4000000 in
set_option maxRecDepth 100000 in
theorem kX3_inRow (l : Launch) (dC : Nat → ClassId) (dI : Nat → Nat → Nat) (cA : Nat → ClassId) (q : Nat → Nat) (rest : va_W) (a1 : Int32) (σN : St) (σW : St) (σP : St) (κ : St) (R0 : Int32) (h0 : fX3_inRow a1 σN σW σP κ = some R0) : CI l yX3_inRow wsX3_inRow rmX3_inRow (dC, dI) vwCl (tysW cA) [.ref (q 0), .int a1] ((wX cA q σN σW σP κ rest)) R0 ((wX cA q σN σW σP κ rest)) := by
  refine CGI_of (cc := cX3_inRow) (nL := 2) (ret := (some .int)) (by decide) rfl (Nat.le_of_ble_eq_true rfl) ?_
  intro p e s m av below meth c A ls H locs hC hl
  obtain ⟨hC, hr, hlocks, hV, hN, hK, hP, hD, hS, hA⟩ := hC
  have hC : CallFix p m c cX3_inRow 2 s _ wsX3_inRow RX3 := hC
  obtain ⟨hx, hb, hml, hown, hts⟩ := id hC
  have hl : lv_has ls 2 [(0, .ref (q 0)), (1, .int a1)] := hl
  unfold fX3_inRow at h0
  refine lv_iload_n hx hb dX3_inRow_0 rfl (lv_at hl 1 rfl) ?_
  refine lv_if_lt (tgt := 15) hx hb dX3_inRow_1 (by decide) (fun hc => ?_) (fun hc => ?_)
  · have h0 := it_t h0 hc
    refine lv_iconst (v := (-1 : Int32)) hx hb dX3_inRow_15 (by decide) ?_
    have e1 := Option.some.inj h0
    exact x_retI hC hr hlocks rfl hP hD hS dX3_inRow_16 ⟨e1, rfl⟩
  · have h0 := it_f h0 hc
    refine lv_iload_n hx hb dX3_inRow_4 rfl (lv_at hl 1 rfl) ?_
    refine lv_aload_n hx hb dX3_inRow_5 rfl (lv_at hl 0 rfl) ?_
    refine va_get (D := (dC, dI)) (ci := 3) (v := .ref (q 1)) (C := RX3) (T := TX3) (N := 5) hx hb hts (fun _ h => (List.mem_cons_of_mem _ (List.mem_append_left _ (List.mem_append_right _ h)))) hown hK hP 0 rfl rfl 0 (by decide) (hts (.fieldLink RX3 12 "MeanLocks" "now" "LMeanLocks$Locks;") (List.mem_of_getElem? (i := 1) rfl)) (fun _ h9 => h9) rfl dX3_inRow_6 ?_
    refine va_get (D := (dC, dI)) (ci := 1) (v := .int (σN 4 0)) (C := RX1) (T := TX1) (N := 16) hx hb hts (fun _ h => (List.mem_cons_of_mem _ (List.mem_append_right _ h))) hown hK hP 1 rfl rfl 4 (by decide) (hts (.fieldLink RX3 107 "MeanLocks$Locks" "waiting" "I") (List.mem_of_getElem? (i := 2) rfl)) (fun _ h9 => h9) rfl dX3_inRow_9 ?_
    refine lv_icmp_lt (tgt := 17) hx hb dX3_inRow_12 (by decide) (fun hc => ?_) (fun hc => ?_)
    · have h0 := it_t h0 hc
      refine lv_aload_n hx hb dX3_inRow_17 rfl (lv_at hl 0 rfl) ?_
      refine va_get (D := (dC, dI)) (ci := 3) (v := .ref (q 1)) (C := RX3) (T := TX3) (N := 5) hx hb hts (fun _ h => (List.mem_cons_of_mem _ (List.mem_append_left _ (List.mem_append_right _ h)))) hown hK hP 0 rfl rfl 0 (by decide) (hts (.fieldLink RX3 12 "MeanLocks" "now" "LMeanLocks$Locks;") (List.mem_of_getElem? (i := 1) rfl)) (fun _ h9 => h9) rfl dX3_inRow_18 ?_
      refine va_get (D := (dC, dI)) (ci := 1) (v := .ref (q (10 + 3))) (C := RX1) (T := TX1) (N := 16) hx hb hts (fun _ h => (List.mem_cons_of_mem _ (List.mem_append_right _ h))) hown hK hP 1 rfl rfl 3 (by decide) (hts (.fieldLink RX3 111 "MeanLocks$Locks" "row" "[I") (List.mem_of_getElem? (i := 3) rfl)) (fun _ h9 => h9) rfl dX3_inRow_21 ?_
      refine lv_iload_n hx hb dX3_inRow_24 rfl (lv_at hl 1 rfl) ?_
      obtain ⟨hi, h0⟩ := ax_some h0
      refine va_iald hx hb hK hP 4 0 rfl rfl hi dX3_inRow_25 ?_
      have e1 := Option.some.inj h0
      exact x_retI hC hr hlocks rfl hP hD hS dX3_inRow_26 ⟨e1, rfl⟩
    · have h0 := it_f h0 hc
      refine lv_iconst (v := (-1 : Int32)) hx hb dX3_inRow_15 (by decide) ?_
      have e1 := Option.some.inj h0
      exact x_retI hC hr hlocks rfl hP hD hS dX3_inRow_16 ⟨e1, rfl⟩
def bX3_longestFor_41 (a1 : Int32) (a2 : Int32) (σN : St) (σW : St) (σP : St) (κ : St) (x6 : Int32) (x5 : Int32) (x4 : Int32) (x3 : Int32) : Option ((Int32 × Int32 × Int32 × Int32) ⊕ (Int32 × Int32 × Int32 × Int32)) := if (300 : Int32) ≤ x3 then (some (.inr (x6, x5, x4, x3))) else (bnd (fX3_couldLock a1 a2 x3 σN σW σP κ) fun r7 => if (r7 : Int32) = (0 : Int32) then (if ((0 : Int32) : Int32) ≤ x5 then (nm (x3 + (1 : Int32)) fun v8 => some (.inl ((0 : Int32), x5, x4, v8))) else (nm ((x3 + (1 : Int32)) - (0 : Int32)) fun v9 => nm (x3 + (1 : Int32)) fun v10 => some (.inl ((0 : Int32), (0 : Int32), v9, v10)))) else (nm (x6 + (1 : Int32)) fun v11 => if (v11 : Int32) ≤ x5 then (nm (x3 + (1 : Int32)) fun v12 => some (.inl (v11, x5, x4, v12))) else (nm ((x3 + (1 : Int32)) - v11) fun v13 => nm (x3 + (1 : Int32)) fun v14 => some (.inl (v11, v11, v13, v14)))))
def fX3_longestFor (a1 : Int32) (a2 : Int32) (a3 : Int32) (σN : St) (σW : St) (σP : St) (κ : St) : Option Int32 := bnd (fX3_isOwner a1) fun r1 => if (r1 : Int32) = (0 : Int32) then (some (-1 : Int32)) else (bnd (fX3_isLock a2) fun r2 => if (r2 : Int32) = (0 : Int32) then (some (-2 : Int32)) else (if (a3 : Int32) < (0 : Int32) then (some (-2 : Int32)) else (if (a3 : Int32) ≤ (1 : Int32) then (bnd (lp (fun t : (Int32 × Int32 × Int32 × Int32) => bX3_longestFor_41 a1 a2 σN σW σP κ t.1 t.2.1 t.2.2.1 t.2.2.2) FU ((0 : Int32), (0 : Int32), (-6 : Int32), (0 : Int32))) (fun e : (Int32 × Int32 × Int32 × Int32) => nm e.1 fun x15 => nm e.2.1 fun x16 => nm e.2.2.1 fun x17 => nm e.2.2.2 fun x18 => if (x16 : Int32) = (0 : Int32) then (some (-6 : Int32)) else (if (a3 : Int32) = (0 : Int32) then (some x17) else (some x16)))) else (some (-2 : Int32)))))
abbrev rmX3_longestFor : Room := { frames := 3, cells := 0, slots := 0, locals := 83 }
set_option maxHeartbeats 4000000 in
set_option maxRecDepth 100000 in
theorem kX3_longestFor (l : Launch) (dC : Nat → ClassId) (dI : Nat → Nat → Nat) (cA : Nat → ClassId) (q : Nat → Nat) (rest : va_W) (a1 : Int32) (a2 : Int32) (a3 : Int32) (σN : St) (σW : St) (σP : St) (κ : St) (R0 : Int32) (h0 : fX3_longestFor a1 a2 a3 σN σW σP κ = some R0) : CI l yX3_longestFor wsX3_longestFor rmX3_longestFor (dC, dI) vwCl (tysW cA) [.ref (q 0), .int a1, .int a2, .int a3] ((wX cA q σN σW σP κ rest)) R0 ((wX cA q σN σW σP κ rest)) := by
  refine CGI_of (cc := cX3_longestFor) (nL := 8) (ret := (some .int)) (by decide) rfl (Nat.le_of_ble_eq_true rfl) ?_
  intro p e s m av below meth c A ls H locs hC hl
  obtain ⟨hC, hr, hlocks, hV, hN, hK, hP, hD, hS, hA⟩ := hC
  have hC : CallFix p m c cX3_longestFor 8 s _ wsX3_longestFor RX3 := hC
  obtain ⟨hx, hb, hml, hown, hts⟩ := id hC
  have hl : lv_has ls 8 [(0, .ref (q 0)), (1, .int a1), (2, .int a2), (3, .int a3)] := hl
  unfold fX3_longestFor at h0
  refine lv_iload_n hx hb dX3_longestFor_0 rfl (lv_at hl 1 rfl) ?_
  obtain ⟨r1, hf1, h0⟩ := bnd_some h0
  refine x_SI (As := [.int a1]) (rest := []) hC (kX3_isOwner l dC dI cA a1 r1 hf1) (cwS 1 hts gX3_longestFor_X3_isOwner rfl rfl rfl (by decide +kernel) ⟨Nat.le_of_ble_eq_true rfl, Nat.le_of_ble_eq_true rfl⟩) hV hN hK hP hD hS hA rfl hl.1 rfl (Nat.le_of_ble_eq_true rfl) ⟨Nat.zero_le _, Nat.zero_le _⟩ dX3_longestFor_1 (fun H locs hP hD hS => ?_)
  refine lv_if_ne (tgt := 9) hx hb dX3_longestFor_4 (by decide) (fun hc => ?_) (fun hc => ?_)
  · have h0 := it_f h0 hc
    refine lv_iload_n hx hb dX3_longestFor_9 rfl (lv_at hl 2 rfl) ?_
    obtain ⟨r2, hf2, h0⟩ := bnd_some h0
    refine x_SI (As := [.int a2]) (rest := []) hC (kX3_isLock l dC dI cA a2 r2 hf2) (cwS 1 hts gX3_longestFor_X3_isLock rfl rfl rfl (by decide +kernel) ⟨Nat.le_of_ble_eq_true rfl, Nat.le_of_ble_eq_true rfl⟩) hV hN hK hP hD hS hA rfl hl.1 rfl (Nat.le_of_ble_eq_true rfl) ⟨Nat.zero_le _, Nat.zero_le _⟩ dX3_longestFor_10 (fun H locs hP hD hS => ?_)
    refine lv_if_eq (tgt := 25) hx hb dX3_longestFor_13 (by decide) (fun hc => ?_) (fun hc => ?_)
    · have h0 := it_t h0 hc
      refine lv_bipush (v := (-2 : Int32)) hx hb dX3_longestFor_25 (by decide) ?_
      have e1 := Option.some.inj h0
      exact x_retI hC hr hlocks rfl hP hD hS dX3_longestFor_27 ⟨e1, rfl⟩
    · have h0 := it_f h0 hc
      refine lv_iload_n hx hb dX3_longestFor_16 rfl (lv_at hl 3 rfl) ?_
      refine lv_if_lt (tgt := 25) hx hb dX3_longestFor_17 (by decide) (fun hc => ?_) (fun hc => ?_)
      · have h0 := it_t h0 hc
        refine lv_bipush (v := (-2 : Int32)) hx hb dX3_longestFor_25 (by decide) ?_
        have e1 := Option.some.inj h0
        exact x_retI hC hr hlocks rfl hP hD hS dX3_longestFor_27 ⟨e1, rfl⟩
      · have h0 := it_f h0 hc
        refine lv_iload_n hx hb dX3_longestFor_20 rfl (lv_at hl 3 rfl) ?_
        refine lv_iconst (v := (1 : Int32)) hx hb dX3_longestFor_21 (by decide) ?_
        refine lv_icmp_le (tgt := 28) hx hb dX3_longestFor_22 (by decide) (fun hc => ?_) (fun hc => ?_)
        · have h0 := it_t h0 hc
          refine lv_iconst (v := (0 : Int32)) hx hb dX3_longestFor_28 (by decide) ?_
          refine lv_istore (lv' := [(4, .int (0 : Int32)), (0, .ref (q 0)), (1, .int a1), (2, .int a2), (3, .int a3)]) hx hb dX3_longestFor_29 hl (by decide) rfl (fun ls hl => ?_)
          refine lv_iconst (v := (0 : Int32)) hx hb dX3_longestFor_31 (by decide) ?_
          refine lv_istore (lv' := [(5, .int (0 : Int32)), (4, .int (0 : Int32)), (0, .ref (q 0)), (1, .int a1), (2, .int a2), (3, .int a3)]) hx hb dX3_longestFor_32 hl (by decide) rfl (fun ls hl => ?_)
          refine lv_bipush (v := (-6 : Int32)) hx hb dX3_longestFor_34 (by decide) ?_
          refine lv_istore (lv' := [(6, .int (-6 : Int32)), (5, .int (0 : Int32)), (4, .int (0 : Int32)), (0, .ref (q 0)), (1, .int a1), (2, .int a2), (3, .int a3)]) hx hb dX3_longestFor_36 hl (by decide) rfl (fun ls hl => ?_)
          refine lv_iconst (v := (0 : Int32)) hx hb dX3_longestFor_38 (by decide) ?_
          refine lv_istore (lv' := [(7, .int (0 : Int32)), (6, .int (-6 : Int32)), (5, .int (0 : Int32)), (4, .int (0 : Int32)), (0, .ref (q 0)), (1, .int a1), (2, .int a2), (3, .int a3)]) hx hb dX3_longestFor_39 hl (by decide) rfl (fun ls hl => ?_)
          obtain ⟨ε3, hl3, h0⟩ := bnd_some h0
          have KN3 : ∀ (x15 : Int32) (x16 : Int32) (x17 : Int32) (x18 : Int32), ε3 = (x15, x16, x17, x18) → ∀ (H : Heap) (locs : List Loc), va_P (dC, dI) vwCl ((wX cA q σN σW σP κ rest)) H → va_D A ((wX cA q σN σW σP κ rest)) → va_S A s.heap H locs → ∀ (ls : Array Slot), lv_has ls 8 [(7, .int x18), (6, .int x17), (5, .int x16), (4, .int x15), (0, .ref (q 0)), (1, .int a1), (2, .int a2), (3, .int a3)] → W p l e (headSpec wsX3_longestFor rmX3_longestFor).room s m av below meth c H locs 0 0 (MQ below (qI (dC, dI) A R0 ((wX cA q σN σW σP κ rest))) av s 0 0 A) (F0 m 96 ls []) := by
            intro x15 x16 x17 x18 hε H locs hP hD hS ls hl
            rw [hε] at h0
            have h0 := nm_at (z := x15) rfl h0
            have h0 := nm_at (z := x16) rfl h0
            have h0 := nm_at (z := x17) rfl h0
            have h0 := nm_at (z := x18) rfl h0
            refine lv_iload hx hb dX3_longestFor_96 (lv_at hl 2 rfl) ?_
            refine lv_if_ne (tgt := 104) hx hb dX3_longestFor_98 (by decide) (fun hc => ?_) (fun hc => ?_)
            · have h0 := it_f h0 hc
              refine lv_iload_n hx hb dX3_longestFor_104 rfl (lv_at hl 7 rfl) ?_
              refine lv_if_ne (tgt := 113) hx hb dX3_longestFor_105 (by decide) (fun hc => ?_) (fun hc => ?_)
              · have h0 := it_f h0 hc
                refine lv_iload hx hb dX3_longestFor_113 (lv_at hl 2 rfl) ?_
                have e1 := Option.some.inj h0
                exact x_retI hC hr hlocks rfl hP hD hS dX3_longestFor_115 ⟨e1, rfl⟩
              · have h0 := it_t h0 hc
                refine lv_iload hx hb dX3_longestFor_108 (lv_at hl 1 rfl) ?_
                refine lv_goto (tgt := 115) hx hb dX3_longestFor_110 (by decide) ?_
                have e1 := Option.some.inj h0
                exact x_retI hC hr hlocks rfl hP hD hS dX3_longestFor_115 ⟨e1, rfl⟩
            · have h0 := it_t h0 hc
              refine lv_bipush (v := (-6 : Int32)) hx hb dX3_longestFor_101 (by decide) ?_
              have e1 := Option.some.inj h0
              exact x_retI hC hr hlocks rfl hP hD hS dX3_longestFor_103 ⟨e1, rfl⟩
          have LP3 : ∀ (n : Nat) (x6 : Int32) (x5 : Int32) (x4 : Int32) (x3 : Int32), lp (fun t : (Int32 × Int32 × Int32 × Int32) => bX3_longestFor_41 a1 a2 σN σW σP κ t.1 t.2.1 t.2.2.1 t.2.2.2) n (x6, x5, x4, x3) = some ε3 → ∀ (H : Heap) (locs : List Loc), va_P (dC, dI) vwCl ((wX cA q σN σW σP κ rest)) H → va_D A ((wX cA q σN σW σP κ rest)) → va_S A s.heap H locs → ∀ (ls : Array Slot), lv_has ls 8 [(7, .int x3), (6, .int x4), (5, .int x5), (4, .int x6), (0, .ref (q 0)), (1, .int a1), (2, .int a2), (3, .int a3)] → W p l e (headSpec wsX3_longestFor rmX3_longestFor).room s m av below meth c H locs 0 0 (MQ below (qI (dC, dI) A R0 ((wX cA q σN σW σP κ rest))) av s 0 0 A) (F0 m 41 ls []) := by
            intro n
            induction n with
            | zero => intro x6 x5 x4 x3 hl0; exact (lp_0 hl0).elim
            | succ n ih3 =>
              intro x6 x5 x4 x3 hl0 H locs hP hD hS ls hl
              obtain ⟨z3, h1, hz3⟩ := lp_s hl0
              have h1 : bX3_longestFor_41 a1 a2 σN σW σP κ x6 x5 x4 x3 = some z3 := h1
              unfold bX3_longestFor_41 at h1
              refine lv_iload hx hb dX3_longestFor_41 (lv_at hl 0 rfl) ?_
              refine lv_sipush (v := (300 : Int32)) hx hb dX3_longestFor_43 (by decide) ?_
              refine lv_icmp_ge (tgt := 96) hx hb dX3_longestFor_46 (by decide) (fun hc => ?_) (fun hc => ?_)
              · have h1 := it_t h1 hc
                have he := lp_r h1 hz3
                exact KN3 x6 x5 x4 x3 he _ _ hP hD hS ls (lv_sub hl [0, 1, 2, 3, 4, 5, 6, 7] rfl)
              · have h1 := it_f h1 hc
                refine lv_aload_n hx hb dX3_longestFor_49 rfl (lv_at hl 4 rfl) ?_
                refine lv_iload_n hx hb dX3_longestFor_50 rfl (lv_at hl 5 rfl) ?_
                refine lv_iload_n hx hb dX3_longestFor_51 rfl (lv_at hl 6 rfl) ?_
                refine lv_iload hx hb dX3_longestFor_52 (lv_at hl 0 rfl) ?_
                obtain ⟨r7, hf4, h1⟩ := bnd_some h1
                refine x_VI (As := [.int a1, .int a2, .int x3]) (rest := []) hC (kX3_couldLock l dC dI cA q rest a1 a2 x3 σN σW σP κ r7 hf4) (cwV 3 hts gX3_longestFor_X3_couldLock rfl rfl rfl (by decide +kernel) ⟨Nat.le_of_ble_eq_true rfl, Nat.le_of_ble_eq_true rfl⟩) 0 3 hV hN hK hP hD hS hA rfl rfl rfl rfl hl.1 rfl (Nat.le_of_ble_eq_true rfl) ⟨Nat.zero_le _, Nat.zero_le _⟩ dX3_longestFor_54 (fun H locs hP hD hS => ?_)
                refine lv_if_eq (tgt := 67) hx hb dX3_longestFor_57 (by decide) (fun hc => ?_) (fun hc => ?_)
                · have h1 := it_t h1 hc
                  refine lv_iconst (v := (0 : Int32)) hx hb dX3_longestFor_67 (by decide) ?_
                  refine lv_istore (lv' := [(4, .int (0 : Int32)), (7, .int x3), (6, .int x4), (5, .int x5), (0, .ref (q 0)), (1, .int a1), (2, .int a2), (3, .int a3)]) hx hb dX3_longestFor_68 hl (by decide) rfl (fun ls hl => ?_)
                  refine lv_iload hx hb dX3_longestFor_70 (lv_at hl 0 rfl) ?_
                  refine lv_iload hx hb dX3_longestFor_72 (lv_at hl 3 rfl) ?_
                  refine lv_icmp_le (tgt := 90) hx hb dX3_longestFor_74 (by decide) (fun hc => ?_) (fun hc => ?_)
                  · have h1 := it_t h1 hc
                    obtain ⟨v8, ev8, h1⟩ := nm_some h1
                    refine lv_iinc (v := v8) (lv' := [(7, .int v8), (4, .int (0 : Int32)), (6, .int x4), (5, .int x5), (0, .ref (q 0)), (1, .int a1), (2, .int a2), (3, .int a3)]) hx hb dX3_longestFor_90 hl (k := 1) rfl (by rw [ev8]; rfl) (by decide) rfl (fun ls hl => ?_)
                    refine lv_goto (tgt := 41) hx hb dX3_longestFor_93 (by decide) ?_
                    have hc := lp_l h1 hz3
                    exact ih3 (0 : Int32) x5 x4 v8 hc _ _ hP hD hS ls (lv_sub hl [0, 2, 3, 1, 4, 5, 6, 7] rfl)
                  · have h1 := it_f h1 hc
                    refine lv_iload hx hb dX3_longestFor_77 (lv_at hl 0 rfl) ?_
                    refine lv_istore (lv' := [(5, .int (0 : Int32)), (4, .int (0 : Int32)), (7, .int x3), (6, .int x4), (0, .ref (q 0)), (1, .int a1), (2, .int a2), (3, .int a3)]) hx hb dX3_longestFor_79 hl (by decide) rfl (fun ls hl => ?_)
                    refine lv_iload hx hb dX3_longestFor_81 (lv_at hl 2 rfl) ?_
                    refine lv_iconst (v := (1 : Int32)) hx hb dX3_longestFor_83 (by decide) ?_
                    refine lv_iadd hx hb dX3_longestFor_84 ?_
                    refine lv_iload hx hb dX3_longestFor_85 (lv_at hl 1 rfl) ?_
                    refine lv_isub hx hb dX3_longestFor_87 ?_
                    refine lv_topi (fun v9 ev9 => ?_)
                    have h1 := nm_at ev9 h1
                    refine lv_istore (lv' := [(6, .int v9), (5, .int (0 : Int32)), (4, .int (0 : Int32)), (7, .int x3), (0, .ref (q 0)), (1, .int a1), (2, .int a2), (3, .int a3)]) hx hb dX3_longestFor_88 hl (by decide) rfl (fun ls hl => ?_)
                    obtain ⟨v10, ev10, h1⟩ := nm_some h1
                    refine lv_iinc (v := v10) (lv' := [(7, .int v10), (6, .int v9), (5, .int (0 : Int32)), (4, .int (0 : Int32)), (0, .ref (q 0)), (1, .int a1), (2, .int a2), (3, .int a3)]) hx hb dX3_longestFor_90 hl (k := 3) rfl (by rw [ev10]; rfl) (by decide) rfl (fun ls hl => ?_)
                    refine lv_goto (tgt := 41) hx hb dX3_longestFor_93 (by decide) ?_
                    have hc := lp_l h1 hz3
                    exact ih3 (0 : Int32) (0 : Int32) v9 v10 hc _ _ hP hD hS ls (lv_sub hl [0, 1, 2, 3, 4, 5, 6, 7] rfl)
                · have h1 := it_f h1 hc
                  refine lv_iload hx hb dX3_longestFor_60 (lv_at hl 3 rfl) ?_
                  refine lv_iconst (v := (1 : Int32)) hx hb dX3_longestFor_62 (by decide) ?_
                  refine lv_iadd hx hb dX3_longestFor_63 ?_
                  refine lv_goto (tgt := 68) hx hb dX3_longestFor_64 (by decide) ?_
                  refine lv_topi (fun v11 ev11 => ?_)
                  have h1 := nm_at ev11 h1
                  refine lv_istore (lv' := [(4, .int v11), (7, .int x3), (6, .int x4), (5, .int x5), (0, .ref (q 0)), (1, .int a1), (2, .int a2), (3, .int a3)]) hx hb dX3_longestFor_68 hl (by decide) rfl (fun ls hl => ?_)
                  refine lv_iload hx hb dX3_longestFor_70 (lv_at hl 0 rfl) ?_
                  refine lv_iload hx hb dX3_longestFor_72 (lv_at hl 3 rfl) ?_
                  refine lv_icmp_le (tgt := 90) hx hb dX3_longestFor_74 (by decide) (fun hc => ?_) (fun hc => ?_)
                  · have h1 := it_t h1 hc
                    obtain ⟨v12, ev12, h1⟩ := nm_some h1
                    refine lv_iinc (v := v12) (lv' := [(7, .int v12), (4, .int v11), (6, .int x4), (5, .int x5), (0, .ref (q 0)), (1, .int a1), (2, .int a2), (3, .int a3)]) hx hb dX3_longestFor_90 hl (k := 1) rfl (by rw [ev12]; rfl) (by decide) rfl (fun ls hl => ?_)
                    refine lv_goto (tgt := 41) hx hb dX3_longestFor_93 (by decide) ?_
                    have hc := lp_l h1 hz3
                    exact ih3 v11 x5 x4 v12 hc _ _ hP hD hS ls (lv_sub hl [0, 2, 3, 1, 4, 5, 6, 7] rfl)
                  · have h1 := it_f h1 hc
                    refine lv_iload hx hb dX3_longestFor_77 (lv_at hl 0 rfl) ?_
                    refine lv_istore (lv' := [(5, .int v11), (4, .int v11), (7, .int x3), (6, .int x4), (0, .ref (q 0)), (1, .int a1), (2, .int a2), (3, .int a3)]) hx hb dX3_longestFor_79 hl (by decide) rfl (fun ls hl => ?_)
                    refine lv_iload hx hb dX3_longestFor_81 (lv_at hl 2 rfl) ?_
                    refine lv_iconst (v := (1 : Int32)) hx hb dX3_longestFor_83 (by decide) ?_
                    refine lv_iadd hx hb dX3_longestFor_84 ?_
                    refine lv_iload hx hb dX3_longestFor_85 (lv_at hl 1 rfl) ?_
                    refine lv_isub hx hb dX3_longestFor_87 ?_
                    refine lv_topi (fun v13 ev13 => ?_)
                    have h1 := nm_at ev13 h1
                    refine lv_istore (lv' := [(6, .int v13), (5, .int v11), (4, .int v11), (7, .int x3), (0, .ref (q 0)), (1, .int a1), (2, .int a2), (3, .int a3)]) hx hb dX3_longestFor_88 hl (by decide) rfl (fun ls hl => ?_)
                    obtain ⟨v14, ev14, h1⟩ := nm_some h1
                    refine lv_iinc (v := v14) (lv' := [(7, .int v14), (6, .int v13), (5, .int v11), (4, .int v11), (0, .ref (q 0)), (1, .int a1), (2, .int a2), (3, .int a3)]) hx hb dX3_longestFor_90 hl (k := 3) rfl (by rw [ev14]; rfl) (by decide) rfl (fun ls hl => ?_)
                    refine lv_goto (tgt := 41) hx hb dX3_longestFor_93 (by decide) ?_
                    have hc := lp_l h1 hz3
                    exact ih3 v11 v11 v13 v14 hc _ _ hP hD hS ls (lv_sub hl [0, 1, 2, 3, 4, 5, 6, 7] rfl)
          exact LP3 FU (0 : Int32) (0 : Int32) (-6 : Int32) (0 : Int32) hl3 _ _ hP hD hS ls hl
        · have h0 := it_f h0 hc
          refine lv_bipush (v := (-2 : Int32)) hx hb dX3_longestFor_25 (by decide) ?_
          have e1 := Option.some.inj h0
          exact x_retI hC hr hlocks rfl hP hD hS dX3_longestFor_27 ⟨e1, rfl⟩
  · have h0 := it_t h0 hc
    refine lv_iconst (v := (-1 : Int32)) hx hb dX3_longestFor_7 (by decide) ?_
    have e1 := Option.some.inj h0
    exact x_retI hC hr hlocks rfl hP hD hS dX3_longestFor_8 ⟨e1, rfl⟩
def fX3_ofRequest (a1 : Int32) (a2 : Int32) (σN : St) (σW : St) (σP : St) (κ : St) : Option Int32 := ax a1 8 (if ((σN 5 (a1 : Int32).toNatClampNeg) : Int32) = (0 : Int32) then (some (-6 : Int32)) else (if (a2 : Int32) = (4 : Int32) then (bnd (fX1_placeInRow a1 σN) fun r1 => some r1) else (if (a2 : Int32) = (5 : Int32) then (ax a1 8 (some (σN 5 (a1 : Int32).toNatClampNeg))) else (if (a2 : Int32) = (6 : Int32) then (ax a1 8 (some (σN 6 (a1 : Int32).toNatClampNeg))) else (if (a2 : Int32) = (7 : Int32) then (ax a1 8 (some (σN 7 (a1 : Int32).toNatClampNeg))) else (ax a1 8 (some (σN 8 (a1 : Int32).toNatClampNeg))))))))
abbrev rmX3_ofRequest : Room := { frames := 1, cells := 0, slots := 0, locals := 22 }
set_option maxHeartbeats 4000000 in
set_option maxRecDepth 100000 in
theorem kX3_ofRequest (l : Launch) (dC : Nat → ClassId) (dI : Nat → Nat → Nat) (cA : Nat → ClassId) (q : Nat → Nat) (rest : va_W) (a1 : Int32) (a2 : Int32) (σN : St) (σW : St) (σP : St) (κ : St) (R0 : Int32) (h0 : fX3_ofRequest a1 a2 σN σW σP κ = some R0) : CI l yX3_ofRequest wsX3_ofRequest rmX3_ofRequest (dC, dI) vwCl (tysW cA) [.ref (q 0), .int a1, .int a2] ((wX cA q σN σW σP κ rest)) R0 ((wX cA q σN σW σP κ rest)) := by
  refine CGI_of (cc := cX3_ofRequest) (nL := 3) (ret := (some .int)) (by decide) rfl (Nat.le_of_ble_eq_true rfl) ?_
  intro p e s m av below meth c A ls H locs hC hl
  obtain ⟨hC, hr, hlocks, hV, hN, hK, hP, hD, hS, hA⟩ := hC
  have hC : CallFix p m c cX3_ofRequest 3 s _ wsX3_ofRequest RX3 := hC
  obtain ⟨hx, hb, hml, hown, hts⟩ := id hC
  have hl : lv_has ls 3 [(0, .ref (q 0)), (1, .int a1), (2, .int a2)] := hl
  unfold fX3_ofRequest at h0
  refine lv_aload_n hx hb dX3_ofRequest_0 rfl (lv_at hl 0 rfl) ?_
  refine va_get (D := (dC, dI)) (ci := 3) (v := .ref (q 1)) (C := RX3) (T := TX3) (N := 5) hx hb hts (fun _ h => (List.mem_cons_of_mem _ (List.mem_append_left _ (List.mem_append_right _ h)))) hown hK hP 0 rfl rfl 0 (by decide) (hts (.fieldLink RX3 12 "MeanLocks" "now" "LMeanLocks$Locks;") (List.mem_of_getElem? (i := 1) rfl)) (fun _ h9 => h9) rfl dX3_ofRequest_1 ?_
  refine va_get (D := (dC, dI)) (ci := 1) (v := .ref (q (10 + 5))) (C := RX1) (T := TX1) (N := 16) hx hb hts (fun _ h => (List.mem_cons_of_mem _ (List.mem_append_right _ h))) hown hK hP 1 rfl rfl 5 (by decide) (hts (.fieldLink RX3 212 "MeanLocks$Locks" "wanted" "[I") (List.mem_of_getElem? (i := 2) rfl)) (fun _ h9 => h9) rfl dX3_ofRequest_4 ?_
  refine lv_iload_n hx hb dX3_ofRequest_7 rfl (lv_at hl 1 rfl) ?_
  obtain ⟨hi, h0⟩ := ax_some h0
  refine va_iald hx hb hK hP 5 0 rfl rfl hi dX3_ofRequest_8 ?_
  refine lv_if_ne (tgt := 15) hx hb dX3_ofRequest_9 (by decide) (fun hc => ?_) (fun hc => ?_)
  · have h0 := it_f h0 hc
    refine lv_iload_n hx hb dX3_ofRequest_15 rfl (lv_at hl 2 rfl) ?_
    by_cases hq4 : (a2 : Int32) = (4 : Int32)
    · have h0 := it_t h0 hq4
      refine lv_tableIn (tgt := 48) hx hb dX3_ofRequest_16 (by rw [hq4]; decide) (by rw [hq4]; decide) (off := 32) (by rw [hq4]; rfl) (by decide) ?_
      refine lv_aload_n hx hb dX3_ofRequest_48 rfl (lv_at hl 0 rfl) ?_
      refine va_get (D := (dC, dI)) (ci := 3) (v := .ref (q 1)) (C := RX3) (T := TX3) (N := 5) hx hb hts (fun _ h => (List.mem_cons_of_mem _ (List.mem_append_left _ (List.mem_append_right _ h)))) hown hK hP 0 rfl rfl 0 (by decide) (hts (.fieldLink RX3 12 "MeanLocks" "now" "LMeanLocks$Locks;") (List.mem_of_getElem? (i := 1) rfl)) (fun _ h9 => h9) rfl dX3_ofRequest_49 ?_
      refine lv_iload_n hx hb dX3_ofRequest_52 rfl (lv_at hl 1 rfl) ?_
      obtain ⟨r1, hf1, h0⟩ := bnd_some h0
      refine x_PI (As := [.int a1]) (rest := []) hC (kX1_placeInRow l dC dI cA (q 1) (fun k => q (10 + k)) a1 σN r1 hf1) (cwV 1 hts gX3_ofRequest_X1_placeInRow rfl rfl rfl (by decide +kernel) ⟨Nat.le_of_ble_eq_true rfl, Nat.le_of_ble_eq_true rfl⟩) 1 1 hV hN hK hP hD hS hA (pm_N cA q σN σW σP κ rest) (pm_N cA q σN σW σP κ rest).symm rfl rfl rfl rfl hl.1 rfl (Nat.le_of_ble_eq_true rfl) ⟨Nat.zero_le _, Nat.zero_le _⟩ dX3_ofRequest_53 (fun H locs hP hD hS => ?_)
      have e1 := Option.some.inj h0
      exact x_retI hC hr hlocks rfl hP hD hS dX3_ofRequest_56 ⟨e1, rfl⟩
    have h0 := it_f h0 hq4
    by_cases hq5 : (a2 : Int32) = (5 : Int32)
    · have h0 := it_t h0 hq5
      refine lv_tableIn (tgt := 57) hx hb dX3_ofRequest_16 (by rw [hq5]; decide) (by rw [hq5]; decide) (off := 41) (by rw [hq5]; rfl) (by decide) ?_
      refine lv_aload_n hx hb dX3_ofRequest_57 rfl (lv_at hl 0 rfl) ?_
      refine va_get (D := (dC, dI)) (ci := 3) (v := .ref (q 1)) (C := RX3) (T := TX3) (N := 5) hx hb hts (fun _ h => (List.mem_cons_of_mem _ (List.mem_append_left _ (List.mem_append_right _ h)))) hown hK hP 0 rfl rfl 0 (by decide) (hts (.fieldLink RX3 12 "MeanLocks" "now" "LMeanLocks$Locks;") (List.mem_of_getElem? (i := 1) rfl)) (fun _ h9 => h9) rfl dX3_ofRequest_58 ?_
      refine va_get (D := (dC, dI)) (ci := 1) (v := .ref (q (10 + 5))) (C := RX1) (T := TX1) (N := 16) hx hb hts (fun _ h => (List.mem_cons_of_mem _ (List.mem_append_right _ h))) hown hK hP 1 rfl rfl 5 (by decide) (hts (.fieldLink RX3 212 "MeanLocks$Locks" "wanted" "[I") (List.mem_of_getElem? (i := 2) rfl)) (fun _ h9 => h9) rfl dX3_ofRequest_61 ?_
      refine lv_iload_n hx hb dX3_ofRequest_64 rfl (lv_at hl 1 rfl) ?_
      obtain ⟨hi, h0⟩ := ax_some h0
      refine va_iald hx hb hK hP 5 0 rfl rfl hi dX3_ofRequest_65 ?_
      have e1 := Option.some.inj h0
      exact x_retI hC hr hlocks rfl hP hD hS dX3_ofRequest_66 ⟨e1, rfl⟩
    have h0 := it_f h0 hq5
    by_cases hq6 : (a2 : Int32) = (6 : Int32)
    · have h0 := it_t h0 hq6
      refine lv_tableIn (tgt := 67) hx hb dX3_ofRequest_16 (by rw [hq6]; decide) (by rw [hq6]; decide) (off := 51) (by rw [hq6]; rfl) (by decide) ?_
      refine lv_aload_n hx hb dX3_ofRequest_67 rfl (lv_at hl 0 rfl) ?_
      refine va_get (D := (dC, dI)) (ci := 3) (v := .ref (q 1)) (C := RX3) (T := TX3) (N := 5) hx hb hts (fun _ h => (List.mem_cons_of_mem _ (List.mem_append_left _ (List.mem_append_right _ h)))) hown hK hP 0 rfl rfl 0 (by decide) (hts (.fieldLink RX3 12 "MeanLocks" "now" "LMeanLocks$Locks;") (List.mem_of_getElem? (i := 1) rfl)) (fun _ h9 => h9) rfl dX3_ofRequest_68 ?_
      refine va_get (D := (dC, dI)) (ci := 1) (v := .ref (q (10 + 6))) (C := RX1) (T := TX1) (N := 16) hx hb hts (fun _ h => (List.mem_cons_of_mem _ (List.mem_append_right _ h))) hown hK hP 1 rfl rfl 6 (by decide) (hts (.fieldLink RX3 218 "MeanLocks$Locks" "from" "[I") (List.mem_of_getElem? (i := 3) rfl)) (fun _ h9 => h9) rfl dX3_ofRequest_71 ?_
      refine lv_iload_n hx hb dX3_ofRequest_74 rfl (lv_at hl 1 rfl) ?_
      obtain ⟨hi, h0⟩ := ax_some h0
      refine va_iald hx hb hK hP 6 0 rfl rfl hi dX3_ofRequest_75 ?_
      have e1 := Option.some.inj h0
      exact x_retI hC hr hlocks rfl hP hD hS dX3_ofRequest_76 ⟨e1, rfl⟩
    have h0 := it_f h0 hq6
    by_cases hq7 : (a2 : Int32) = (7 : Int32)
    · have h0 := it_t h0 hq7
      refine lv_tableIn (tgt := 77) hx hb dX3_ofRequest_16 (by rw [hq7]; decide) (by rw [hq7]; decide) (off := 61) (by rw [hq7]; rfl) (by decide) ?_
      refine lv_aload_n hx hb dX3_ofRequest_77 rfl (lv_at hl 0 rfl) ?_
      refine va_get (D := (dC, dI)) (ci := 3) (v := .ref (q 1)) (C := RX3) (T := TX3) (N := 5) hx hb hts (fun _ h => (List.mem_cons_of_mem _ (List.mem_append_left _ (List.mem_append_right _ h)))) hown hK hP 0 rfl rfl 0 (by decide) (hts (.fieldLink RX3 12 "MeanLocks" "now" "LMeanLocks$Locks;") (List.mem_of_getElem? (i := 1) rfl)) (fun _ h9 => h9) rfl dX3_ofRequest_78 ?_
      refine va_get (D := (dC, dI)) (ci := 1) (v := .ref (q (10 + 7))) (C := RX1) (T := TX1) (N := 16) hx hb hts (fun _ h => (List.mem_cons_of_mem _ (List.mem_append_right _ h))) hown hK hP 1 rfl rfl 7 (by decide) (hts (.fieldLink RX3 221 "MeanLocks$Locks" "to" "[I") (List.mem_of_getElem? (i := 4) rfl)) (fun _ h9 => h9) rfl dX3_ofRequest_81 ?_
      refine lv_iload_n hx hb dX3_ofRequest_84 rfl (lv_at hl 1 rfl) ?_
      obtain ⟨hi, h0⟩ := ax_some h0
      refine va_iald hx hb hK hP 7 0 rfl rfl hi dX3_ofRequest_85 ?_
      have e1 := Option.some.inj h0
      exact x_retI hC hr hlocks rfl hP hD hS dX3_ofRequest_86 ⟨e1, rfl⟩
    have h0 := it_f h0 hq7
    have hg : W p l e (headSpec wsX3_ofRequest rmX3_ofRequest).room s m av below meth c H locs 0 0 (MQ below (qI (dC, dI) A R0 ((wX cA q σN σW σP κ rest))) av s 0 0 A) (F0 m 87 ls []) := by
      refine lv_aload_n hx hb dX3_ofRequest_87 rfl (lv_at hl 0 rfl) ?_
      refine va_get (D := (dC, dI)) (ci := 3) (v := .ref (q 1)) (C := RX3) (T := TX3) (N := 5) hx hb hts (fun _ h => (List.mem_cons_of_mem _ (List.mem_append_left _ (List.mem_append_right _ h)))) hown hK hP 0 rfl rfl 0 (by decide) (hts (.fieldLink RX3 12 "MeanLocks" "now" "LMeanLocks$Locks;") (List.mem_of_getElem? (i := 1) rfl)) (fun _ h9 => h9) rfl dX3_ofRequest_88 ?_
      refine va_get (D := (dC, dI)) (ci := 1) (v := .ref (q (10 + 8))) (C := RX1) (T := TX1) (N := 16) hx hb hts (fun _ h => (List.mem_cons_of_mem _ (List.mem_append_right _ h))) hown hK hP 1 rfl rfl 8 (by decide) (hts (.fieldLink RX3 224 "MeanLocks$Locks" "waited" "[I") (List.mem_of_getElem? (i := 5) rfl)) (fun _ h9 => h9) rfl dX3_ofRequest_91 ?_
      refine lv_iload_n hx hb dX3_ofRequest_94 rfl (lv_at hl 1 rfl) ?_
      obtain ⟨hi, h0⟩ := ax_some h0
      refine va_iald hx hb hK hP 8 0 rfl rfl hi dX3_ofRequest_95 ?_
      have e1 := Option.some.inj h0
      exact x_retI hC hr hlocks rfl hP hD hS dX3_ofRequest_96 ⟨e1, rfl⟩
    by_cases hin : 4 ≤ (a2 : Int32).toInt ∧ (a2 : Int32).toInt ≤ 7
    · obtain ⟨k, hk⟩ : ∃ k : Int, (a2 : Int32).toInt = k := ⟨_, rfl⟩
      rw [hk] at hin
      rcases (show k = 4 ∨ k = 5 ∨ k = 6 ∨ k = 7 by omega) with rfl | rfl | rfl | rfl
      · exact absurd (sw_eq (n := (4 : Int32)) hk rfl) hq4
      · exact absurd (sw_eq (n := (5 : Int32)) hk rfl) hq5
      · exact absurd (sw_eq (n := (6 : Int32)) hk rfl) hq6
      · exact absurd (sw_eq (n := (7 : Int32)) hk rfl) hq7
    · exact lv_tableOut (tgt := 87) hx hb dX3_ofRequest_16 (by omega) (by decide) hg
  · have h0 := it_t h0 hc
    refine lv_bipush (v := (-6 : Int32)) hx hb dX3_ofRequest_12 (by decide) ?_
    have e1 := Option.some.inj h0
    exact x_retI hC hr hlocks rfl hP hD hS dX3_ofRequest_14 ⟨e1, rfl⟩
def fX3_ofOwner (a1 : Int32) (a2 : Int32) (σN : St) (σW : St) (σP : St) (κ : St) : Option Int32 := bnd (fX3_isOwner a1) fun r1 => if (r1 : Int32) = (0 : Int32) then (some (-1 : Int32)) else (if (a2 : Int32) = (0 : Int32) then (bnd (fX1_placesOf a1 (1 : Int32) σN) fun r2 => some r2) else (if (a2 : Int32) = (1 : Int32) then (bnd (fX1_placesOf a1 (2 : Int32) σN) fun r3 => some r3) else (if (a2 : Int32) = (2 : Int32) then (bnd (fX1_placesOf a1 (3 : Int32) σN) fun r4 => some r4) else (if (a2 : Int32) = (3 : Int32) then (bnd (fX1_stretchesOf a1 σN) fun r5 => some r5) else (if (a2 : Int32) = (4 : Int32) ∨ (a2 : Int32) = (5 : Int32) ∨ (a2 : Int32) = (6 : Int32) ∨ (a2 : Int32) = (7 : Int32) ∨ (a2 : Int32) = (8 : Int32) then (bnd (fX3_ofRequest a1 a2 σN σW σP κ) fun r6 => some r6) else (if (a2 : Int32) = (9 : Int32) then (ax a1 8 (some (σN 9 (a1 : Int32).toNatClampNeg))) else (if (a2 : Int32) = (10 : Int32) then (ax a1 8 (some (σN 10 (a1 : Int32).toNatClampNeg))) else (if (a2 : Int32) = (11 : Int32) then (ax a1 8 (some (σN 11 (a1 : Int32).toNatClampNeg))) else (if (a2 : Int32) = (12 : Int32) then (ax a1 8 (some (σN 12 (a1 : Int32).toNatClampNeg))) else (some (-2 : Int32)))))))))))
abbrev rmX3_ofOwner : Room := { frames := 3, cells := 0, slots := 0, locals := 69 }
set_option maxHeartbeats 4000000 in
set_option maxRecDepth 100000 in
theorem kX3_ofOwner (l : Launch) (dC : Nat → ClassId) (dI : Nat → Nat → Nat) (cA : Nat → ClassId) (q : Nat → Nat) (rest : va_W) (a1 : Int32) (a2 : Int32) (σN : St) (σW : St) (σP : St) (κ : St) (R0 : Int32) (h0 : fX3_ofOwner a1 a2 σN σW σP κ = some R0) : CI l yX3_ofOwner wsX3_ofOwner rmX3_ofOwner (dC, dI) vwCl (tysW cA) [.ref (q 0), .int a1, .int a2] ((wX cA q σN σW σP κ rest)) R0 ((wX cA q σN σW σP κ rest)) := by
  refine CGI_of (cc := cX3_ofOwner) (nL := 3) (ret := (some .int)) (by decide) rfl (Nat.le_of_ble_eq_true rfl) ?_
  intro p e s m av below meth c A ls H locs hC hl
  obtain ⟨hC, hr, hlocks, hV, hN, hK, hP, hD, hS, hA⟩ := hC
  have hC : CallFix p m c cX3_ofOwner 3 s _ wsX3_ofOwner RX3 := hC
  obtain ⟨hx, hb, hml, hown, hts⟩ := id hC
  have hl : lv_has ls 3 [(0, .ref (q 0)), (1, .int a1), (2, .int a2)] := hl
  unfold fX3_ofOwner at h0
  refine lv_iload_n hx hb dX3_ofOwner_0 rfl (lv_at hl 1 rfl) ?_
  obtain ⟨r1, hf1, h0⟩ := bnd_some h0
  refine x_SI (As := [.int a1]) (rest := []) hC (kX3_isOwner l dC dI cA a1 r1 hf1) (cwS 1 hts gX3_ofOwner_X3_isOwner rfl rfl rfl (by decide +kernel) ⟨Nat.le_of_ble_eq_true rfl, Nat.le_of_ble_eq_true rfl⟩) hV hN hK hP hD hS hA rfl hl.1 rfl (Nat.le_of_ble_eq_true rfl) ⟨Nat.zero_le _, Nat.zero_le _⟩ dX3_ofOwner_1 (fun H locs hP hD hS => ?_)
  refine lv_if_ne (tgt := 9) hx hb dX3_ofOwner_4 (by decide) (fun hc => ?_) (fun hc => ?_)
  · have h0 := it_f h0 hc
    refine lv_iload_n hx hb dX3_ofOwner_9 rfl (lv_at hl 2 rfl) ?_
    by_cases hq0 : (a2 : Int32) = (0 : Int32)
    · have h0 := it_t h0 hq0
      refine lv_tableIn (tgt := 76) hx hb dX3_ofOwner_10 (by rw [hq0]; decide) (by rw [hq0]; decide) (off := 66) (by rw [hq0]; rfl) (by decide) ?_
      refine lv_aload_n hx hb dX3_ofOwner_76 rfl (lv_at hl 0 rfl) ?_
      refine va_get (D := (dC, dI)) (ci := 3) (v := .ref (q 1)) (C := RX3) (T := TX3) (N := 5) hx hb hts (fun _ h => (List.mem_cons_of_mem _ (List.mem_append_left _ (List.mem_append_right _ h)))) hown hK hP 0 rfl rfl 0 (by decide) (hts (.fieldLink RX3 12 "MeanLocks" "now" "LMeanLocks$Locks;") (List.mem_of_getElem? (i := 1) rfl)) (fun _ h9 => h9) rfl dX3_ofOwner_77 ?_
      refine lv_iload_n hx hb dX3_ofOwner_80 rfl (lv_at hl 1 rfl) ?_
      refine lv_iconst (v := (1 : Int32)) hx hb dX3_ofOwner_81 (by decide) ?_
      obtain ⟨r2, hf2, h0⟩ := bnd_some h0
      refine x_PI (As := [.int a1, .int (1 : Int32)]) (rest := []) hC (kX1_placesOf l dC dI cA (q 1) (fun k => q (10 + k)) a1 (1 : Int32) σN r2 hf2) (cwV 2 hts gX3_ofOwner_X1_placesOf rfl rfl rfl (by decide +kernel) ⟨Nat.le_of_ble_eq_true rfl, Nat.le_of_ble_eq_true rfl⟩) 1 1 hV hN hK hP hD hS hA (pm_N cA q σN σW σP κ rest) (pm_N cA q σN σW σP κ rest).symm rfl rfl rfl rfl hl.1 rfl (Nat.le_of_ble_eq_true rfl) ⟨Nat.zero_le _, Nat.zero_le _⟩ dX3_ofOwner_82 (fun H locs hP hD hS => ?_)
      have e1 := Option.some.inj h0
      exact x_retI hC hr hlocks rfl hP hD hS dX3_ofOwner_85 ⟨e1, rfl⟩
    have h0 := it_f h0 hq0
    by_cases hq1 : (a2 : Int32) = (1 : Int32)
    · have h0 := it_t h0 hq1
      refine lv_tableIn (tgt := 86) hx hb dX3_ofOwner_10 (by rw [hq1]; decide) (by rw [hq1]; decide) (off := 76) (by rw [hq1]; rfl) (by decide) ?_
      refine lv_aload_n hx hb dX3_ofOwner_86 rfl (lv_at hl 0 rfl) ?_
      refine va_get (D := (dC, dI)) (ci := 3) (v := .ref (q 1)) (C := RX3) (T := TX3) (N := 5) hx hb hts (fun _ h => (List.mem_cons_of_mem _ (List.mem_append_left _ (List.mem_append_right _ h)))) hown hK hP 0 rfl rfl 0 (by decide) (hts (.fieldLink RX3 12 "MeanLocks" "now" "LMeanLocks$Locks;") (List.mem_of_getElem? (i := 1) rfl)) (fun _ h9 => h9) rfl dX3_ofOwner_87 ?_
      refine lv_iload_n hx hb dX3_ofOwner_90 rfl (lv_at hl 1 rfl) ?_
      refine lv_iconst (v := (2 : Int32)) hx hb dX3_ofOwner_91 (by decide) ?_
      obtain ⟨r3, hf3, h0⟩ := bnd_some h0
      refine x_PI (As := [.int a1, .int (2 : Int32)]) (rest := []) hC (kX1_placesOf l dC dI cA (q 1) (fun k => q (10 + k)) a1 (2 : Int32) σN r3 hf3) (cwV 2 hts gX3_ofOwner_X1_placesOf rfl rfl rfl (by decide +kernel) ⟨Nat.le_of_ble_eq_true rfl, Nat.le_of_ble_eq_true rfl⟩) 1 1 hV hN hK hP hD hS hA (pm_N cA q σN σW σP κ rest) (pm_N cA q σN σW σP κ rest).symm rfl rfl rfl rfl hl.1 rfl (Nat.le_of_ble_eq_true rfl) ⟨Nat.zero_le _, Nat.zero_le _⟩ dX3_ofOwner_92 (fun H locs hP hD hS => ?_)
      have e1 := Option.some.inj h0
      exact x_retI hC hr hlocks rfl hP hD hS dX3_ofOwner_95 ⟨e1, rfl⟩
    have h0 := it_f h0 hq1
    by_cases hq2 : (a2 : Int32) = (2 : Int32)
    · have h0 := it_t h0 hq2
      refine lv_tableIn (tgt := 96) hx hb dX3_ofOwner_10 (by rw [hq2]; decide) (by rw [hq2]; decide) (off := 86) (by rw [hq2]; rfl) (by decide) ?_
      refine lv_aload_n hx hb dX3_ofOwner_96 rfl (lv_at hl 0 rfl) ?_
      refine va_get (D := (dC, dI)) (ci := 3) (v := .ref (q 1)) (C := RX3) (T := TX3) (N := 5) hx hb hts (fun _ h => (List.mem_cons_of_mem _ (List.mem_append_left _ (List.mem_append_right _ h)))) hown hK hP 0 rfl rfl 0 (by decide) (hts (.fieldLink RX3 12 "MeanLocks" "now" "LMeanLocks$Locks;") (List.mem_of_getElem? (i := 1) rfl)) (fun _ h9 => h9) rfl dX3_ofOwner_97 ?_
      refine lv_iload_n hx hb dX3_ofOwner_100 rfl (lv_at hl 1 rfl) ?_
      refine lv_iconst (v := (3 : Int32)) hx hb dX3_ofOwner_101 (by decide) ?_
      obtain ⟨r4, hf4, h0⟩ := bnd_some h0
      refine x_PI (As := [.int a1, .int (3 : Int32)]) (rest := []) hC (kX1_placesOf l dC dI cA (q 1) (fun k => q (10 + k)) a1 (3 : Int32) σN r4 hf4) (cwV 2 hts gX3_ofOwner_X1_placesOf rfl rfl rfl (by decide +kernel) ⟨Nat.le_of_ble_eq_true rfl, Nat.le_of_ble_eq_true rfl⟩) 1 1 hV hN hK hP hD hS hA (pm_N cA q σN σW σP κ rest) (pm_N cA q σN σW σP κ rest).symm rfl rfl rfl rfl hl.1 rfl (Nat.le_of_ble_eq_true rfl) ⟨Nat.zero_le _, Nat.zero_le _⟩ dX3_ofOwner_102 (fun H locs hP hD hS => ?_)
      have e1 := Option.some.inj h0
      exact x_retI hC hr hlocks rfl hP hD hS dX3_ofOwner_105 ⟨e1, rfl⟩
    have h0 := it_f h0 hq2
    by_cases hq3 : (a2 : Int32) = (3 : Int32)
    · have h0 := it_t h0 hq3
      refine lv_tableIn (tgt := 106) hx hb dX3_ofOwner_10 (by rw [hq3]; decide) (by rw [hq3]; decide) (off := 96) (by rw [hq3]; rfl) (by decide) ?_
      refine lv_aload_n hx hb dX3_ofOwner_106 rfl (lv_at hl 0 rfl) ?_
      refine va_get (D := (dC, dI)) (ci := 3) (v := .ref (q 1)) (C := RX3) (T := TX3) (N := 5) hx hb hts (fun _ h => (List.mem_cons_of_mem _ (List.mem_append_left _ (List.mem_append_right _ h)))) hown hK hP 0 rfl rfl 0 (by decide) (hts (.fieldLink RX3 12 "MeanLocks" "now" "LMeanLocks$Locks;") (List.mem_of_getElem? (i := 1) rfl)) (fun _ h9 => h9) rfl dX3_ofOwner_107 ?_
      refine lv_iload_n hx hb dX3_ofOwner_110 rfl (lv_at hl 1 rfl) ?_
      obtain ⟨r5, hf5, h0⟩ := bnd_some h0
      refine x_PI (As := [.int a1]) (rest := []) hC (kX1_stretchesOf l dC dI cA (q 1) (fun k => q (10 + k)) a1 σN r5 hf5) (cwV 1 hts gX3_ofOwner_X1_stretchesOf rfl rfl rfl (by decide +kernel) ⟨Nat.le_of_ble_eq_true rfl, Nat.le_of_ble_eq_true rfl⟩) 1 1 hV hN hK hP hD hS hA (pm_N cA q σN σW σP κ rest) (pm_N cA q σN σW σP κ rest).symm rfl rfl rfl rfl hl.1 rfl (Nat.le_of_ble_eq_true rfl) ⟨Nat.zero_le _, Nat.zero_le _⟩ dX3_ofOwner_111 (fun H locs hP hD hS => ?_)
      have e1 := Option.some.inj h0
      exact x_retI hC hr hlocks rfl hP hD hS dX3_ofOwner_114 ⟨e1, rfl⟩
    have h0 := it_f h0 hq3
    by_cases hq4 : (a2 : Int32) = (4 : Int32) ∨ (a2 : Int32) = (5 : Int32) ∨ (a2 : Int32) = (6 : Int32) ∨ (a2 : Int32) = (7 : Int32) ∨ (a2 : Int32) = (8 : Int32)
    · have h0 := it_t h0 hq4
      have hg : W p l e (headSpec wsX3_ofOwner rmX3_ofOwner).room s m av below meth c H locs 0 0 (MQ below (qI (dC, dI) A R0 ((wX cA q σN σW σP κ rest))) av s 0 0 A) (F0 m 115 ls []) := by
        refine lv_aload_n hx hb dX3_ofOwner_115 rfl (lv_at hl 0 rfl) ?_
        refine lv_iload_n hx hb dX3_ofOwner_116 rfl (lv_at hl 1 rfl) ?_
        refine lv_iload_n hx hb dX3_ofOwner_117 rfl (lv_at hl 2 rfl) ?_
        obtain ⟨r6, hf6, h0⟩ := bnd_some h0
        refine x_VI (As := [.int a1, .int a2]) (rest := []) hC (kX3_ofRequest l dC dI cA q rest a1 a2 σN σW σP κ r6 hf6) (cwV 2 hts gX3_ofOwner_X3_ofRequest rfl rfl rfl (by decide +kernel) ⟨Nat.le_of_ble_eq_true rfl, Nat.le_of_ble_eq_true rfl⟩) 0 3 hV hN hK hP hD hS hA rfl rfl rfl rfl hl.1 rfl (Nat.le_of_ble_eq_true rfl) ⟨Nat.zero_le _, Nat.zero_le _⟩ dX3_ofOwner_118 (fun H locs hP hD hS => ?_)
        have e1 := Option.some.inj h0
        exact x_retI hC hr hlocks rfl hP hD hS dX3_ofOwner_121 ⟨e1, rfl⟩
      rcases hq4 with hk | hk | hk | hk | hk
      · refine lv_tableIn (tgt := 115) hx hb dX3_ofOwner_10 (by rw [hk]; decide) (by rw [hk]; decide) (off := 105) (by rw [hk]; rfl) (by decide) ?_
        exact hg
      · refine lv_tableIn (tgt := 115) hx hb dX3_ofOwner_10 (by rw [hk]; decide) (by rw [hk]; decide) (off := 105) (by rw [hk]; rfl) (by decide) ?_
        exact hg
      · refine lv_tableIn (tgt := 115) hx hb dX3_ofOwner_10 (by rw [hk]; decide) (by rw [hk]; decide) (off := 105) (by rw [hk]; rfl) (by decide) ?_
        exact hg
      · refine lv_tableIn (tgt := 115) hx hb dX3_ofOwner_10 (by rw [hk]; decide) (by rw [hk]; decide) (off := 105) (by rw [hk]; rfl) (by decide) ?_
        exact hg
      · refine lv_tableIn (tgt := 115) hx hb dX3_ofOwner_10 (by rw [hk]; decide) (by rw [hk]; decide) (off := 105) (by rw [hk]; rfl) (by decide) ?_
        exact hg
    have h0 := it_f h0 hq4
    by_cases hq9 : (a2 : Int32) = (9 : Int32)
    · have h0 := it_t h0 hq9
      refine lv_tableIn (tgt := 122) hx hb dX3_ofOwner_10 (by rw [hq9]; decide) (by rw [hq9]; decide) (off := 112) (by rw [hq9]; rfl) (by decide) ?_
      refine lv_aload_n hx hb dX3_ofOwner_122 rfl (lv_at hl 0 rfl) ?_
      refine va_get (D := (dC, dI)) (ci := 3) (v := .ref (q 1)) (C := RX3) (T := TX3) (N := 5) hx hb hts (fun _ h => (List.mem_cons_of_mem _ (List.mem_append_left _ (List.mem_append_right _ h)))) hown hK hP 0 rfl rfl 0 (by decide) (hts (.fieldLink RX3 12 "MeanLocks" "now" "LMeanLocks$Locks;") (List.mem_of_getElem? (i := 1) rfl)) (fun _ h9 => h9) rfl dX3_ofOwner_123 ?_
      refine va_get (D := (dC, dI)) (ci := 1) (v := .ref (q (10 + 9))) (C := RX1) (T := TX1) (N := 16) hx hb hts (fun _ h => (List.mem_cons_of_mem _ (List.mem_append_right _ h))) hown hK hP 1 rfl rfl 9 (by decide) (hts (.fieldLink RX3 89 "MeanLocks$Locks" "given" "[I") (List.mem_of_getElem? (i := 2) rfl)) (fun _ h9 => h9) rfl dX3_ofOwner_126 ?_
      refine lv_iload_n hx hb dX3_ofOwner_129 rfl (lv_at hl 1 rfl) ?_
      obtain ⟨hi, h0⟩ := ax_some h0
      refine va_iald hx hb hK hP 9 0 rfl rfl hi dX3_ofOwner_130 ?_
      have e1 := Option.some.inj h0
      exact x_retI hC hr hlocks rfl hP hD hS dX3_ofOwner_131 ⟨e1, rfl⟩
    have h0 := it_f h0 hq9
    by_cases hq10 : (a2 : Int32) = (10 : Int32)
    · have h0 := it_t h0 hq10
      refine lv_tableIn (tgt := 132) hx hb dX3_ofOwner_10 (by rw [hq10]; decide) (by rw [hq10]; decide) (off := 122) (by rw [hq10]; rfl) (by decide) ?_
      refine lv_aload_n hx hb dX3_ofOwner_132 rfl (lv_at hl 0 rfl) ?_
      refine va_get (D := (dC, dI)) (ci := 3) (v := .ref (q 1)) (C := RX3) (T := TX3) (N := 5) hx hb hts (fun _ h => (List.mem_cons_of_mem _ (List.mem_append_left _ (List.mem_append_right _ h)))) hown hK hP 0 rfl rfl 0 (by decide) (hts (.fieldLink RX3 12 "MeanLocks" "now" "LMeanLocks$Locks;") (List.mem_of_getElem? (i := 1) rfl)) (fun _ h9 => h9) rfl dX3_ofOwner_133 ?_
      refine va_get (D := (dC, dI)) (ci := 1) (v := .ref (q (10 + 10))) (C := RX1) (T := TX1) (N := 16) hx hb hts (fun _ h => (List.mem_cons_of_mem _ (List.mem_append_right _ h))) hown hK hP 1 rfl rfl 10 (by decide) (hts (.fieldLink RX3 92 "MeanLocks$Locks" "begun" "[I") (List.mem_of_getElem? (i := 3) rfl)) (fun _ h9 => h9) rfl dX3_ofOwner_136 ?_
      refine lv_iload_n hx hb dX3_ofOwner_139 rfl (lv_at hl 1 rfl) ?_
      obtain ⟨hi, h0⟩ := ax_some h0
      refine va_iald hx hb hK hP 10 0 rfl rfl hi dX3_ofOwner_140 ?_
      have e1 := Option.some.inj h0
      exact x_retI hC hr hlocks rfl hP hD hS dX3_ofOwner_141 ⟨e1, rfl⟩
    have h0 := it_f h0 hq10
    by_cases hq11 : (a2 : Int32) = (11 : Int32)
    · have h0 := it_t h0 hq11
      refine lv_tableIn (tgt := 142) hx hb dX3_ofOwner_10 (by rw [hq11]; decide) (by rw [hq11]; decide) (off := 132) (by rw [hq11]; rfl) (by decide) ?_
      refine lv_aload_n hx hb dX3_ofOwner_142 rfl (lv_at hl 0 rfl) ?_
      refine va_get (D := (dC, dI)) (ci := 3) (v := .ref (q 1)) (C := RX3) (T := TX3) (N := 5) hx hb hts (fun _ h => (List.mem_cons_of_mem _ (List.mem_append_left _ (List.mem_append_right _ h)))) hown hK hP 0 rfl rfl 0 (by decide) (hts (.fieldLink RX3 12 "MeanLocks" "now" "LMeanLocks$Locks;") (List.mem_of_getElem? (i := 1) rfl)) (fun _ h9 => h9) rfl dX3_ofOwner_143 ?_
      refine va_get (D := (dC, dI)) (ci := 1) (v := .ref (q (10 + 11))) (C := RX1) (T := TX1) (N := 16) hx hb hts (fun _ h => (List.mem_cons_of_mem _ (List.mem_append_right _ h))) hown hK hP 1 rfl rfl 11 (by decide) (hts (.fieldLink RX3 95 "MeanLocks$Locks" "givenUp" "[I") (List.mem_of_getElem? (i := 4) rfl)) (fun _ h9 => h9) rfl dX3_ofOwner_146 ?_
      refine lv_iload_n hx hb dX3_ofOwner_149 rfl (lv_at hl 1 rfl) ?_
      obtain ⟨hi, h0⟩ := ax_some h0
      refine va_iald hx hb hK hP 11 0 rfl rfl hi dX3_ofOwner_150 ?_
      have e1 := Option.some.inj h0
      exact x_retI hC hr hlocks rfl hP hD hS dX3_ofOwner_151 ⟨e1, rfl⟩
    have h0 := it_f h0 hq11
    by_cases hq12 : (a2 : Int32) = (12 : Int32)
    · have h0 := it_t h0 hq12
      refine lv_tableIn (tgt := 152) hx hb dX3_ofOwner_10 (by rw [hq12]; decide) (by rw [hq12]; decide) (off := 142) (by rw [hq12]; rfl) (by decide) ?_
      refine lv_aload_n hx hb dX3_ofOwner_152 rfl (lv_at hl 0 rfl) ?_
      refine va_get (D := (dC, dI)) (ci := 3) (v := .ref (q 1)) (C := RX3) (T := TX3) (N := 5) hx hb hts (fun _ h => (List.mem_cons_of_mem _ (List.mem_append_left _ (List.mem_append_right _ h)))) hown hK hP 0 rfl rfl 0 (by decide) (hts (.fieldLink RX3 12 "MeanLocks" "now" "LMeanLocks$Locks;") (List.mem_of_getElem? (i := 1) rfl)) (fun _ h9 => h9) rfl dX3_ofOwner_153 ?_
      refine va_get (D := (dC, dI)) (ci := 1) (v := .ref (q (10 + 12))) (C := RX1) (T := TX1) (N := 16) hx hb hts (fun _ h => (List.mem_cons_of_mem _ (List.mem_append_right _ h))) hown hK hP 1 rfl rfl 12 (by decide) (hts (.fieldLink RX3 98 "MeanLocks$Locks" "longestWait" "[I") (List.mem_of_getElem? (i := 5) rfl)) (fun _ h9 => h9) rfl dX3_ofOwner_156 ?_
      refine lv_iload_n hx hb dX3_ofOwner_159 rfl (lv_at hl 1 rfl) ?_
      obtain ⟨hi, h0⟩ := ax_some h0
      refine va_iald hx hb hK hP 12 0 rfl rfl hi dX3_ofOwner_160 ?_
      have e1 := Option.some.inj h0
      exact x_retI hC hr hlocks rfl hP hD hS dX3_ofOwner_161 ⟨e1, rfl⟩
    have h0 := it_f h0 hq12
    have hg : W p l e (headSpec wsX3_ofOwner rmX3_ofOwner).room s m av below meth c H locs 0 0 (MQ below (qI (dC, dI) A R0 ((wX cA q σN σW σP κ rest))) av s 0 0 A) (F0 m 162 ls []) := by
      refine lv_bipush (v := (-2 : Int32)) hx hb dX3_ofOwner_162 (by decide) ?_
      have e1 := Option.some.inj h0
      exact x_retI hC hr hlocks rfl hP hD hS dX3_ofOwner_164 ⟨e1, rfl⟩
    by_cases hin : 0 ≤ (a2 : Int32).toInt ∧ (a2 : Int32).toInt ≤ 12
    · obtain ⟨k, hk⟩ : ∃ k : Int, (a2 : Int32).toInt = k := ⟨_, rfl⟩
      rw [hk] at hin
      rcases (show k = 0 ∨ k = 1 ∨ k = 2 ∨ k = 3 ∨ k = 4 ∨ k = 5 ∨ k = 6 ∨ k = 7 ∨ k = 8 ∨ k = 9 ∨ k = 10 ∨ k = 11 ∨ k = 12 by omega) with rfl | rfl | rfl | rfl | rfl | rfl | rfl | rfl | rfl | rfl | rfl | rfl | rfl
      · exact absurd (sw_eq (n := (0 : Int32)) hk rfl) hq0
      · exact absurd (sw_eq (n := (1 : Int32)) hk rfl) hq1
      · exact absurd (sw_eq (n := (2 : Int32)) hk rfl) hq2
      · exact absurd (sw_eq (n := (3 : Int32)) hk rfl) hq3
      · exact absurd (Or.inl (sw_eq (n := (4 : Int32)) hk rfl)) hq4
      · exact absurd (Or.inr (Or.inl (sw_eq (n := (5 : Int32)) hk rfl))) hq4
      · exact absurd (Or.inr (Or.inr (Or.inl (sw_eq (n := (6 : Int32)) hk rfl)))) hq4
      · exact absurd (Or.inr (Or.inr (Or.inr (Or.inl (sw_eq (n := (7 : Int32)) hk rfl))))) hq4
      · exact absurd (Or.inr (Or.inr (Or.inr (Or.inr (sw_eq (n := (8 : Int32)) hk rfl))))) hq4
      · exact absurd (sw_eq (n := (9 : Int32)) hk rfl) hq9
      · exact absurd (sw_eq (n := (10 : Int32)) hk rfl) hq10
      · exact absurd (sw_eq (n := (11 : Int32)) hk rfl) hq11
      · exact absurd (sw_eq (n := (12 : Int32)) hk rfl) hq12
    · exact lv_tableOut (tgt := 162) hx hb dX3_ofOwner_10 (by omega) (by decide) hg
  · have h0 := it_t h0 hc
    refine lv_iconst (v := (-1 : Int32)) hx hb dX3_ofOwner_7 (by decide) ?_
    have e1 := Option.some.inj h0
    exact x_retI hC hr hlocks rfl hP hD hS dX3_ofOwner_8 ⟨e1, rfl⟩
def bX3_owners_26 (a1 : Int32) (a2 : Int32) (σN : St) (x3 : Int32) (x2 : Int32) : Option ((Int32 × Int32) ⊕ (Int32 × Int32)) := if (8 : Int32) ≤ x2 then (some (.inr (x3, x2))) else (bnd (fX1_kindAt x2 a1 σN) fun r4 => if (r4 : Int32) = a2 then (nm (x3 ||| ((1 : Int32) <<< (x2 &&& 31))) fun v6 => nm (x2 + (1 : Int32)) fun v7 => some (.inl (v6, v7))) else (nm (x2 + (1 : Int32)) fun v5 => some (.inl (x3, v5))))
def fX3_owners (a1 : Int32) (a2 : Int32) (σN : St) (σW : St) (σP : St) (κ : St) : Option Int32 := bnd (fX3_isPlace a1) fun r1 => if (r1 : Int32) = (0 : Int32) then (some (-1 : Int32)) else (if (a2 : Int32) < (0 : Int32) then (some (-2 : Int32)) else (if (a2 : Int32) ≤ (3 : Int32) then (bnd (lp (fun t : (Int32 × Int32) => bX3_owners_26 a1 a2 σN t.1 t.2) FU ((0 : Int32), (0 : Int32))) (fun e : (Int32 × Int32) => nm e.1 fun x8 => nm e.2 fun x9 => some x8)) else (some (-2 : Int32))))
abbrev rmX3_owners : Room := { frames := 1, cells := 0, slots := 0, locals := 23 }
set_option maxHeartbeats 4000000 in
set_option maxRecDepth 100000 in
theorem kX3_owners (l : Launch) (dC : Nat → ClassId) (dI : Nat → Nat → Nat) (cA : Nat → ClassId) (q : Nat → Nat) (rest : va_W) (a1 : Int32) (a2 : Int32) (σN : St) (σW : St) (σP : St) (κ : St) (R0 : Int32) (h0 : fX3_owners a1 a2 σN σW σP κ = some R0) : CI l yX3_owners wsX3_owners rmX3_owners (dC, dI) vwCl (tysW cA) [.ref (q 0), .int a1, .int a2] ((wX cA q σN σW σP κ rest)) R0 ((wX cA q σN σW σP κ rest)) := by
  refine CGI_of (cc := cX3_owners) (nL := 5) (ret := (some .int)) (by decide) rfl (Nat.le_of_ble_eq_true rfl) ?_
  intro p e s m av below meth c A ls H locs hC hl
  obtain ⟨hC, hr, hlocks, hV, hN, hK, hP, hD, hS, hA⟩ := hC
  have hC : CallFix p m c cX3_owners 5 s _ wsX3_owners RX3 := hC
  obtain ⟨hx, hb, hml, hown, hts⟩ := id hC
  have hl : lv_has ls 5 [(0, .ref (q 0)), (1, .int a1), (2, .int a2)] := hl
  unfold fX3_owners at h0
  refine lv_iload_n hx hb dX3_owners_0 rfl (lv_at hl 1 rfl) ?_
  obtain ⟨r1, hf1, h0⟩ := bnd_some h0
  refine x_SI (As := [.int a1]) (rest := []) hC (kX3_isPlace l dC dI cA a1 r1 hf1) (cwS 1 hts gX3_owners_X3_isPlace rfl rfl rfl (by decide +kernel) ⟨Nat.le_of_ble_eq_true rfl, Nat.le_of_ble_eq_true rfl⟩) hV hN hK hP hD hS hA rfl hl.1 rfl (Nat.le_of_ble_eq_true rfl) ⟨Nat.zero_le _, Nat.zero_le _⟩ dX3_owners_1 (fun H locs hP hD hS => ?_)
  refine lv_if_ne (tgt := 9) hx hb dX3_owners_4 (by decide) (fun hc => ?_) (fun hc => ?_)
  · have h0 := it_f h0 hc
    refine lv_iload_n hx hb dX3_owners_9 rfl (lv_at hl 2 rfl) ?_
    refine lv_if_lt (tgt := 18) hx hb dX3_owners_10 (by decide) (fun hc => ?_) (fun hc => ?_)
    · have h0 := it_t h0 hc
      refine lv_bipush (v := (-2 : Int32)) hx hb dX3_owners_18 (by decide) ?_
      have e1 := Option.some.inj h0
      exact x_retI hC hr hlocks rfl hP hD hS dX3_owners_20 ⟨e1, rfl⟩
    · have h0 := it_f h0 hc
      refine lv_iload_n hx hb dX3_owners_13 rfl (lv_at hl 2 rfl) ?_
      refine lv_iconst (v := (3 : Int32)) hx hb dX3_owners_14 (by decide) ?_
      refine lv_icmp_le (tgt := 21) hx hb dX3_owners_15 (by decide) (fun hc => ?_) (fun hc => ?_)
      · have h0 := it_t h0 hc
        refine lv_iconst (v := (0 : Int32)) hx hb dX3_owners_21 (by decide) ?_
        refine lv_istore_n (lv' := [(3, .int (0 : Int32)), (0, .ref (q 0)), (1, .int a1), (2, .int a2)]) hx hb dX3_owners_22 rfl hl (by decide) rfl (fun ls hl => ?_)
        refine lv_iconst (v := (0 : Int32)) hx hb dX3_owners_23 (by decide) ?_
        refine lv_istore (lv' := [(4, .int (0 : Int32)), (3, .int (0 : Int32)), (0, .ref (q 0)), (1, .int a1), (2, .int a2)]) hx hb dX3_owners_24 hl (by decide) rfl (fun ls hl => ?_)
        obtain ⟨ε2, hl2, h0⟩ := bnd_some h0
        have KN2 : ∀ (x8 : Int32) (x9 : Int32), ε2 = (x8, x9) → ∀ (H : Heap) (locs : List Loc), va_P (dC, dI) vwCl ((wX cA q σN σW σP κ rest)) H → va_D A ((wX cA q σN σW σP κ rest)) → va_S A s.heap H locs → ∀ (ls : Array Slot), lv_has ls 5 [(4, .int x9), (3, .int x8), (0, .ref (q 0)), (1, .int a1), (2, .int a2)] → W p l e (headSpec wsX3_owners rmX3_owners).room s m av below meth c H locs 0 0 (MQ below (qI (dC, dI) A R0 ((wX cA q σN σW σP κ rest))) av s 0 0 A) (F0 m 60 ls []) := by
          intro x8 x9 hε H locs hP hD hS ls hl
          rw [hε] at h0
          have h0 := nm_at (z := x8) rfl h0
          have h0 := nm_at (z := x9) rfl h0
          refine lv_iload_n hx hb dX3_owners_60 rfl (lv_at hl 1 rfl) ?_
          have e1 := Option.some.inj h0
          exact x_retI hC hr hlocks rfl hP hD hS dX3_owners_61 ⟨e1, rfl⟩
        have LP2 : ∀ (n : Nat) (x3 : Int32) (x2 : Int32), lp (fun t : (Int32 × Int32) => bX3_owners_26 a1 a2 σN t.1 t.2) n (x3, x2) = some ε2 → ∀ (H : Heap) (locs : List Loc), va_P (dC, dI) vwCl ((wX cA q σN σW σP κ rest)) H → va_D A ((wX cA q σN σW σP κ rest)) → va_S A s.heap H locs → ∀ (ls : Array Slot), lv_has ls 5 [(4, .int x2), (3, .int x3), (0, .ref (q 0)), (1, .int a1), (2, .int a2)] → W p l e (headSpec wsX3_owners rmX3_owners).room s m av below meth c H locs 0 0 (MQ below (qI (dC, dI) A R0 ((wX cA q σN σW σP κ rest))) av s 0 0 A) (F0 m 26 ls []) := by
          intro n
          induction n with
          | zero => intro x3 x2 hl0; exact (lp_0 hl0).elim
          | succ n ih2 =>
            intro x3 x2 hl0 H locs hP hD hS ls hl
            obtain ⟨z2, h1, hz2⟩ := lp_s hl0
            have h1 : bX3_owners_26 a1 a2 σN x3 x2 = some z2 := h1
            unfold bX3_owners_26 at h1
            refine lv_iload hx hb dX3_owners_26 (lv_at hl 0 rfl) ?_
            refine lv_bipush (v := (8 : Int32)) hx hb dX3_owners_28 (by decide) ?_
            refine lv_icmp_ge (tgt := 60) hx hb dX3_owners_30 (by decide) (fun hc => ?_) (fun hc => ?_)
            · have h1 := it_t h1 hc
              have he := lp_r h1 hz2
              exact KN2 x3 x2 he _ _ hP hD hS ls (lv_sub hl [0, 1, 2, 3, 4] rfl)
            · have h1 := it_f h1 hc
              refine lv_aload_n hx hb dX3_owners_33 rfl (lv_at hl 2 rfl) ?_
              refine va_get (D := (dC, dI)) (ci := 3) (v := .ref (q 1)) (C := RX3) (T := TX3) (N := 5) hx hb hts (fun _ h => (List.mem_cons_of_mem _ (List.mem_append_left _ (List.mem_append_right _ h)))) hown hK hP 0 rfl rfl 0 (by decide) (hts (.fieldLink RX3 12 "MeanLocks" "now" "LMeanLocks$Locks;") (List.mem_of_getElem? (i := 1) rfl)) (fun _ h9 => h9) rfl dX3_owners_34 ?_
              refine lv_iload hx hb dX3_owners_37 (lv_at hl 0 rfl) ?_
              refine lv_iload_n hx hb dX3_owners_39 rfl (lv_at hl 3 rfl) ?_
              obtain ⟨r4, hf3, h1⟩ := bnd_some h1
              refine x_PI (As := [.int x2, .int a1]) (rest := []) hC (kX1_kindAt l dC dI cA (q 1) (fun k => q (10 + k)) x2 a1 σN r4 hf3) (cwV 2 hts gX3_owners_X1_kindAt rfl rfl rfl (by decide +kernel) ⟨Nat.le_of_ble_eq_true rfl, Nat.le_of_ble_eq_true rfl⟩) 1 1 hV hN hK hP hD hS hA (pm_N cA q σN σW σP κ rest) (pm_N cA q σN σW σP κ rest).symm rfl rfl rfl rfl hl.1 rfl (Nat.le_of_ble_eq_true rfl) ⟨Nat.zero_le _, Nat.zero_le _⟩ dX3_owners_40 (fun H locs hP hD hS => ?_)
              refine lv_iload_n hx hb dX3_owners_43 rfl (lv_at hl 4 rfl) ?_
              refine lv_icmp_ne (tgt := 54) hx hb dX3_owners_44 (by decide) (fun hc => ?_) (fun hc => ?_)
              · have h1 := it_f h1 hc
                obtain ⟨v5, ev5, h1⟩ := nm_some h1
                refine lv_iinc (v := v5) (lv' := [(4, .int v5), (3, .int x3), (0, .ref (q 0)), (1, .int a1), (2, .int a2)]) hx hb dX3_owners_54 hl (k := 0) rfl (by rw [ev5]; rfl) (by decide) rfl (fun ls hl => ?_)
                refine lv_goto (tgt := 26) hx hb dX3_owners_57 (by decide) ?_
                have hc := lp_l h1 hz2
                exact ih2 x3 v5 hc _ _ hP hD hS ls (lv_sub hl [0, 1, 2, 3, 4] rfl)
              · have h1 := it_t h1 hc
                refine lv_iload_n hx hb dX3_owners_47 rfl (lv_at hl 1 rfl) ?_
                refine lv_iconst (v := (1 : Int32)) hx hb dX3_owners_48 (by decide) ?_
                refine lv_iload hx hb dX3_owners_49 (lv_at hl 0 rfl) ?_
                refine lv_ishl hx hb dX3_owners_51 ?_
                refine lv_ior hx hb dX3_owners_52 ?_
                refine lv_topi (fun v6 ev6 => ?_)
                have h1 := nm_at ev6 h1
                refine lv_istore_n (lv' := [(3, .int v6), (4, .int x2), (0, .ref (q 0)), (1, .int a1), (2, .int a2)]) hx hb dX3_owners_53 rfl hl (by decide) rfl (fun ls hl => ?_)
                obtain ⟨v7, ev7, h1⟩ := nm_some h1
                refine lv_iinc (v := v7) (lv' := [(4, .int v7), (3, .int v6), (0, .ref (q 0)), (1, .int a1), (2, .int a2)]) hx hb dX3_owners_54 hl (k := 1) rfl (by rw [ev7]; rfl) (by decide) rfl (fun ls hl => ?_)
                refine lv_goto (tgt := 26) hx hb dX3_owners_57 (by decide) ?_
                have hc := lp_l h1 hz2
                exact ih2 v6 v7 hc _ _ hP hD hS ls (lv_sub hl [0, 1, 2, 3, 4] rfl)
        exact LP2 FU (0 : Int32) (0 : Int32) hl2 _ _ hP hD hS ls hl
      · have h0 := it_f h0 hc
        refine lv_bipush (v := (-2 : Int32)) hx hb dX3_owners_18 (by decide) ?_
        have e1 := Option.some.inj h0
        exact x_retI hC hr hlocks rfl hP hD hS dX3_owners_20 ⟨e1, rfl⟩
  · have h0 := it_t h0 hc
    refine lv_iconst (v := (-1 : Int32)) hx hb dX3_owners_7 (by decide) ?_
    have e1 := Option.some.inj h0
    exact x_retI hC hr hlocks rfl hP hD hS dX3_owners_8 ⟨e1, rfl⟩
def fX3_put (a1 : Int64) (σN : St) (σW : St) (σP : St) (κ : St) : Option (Int32 × St) := bn2 (fX2_type a1 σP) fun r1 s2 => some (r1, s2)
abbrev rmX3_put : Room := { frames := 1, cells := 0, slots := 0, locals := 28 }
set_option maxHeartbeats 4000000 in
set_option maxRecDepth 100000 in
theorem kX3_put (l : Launch) (dC : Nat → ClassId) (dI : Nat → Nat → Nat) (cA : Nat → ClassId) (q : Nat → Nat) (rest : va_W) (a1 : Int64) (σN : St) (σW : St) (σP : St) (κ : St) (R0 : Int32) (σ' : St) (h0 : fX3_put a1 σN σW σP κ = some (R0, σ')) : CI l yX3_put wsX3_put rmX3_put (dC, dI) vwCl (tysW cA) [.ref (q 0), .long a1] ((wX cA q σN σW σP κ rest)) R0 ((wX cA q σN σW σ' κ rest)) := by
  refine CGI_of (cc := cX3_put) (nL := 3) (ret := (some .int)) (by decide) rfl (Nat.le_of_ble_eq_true rfl) ?_
  intro p e s m av below meth c A ls H locs hC hl
  obtain ⟨hC, hr, hlocks, hV, hN, hK, hP, hD, hS, hA⟩ := hC
  have hC : CallFix p m c cX3_put 3 s _ wsX3_put RX3 := hC
  obtain ⟨hx, hb, hml, hown, hts⟩ := id hC
  have hl : lv_has ls 3 [(0, .ref (q 0)), (1, .long a1)] := hl
  unfold fX3_put at h0
  refine lv_aload_n hx hb dX3_put_0 rfl (lv_at hl 0 rfl) ?_
  refine va_get (D := (dC, dI)) (ci := 3) (v := .ref (q 5)) (C := RX3) (T := TX3) (N := 5) hx hb hts (fun _ h => (List.mem_cons_of_mem _ (List.mem_append_left _ (List.mem_append_right _ h)))) hown hK hP 0 rfl rfl 4 (by decide) (hts (.fieldLink RX3 33 "MeanLocks" "pad" "LMeanLocks$Pad;") (List.mem_of_getElem? (i := 1) rfl)) (fun _ h9 => h9) rfl dX3_put_1 ?_
  refine lv_lload_n hx hb dX3_put_4 rfl (lv_at hl 1 rfl) ?_
  obtain ⟨r1, s2, hf1, h0⟩ := bn2_some h0
  refine x_PI (As := [.long a1]) (rest := []) hC (kX2_type l dC dI cA (q 5) (fun k => q (70 + k)) a1 σP r1 s2 hf1) (cwV 1 hts gX3_put_X2_type rfl rfl rfl (by decide +kernel) ⟨Nat.le_of_ble_eq_true rfl, Nat.le_of_ble_eq_true rfl⟩) 35 2 hV hN hK hP hD hS hA (pm_P cA q σN σW σP κ rest) (pm_P cA q σN σW s2 κ rest).symm rfl rfl rfl rfl hl.1 rfl (Nat.le_of_ble_eq_true rfl) ⟨Nat.zero_le _, Nat.zero_le _⟩ dX3_put_5 (fun H locs hP hD hS => ?_)
  obtain ⟨e1, e2⟩ := Prod.mk.inj (Option.some.inj h0)
  exact x_retI hC hr hlocks rfl hP hD hS dX3_put_8 ⟨e1, by rw [← e2]⟩
def fX3_ring (a1 : Int32) (a2 : Int32) (a3 : Int32) (a4 : Int32) (σN : St) (σW : St) (σP : St) (κ : St) : Option (Int32 × St) := bnd (fX3_isOwner a1) fun r1 => if (r1 : Int32) = (0 : Int32) then (some ((-1 : Int32), σW)) else (bnd (fX3_isLock a2) fun r2 => if (r2 : Int32) = (0 : Int32) then (some ((-2 : Int32), σW)) else (bnd (fX3_isRange a3 a4) fun r3 => if (r3 : Int32) = (0 : Int32) then (some ((-2 : Int32), σW)) else (bnd (fX1_become  σN σW) fun s5 => bnd (fX1_quitRow a1 s5) fun s7 => bnd (fX1_join a1 a2 a3 a4 s7) fun s9 => bn2 (fX1_ringOf a1 s9) fun r10 s11 => some (r10, s11))))
abbrev rmX3_ring : Room := { frames := 4, cells := 0, slots := 0, locals := 105 }
set_option maxHeartbeats 4000000 in
set_option maxRecDepth 100000 in
theorem kX3_ring (l : Launch) (dC : Nat → ClassId) (dI : Nat → Nat → Nat) (cA : Nat → ClassId) (q : Nat → Nat) (rest : va_W) (a1 : Int32) (a2 : Int32) (a3 : Int32) (a4 : Int32) (σN : St) (σW : St) (σP : St) (κ : St) (R0 : Int32) (σ' : St) (h0 : fX3_ring a1 a2 a3 a4 σN σW σP κ = some (R0, σ')) : CI l yX3_ring wsX3_ring rmX3_ring (dC, dI) vwCl (tysW cA) [.ref (q 0), .int a1, .int a2, .int a3, .int a4] ((wX cA q σN σW σP κ rest)) R0 ((wX cA q σN σ' σP κ rest)) := by
  refine CGI_of (cc := cX3_ring) (nL := 5) (ret := (some .int)) (by decide) rfl (Nat.le_of_ble_eq_true rfl) ?_
  intro p e s m av below meth c A ls H locs hC hl
  obtain ⟨hC, hr, hlocks, hV, hN, hK, hP, hD, hS, hA⟩ := hC
  have hC : CallFix p m c cX3_ring 5 s _ wsX3_ring RX3 := hC
  obtain ⟨hx, hb, hml, hown, hts⟩ := id hC
  have hl : lv_has ls 5 [(0, .ref (q 0)), (1, .int a1), (2, .int a2), (3, .int a3), (4, .int a4)] := hl
  unfold fX3_ring at h0
  refine lv_iload_n hx hb dX3_ring_0 rfl (lv_at hl 1 rfl) ?_
  obtain ⟨r1, hf1, h0⟩ := bnd_some h0
  refine x_SI (As := [.int a1]) (rest := []) hC (kX3_isOwner l dC dI cA a1 r1 hf1) (cwS 1 hts gX3_ring_X3_isOwner rfl rfl rfl (by decide +kernel) ⟨Nat.le_of_ble_eq_true rfl, Nat.le_of_ble_eq_true rfl⟩) hV hN hK hP hD hS hA rfl hl.1 rfl (Nat.le_of_ble_eq_true rfl) ⟨Nat.zero_le _, Nat.zero_le _⟩ dX3_ring_1 (fun H locs hP hD hS => ?_)
  refine lv_if_ne (tgt := 9) hx hb dX3_ring_4 (by decide) (fun hc => ?_) (fun hc => ?_)
  · have h0 := it_f h0 hc
    refine lv_iload_n hx hb dX3_ring_9 rfl (lv_at hl 2 rfl) ?_
    obtain ⟨r2, hf2, h0⟩ := bnd_some h0
    refine x_SI (As := [.int a2]) (rest := []) hC (kX3_isLock l dC dI cA a2 r2 hf2) (cwS 1 hts gX3_ring_X3_isLock rfl rfl rfl (by decide +kernel) ⟨Nat.le_of_ble_eq_true rfl, Nat.le_of_ble_eq_true rfl⟩) hV hN hK hP hD hS hA rfl hl.1 rfl (Nat.le_of_ble_eq_true rfl) ⟨Nat.zero_le _, Nat.zero_le _⟩ dX3_ring_10 (fun H locs hP hD hS => ?_)
    refine lv_if_eq (tgt := 25) hx hb dX3_ring_13 (by decide) (fun hc => ?_) (fun hc => ?_)
    · have h0 := it_t h0 hc
      refine lv_bipush (v := (-2 : Int32)) hx hb dX3_ring_25 (by decide) ?_
      obtain ⟨e1, e2⟩ := Prod.mk.inj (Option.some.inj h0)
      exact x_retI hC hr hlocks rfl hP hD hS dX3_ring_27 ⟨e1, by rw [← e2]⟩
    · have h0 := it_f h0 hc
      refine lv_iload_n hx hb dX3_ring_16 rfl (lv_at hl 3 rfl) ?_
      refine lv_iload hx hb dX3_ring_17 (lv_at hl 4 rfl) ?_
      obtain ⟨r3, hf3, h0⟩ := bnd_some h0
      refine x_SI (As := [.int a3, .int a4]) (rest := []) hC (kX3_isRange l dC dI cA a3 a4 r3 hf3) (cwS 2 hts gX3_ring_X3_isRange rfl rfl rfl (by decide +kernel) ⟨Nat.le_of_ble_eq_true rfl, Nat.le_of_ble_eq_true rfl⟩) hV hN hK hP hD hS hA rfl hl.1 rfl (Nat.le_of_ble_eq_true rfl) ⟨Nat.zero_le _, Nat.zero_le _⟩ dX3_ring_19 (fun H locs hP hD hS => ?_)
      refine lv_if_ne (tgt := 28) hx hb dX3_ring_22 (by decide) (fun hc => ?_) (fun hc => ?_)
      · have h0 := it_f h0 hc
        refine lv_aload_n hx hb dX3_ring_28 rfl (lv_at hl 0 rfl) ?_
        refine va_get (D := (dC, dI)) (ci := 3) (v := .ref (q 2)) (C := RX3) (T := TX3) (N := 5) hx hb hts (fun _ h => (List.mem_cons_of_mem _ (List.mem_append_left _ (List.mem_append_right _ h)))) hown hK hP 0 rfl rfl 1 (by decide) (hts (.fieldLink RX3 16 "MeanLocks" "whatIf" "LMeanLocks$Locks;") (List.mem_of_getElem? (i := 1) rfl)) (fun _ h9 => h9) rfl dX3_ring_29 ?_
        refine lv_aload_n hx hb dX3_ring_32 rfl (lv_at hl 0 rfl) ?_
        refine va_get (D := (dC, dI)) (ci := 3) (v := .ref (q 1)) (C := RX3) (T := TX3) (N := 5) hx hb hts (fun _ h => (List.mem_cons_of_mem _ (List.mem_append_left _ (List.mem_append_right _ h)))) hown hK hP 0 rfl rfl 0 (by decide) (hts (.fieldLink RX3 12 "MeanLocks" "now" "LMeanLocks$Locks;") (List.mem_of_getElem? (i := 2) rfl)) (fun _ h9 => h9) rfl dX3_ring_33 ?_
        obtain ⟨s5, hf4, h0⟩ := bnd_some h0
        refine x_PV (As := [.ref (q 1)]) (rest := []) (wr := (wXr_B cA q σP κ rest)) hC (kX1_become l dC dI cA (q 2) (fun k => q (40 + k)) (q 1) (fun k => q (10 + k)) σN σW s5 hf4) (cwV 1 hts gX3_ring_X1_become rfl rfl rfl (by decide +kernel) ⟨Nat.le_of_ble_eq_true rfl, Nat.le_of_ble_eq_true rfl⟩) 18 1 hV hN hK hP hD hS hA (pm_B cA q σN σW σP κ rest) (pm_B cA q σN s5 σP κ rest).symm rfl rfl rfl rfl hl.1 rfl (Nat.le_of_ble_eq_true rfl) ⟨Nat.zero_le _, Nat.zero_le _⟩ dX3_ring_36 (fun H locs hP hD hS => ?_)
        refine lv_aload_n hx hb dX3_ring_39 rfl (lv_at hl 0 rfl) ?_
        refine va_get (D := (dC, dI)) (ci := 3) (v := .ref (q 2)) (C := RX3) (T := TX3) (N := 5) hx hb hts (fun _ h => (List.mem_cons_of_mem _ (List.mem_append_left _ (List.mem_append_right _ h)))) hown hK hP 0 rfl rfl 1 (by decide) (hts (.fieldLink RX3 16 "MeanLocks" "whatIf" "LMeanLocks$Locks;") (List.mem_of_getElem? (i := 1) rfl)) (fun _ h9 => h9) rfl dX3_ring_40 ?_
        refine lv_iload_n hx hb dX3_ring_43 rfl (lv_at hl 1 rfl) ?_
        obtain ⟨s7, hf5, h0⟩ := bnd_some h0
        refine x_PV (As := [.int a1]) (rest := []) hC (kX1_quitRow l dC dI cA (q 2) (fun k => q (40 + k)) a1 s5 s7 hf5) (cwV 1 hts gX3_ring_X1_quitRow rfl rfl rfl (by decide +kernel) ⟨Nat.le_of_ble_eq_true rfl, Nat.le_of_ble_eq_true rfl⟩) 18 1 hV hN hK hP hD hS hA (pm_W cA q σN s5 σP κ rest) (pm_W cA q σN s7 σP κ rest).symm rfl rfl rfl rfl hl.1 rfl (Nat.le_of_ble_eq_true rfl) ⟨Nat.zero_le _, Nat.zero_le _⟩ dX3_ring_44 (fun H locs hP hD hS => ?_)
        refine lv_aload_n hx hb dX3_ring_47 rfl (lv_at hl 0 rfl) ?_
        refine va_get (D := (dC, dI)) (ci := 3) (v := .ref (q 2)) (C := RX3) (T := TX3) (N := 5) hx hb hts (fun _ h => (List.mem_cons_of_mem _ (List.mem_append_left _ (List.mem_append_right _ h)))) hown hK hP 0 rfl rfl 1 (by decide) (hts (.fieldLink RX3 16 "MeanLocks" "whatIf" "LMeanLocks$Locks;") (List.mem_of_getElem? (i := 1) rfl)) (fun _ h9 => h9) rfl dX3_ring_48 ?_
        refine lv_iload_n hx hb dX3_ring_51 rfl (lv_at hl 1 rfl) ?_
        refine lv_iload_n hx hb dX3_ring_52 rfl (lv_at hl 2 rfl) ?_
        refine lv_iload_n hx hb dX3_ring_53 rfl (lv_at hl 3 rfl) ?_
        refine lv_iload hx hb dX3_ring_54 (lv_at hl 4 rfl) ?_
        obtain ⟨s9, hf6, h0⟩ := bnd_some h0
        refine x_PV (As := [.int a1, .int a2, .int a3, .int a4]) (rest := []) hC (kX1_join l dC dI cA (q 2) (fun k => q (40 + k)) a1 a2 a3 a4 s7 s9 hf6) (cwV 4 hts gX3_ring_X1_join rfl rfl rfl (by decide +kernel) ⟨Nat.le_of_ble_eq_true rfl, Nat.le_of_ble_eq_true rfl⟩) 18 1 hV hN hK hP hD hS hA (pm_W cA q σN s7 σP κ rest) (pm_W cA q σN s9 σP κ rest).symm rfl rfl rfl rfl hl.1 rfl (Nat.le_of_ble_eq_true rfl) ⟨Nat.zero_le _, Nat.zero_le _⟩ dX3_ring_56 (fun H locs hP hD hS => ?_)
        refine lv_aload_n hx hb dX3_ring_59 rfl (lv_at hl 0 rfl) ?_
        refine va_get (D := (dC, dI)) (ci := 3) (v := .ref (q 2)) (C := RX3) (T := TX3) (N := 5) hx hb hts (fun _ h => (List.mem_cons_of_mem _ (List.mem_append_left _ (List.mem_append_right _ h)))) hown hK hP 0 rfl rfl 1 (by decide) (hts (.fieldLink RX3 16 "MeanLocks" "whatIf" "LMeanLocks$Locks;") (List.mem_of_getElem? (i := 1) rfl)) (fun _ h9 => h9) rfl dX3_ring_60 ?_
        refine lv_iload_n hx hb dX3_ring_63 rfl (lv_at hl 1 rfl) ?_
        obtain ⟨r10, s11, hf7, h0⟩ := bn2_some h0
        refine x_PI (As := [.int a1]) (rest := []) hC (kX1_ringOf l dC dI cA (q 2) (fun k => q (40 + k)) a1 s9 r10 s11 hf7) (cwV 1 hts gX3_ring_X1_ringOf rfl rfl rfl (by decide +kernel) ⟨Nat.le_of_ble_eq_true rfl, Nat.le_of_ble_eq_true rfl⟩) 18 1 hV hN hK hP hD hS hA (pm_W cA q σN s9 σP κ rest) (pm_W cA q σN s11 σP κ rest).symm rfl rfl rfl rfl hl.1 rfl (Nat.le_of_ble_eq_true rfl) ⟨Nat.zero_le _, Nat.zero_le _⟩ dX3_ring_64 (fun H locs hP hD hS => ?_)
        obtain ⟨e1, e2⟩ := Prod.mk.inj (Option.some.inj h0)
        exact x_retI hC hr hlocks rfl hP hD hS dX3_ring_67 ⟨e1, by rw [← e2]⟩
      · have h0 := it_t h0 hc
        refine lv_bipush (v := (-2 : Int32)) hx hb dX3_ring_25 (by decide) ?_
        obtain ⟨e1, e2⟩ := Prod.mk.inj (Option.some.inj h0)
        exact x_retI hC hr hlocks rfl hP hD hS dX3_ring_27 ⟨e1, by rw [← e2]⟩
  · have h0 := it_t h0 hc
    refine lv_iconst (v := (-1 : Int32)) hx hb dX3_ring_7 (by decide) ?_
    obtain ⟨e1, e2⟩ := Prod.mk.inj (Option.some.inj h0)
    exact x_retI hC hr hlocks rfl hP hD hS dX3_ring_8 ⟨e1, by rw [← e2]⟩
def fX3_stretch (a1 : Int32) (a2 : Int32) (a3 : Int32) (σN : St) (σW : St) (σP : St) (κ : St) : Option Int32 := bnd (fX3_isOwner a1) fun r1 => if (r1 : Int32) = (0 : Int32) then (some (-1 : Int32)) else (bnd (fX1_startOfStretch a1 a2 σN) fun r2 => if (0 : Int32) ≤ r2 then (if (a3 : Int32) = (0 : Int32) then (bnd (fX1_kindAt a1 r2 σN) fun r3 => some r3) else (if (a3 : Int32) = (1 : Int32) then (some r2) else (if (a3 : Int32) = (2 : Int32) then (bnd (fX1_lengthOfStretch a1 r2 σN) fun r4 => some r4) else (some (-2 : Int32))))) else (some (-1 : Int32)))
abbrev rmX3_stretch : Room := { frames := 3, cells := 0, slots := 0, locals := 70 }
set_option maxHeartbeats 4000000 in
set_option maxRecDepth 100000 in
theorem kX3_stretch (l : Launch) (dC : Nat → ClassId) (dI : Nat → Nat → Nat) (cA : Nat → ClassId) (q : Nat → Nat) (rest : va_W) (a1 : Int32) (a2 : Int32) (a3 : Int32) (σN : St) (σW : St) (σP : St) (κ : St) (R0 : Int32) (h0 : fX3_stretch a1 a2 a3 σN σW σP κ = some R0) : CI l yX3_stretch wsX3_stretch rmX3_stretch (dC, dI) vwCl (tysW cA) [.ref (q 0), .int a1, .int a2, .int a3] ((wX cA q σN σW σP κ rest)) R0 ((wX cA q σN σW σP κ rest)) := by
  refine CGI_of (cc := cX3_stretch) (nL := 5) (ret := (some .int)) (by decide) rfl (Nat.le_of_ble_eq_true rfl) ?_
  intro p e s m av below meth c A ls H locs hC hl
  obtain ⟨hC, hr, hlocks, hV, hN, hK, hP, hD, hS, hA⟩ := hC
  have hC : CallFix p m c cX3_stretch 5 s _ wsX3_stretch RX3 := hC
  obtain ⟨hx, hb, hml, hown, hts⟩ := id hC
  have hl : lv_has ls 5 [(0, .ref (q 0)), (1, .int a1), (2, .int a2), (3, .int a3)] := hl
  unfold fX3_stretch at h0
  refine lv_iload_n hx hb dX3_stretch_0 rfl (lv_at hl 1 rfl) ?_
  obtain ⟨r1, hf1, h0⟩ := bnd_some h0
  refine x_SI (As := [.int a1]) (rest := []) hC (kX3_isOwner l dC dI cA a1 r1 hf1) (cwS 1 hts gX3_stretch_X3_isOwner rfl rfl rfl (by decide +kernel) ⟨Nat.le_of_ble_eq_true rfl, Nat.le_of_ble_eq_true rfl⟩) hV hN hK hP hD hS hA rfl hl.1 rfl (Nat.le_of_ble_eq_true rfl) ⟨Nat.zero_le _, Nat.zero_le _⟩ dX3_stretch_1 (fun H locs hP hD hS => ?_)
  refine lv_if_ne (tgt := 9) hx hb dX3_stretch_4 (by decide) (fun hc => ?_) (fun hc => ?_)
  · have h0 := it_f h0 hc
    refine lv_aload_n hx hb dX3_stretch_9 rfl (lv_at hl 0 rfl) ?_
    refine va_get (D := (dC, dI)) (ci := 3) (v := .ref (q 1)) (C := RX3) (T := TX3) (N := 5) hx hb hts (fun _ h => (List.mem_cons_of_mem _ (List.mem_append_left _ (List.mem_append_right _ h)))) hown hK hP 0 rfl rfl 0 (by decide) (hts (.fieldLink RX3 12 "MeanLocks" "now" "LMeanLocks$Locks;") (List.mem_of_getElem? (i := 1) rfl)) (fun _ h9 => h9) rfl dX3_stretch_10 ?_
    refine lv_iload_n hx hb dX3_stretch_13 rfl (lv_at hl 1 rfl) ?_
    refine lv_iload_n hx hb dX3_stretch_14 rfl (lv_at hl 2 rfl) ?_
    obtain ⟨r2, hf2, h0⟩ := bnd_some h0
    refine x_PI (As := [.int a1, .int a2]) (rest := []) hC (kX1_startOfStretch l dC dI cA (q 1) (fun k => q (10 + k)) a1 a2 σN r2 hf2) (cwV 2 hts gX3_stretch_X1_startOfStretch rfl rfl rfl (by decide +kernel) ⟨Nat.le_of_ble_eq_true rfl, Nat.le_of_ble_eq_true rfl⟩) 1 1 hV hN hK hP hD hS hA (pm_N cA q σN σW σP κ rest) (pm_N cA q σN σW σP κ rest).symm rfl rfl rfl rfl hl.1 rfl (Nat.le_of_ble_eq_true rfl) ⟨Nat.zero_le _, Nat.zero_le _⟩ dX3_stretch_15 (fun H locs hP hD hS => ?_)
    refine lv_istore (lv' := [(4, .int r2), (0, .ref (q 0)), (1, .int a1), (2, .int a2), (3, .int a3)]) hx hb dX3_stretch_18 hl (by decide) rfl (fun ls hl => ?_)
    refine lv_iload hx hb dX3_stretch_20 (lv_at hl 0 rfl) ?_
    refine lv_if_ge (tgt := 27) hx hb dX3_stretch_22 (by decide) (fun hc => ?_) (fun hc => ?_)
    · have h0 := it_t h0 hc
      refine lv_iload_n hx hb dX3_stretch_27 rfl (lv_at hl 4 rfl) ?_
      by_cases hq0 : (a3 : Int32) = (0 : Int32)
      · have h0 := it_t h0 hq0
        refine lv_tableIn (tgt := 56) hx hb dX3_stretch_28 (by rw [hq0]; decide) (by rw [hq0]; decide) (off := 28) (by rw [hq0]; rfl) (by decide) ?_
        refine lv_aload_n hx hb dX3_stretch_56 rfl (lv_at hl 1 rfl) ?_
        refine va_get (D := (dC, dI)) (ci := 3) (v := .ref (q 1)) (C := RX3) (T := TX3) (N := 5) hx hb hts (fun _ h => (List.mem_cons_of_mem _ (List.mem_append_left _ (List.mem_append_right _ h)))) hown hK hP 0 rfl rfl 0 (by decide) (hts (.fieldLink RX3 12 "MeanLocks" "now" "LMeanLocks$Locks;") (List.mem_of_getElem? (i := 1) rfl)) (fun _ h9 => h9) rfl dX3_stretch_57 ?_
        refine lv_iload_n hx hb dX3_stretch_60 rfl (lv_at hl 2 rfl) ?_
        refine lv_iload hx hb dX3_stretch_61 (lv_at hl 0 rfl) ?_
        obtain ⟨r3, hf3, h0⟩ := bnd_some h0
        refine x_PI (As := [.int a1, .int r2]) (rest := []) hC (kX1_kindAt l dC dI cA (q 1) (fun k => q (10 + k)) a1 r2 σN r3 hf3) (cwV 2 hts gX3_stretch_X1_kindAt rfl rfl rfl (by decide +kernel) ⟨Nat.le_of_ble_eq_true rfl, Nat.le_of_ble_eq_true rfl⟩) 1 1 hV hN hK hP hD hS hA (pm_N cA q σN σW σP κ rest) (pm_N cA q σN σW σP κ rest).symm rfl rfl rfl rfl hl.1 rfl (Nat.le_of_ble_eq_true rfl) ⟨Nat.zero_le _, Nat.zero_le _⟩ dX3_stretch_63 (fun H locs hP hD hS => ?_)
        have e1 := Option.some.inj h0
        exact x_retI hC hr hlocks rfl hP hD hS dX3_stretch_66 ⟨e1, rfl⟩
      have h0 := it_f h0 hq0
      by_cases hq1 : (a3 : Int32) = (1 : Int32)
      · have h0 := it_t h0 hq1
        refine lv_tableIn (tgt := 67) hx hb dX3_stretch_28 (by rw [hq1]; decide) (by rw [hq1]; decide) (off := 39) (by rw [hq1]; rfl) (by decide) ?_
        refine lv_iload hx hb dX3_stretch_67 (lv_at hl 0 rfl) ?_
        have e1 := Option.some.inj h0
        exact x_retI hC hr hlocks rfl hP hD hS dX3_stretch_69 ⟨e1, rfl⟩
      have h0 := it_f h0 hq1
      by_cases hq2 : (a3 : Int32) = (2 : Int32)
      · have h0 := it_t h0 hq2
        refine lv_tableIn (tgt := 70) hx hb dX3_stretch_28 (by rw [hq2]; decide) (by rw [hq2]; decide) (off := 42) (by rw [hq2]; rfl) (by decide) ?_
        refine lv_aload_n hx hb dX3_stretch_70 rfl (lv_at hl 1 rfl) ?_
        refine va_get (D := (dC, dI)) (ci := 3) (v := .ref (q 1)) (C := RX3) (T := TX3) (N := 5) hx hb hts (fun _ h => (List.mem_cons_of_mem _ (List.mem_append_left _ (List.mem_append_right _ h)))) hown hK hP 0 rfl rfl 0 (by decide) (hts (.fieldLink RX3 12 "MeanLocks" "now" "LMeanLocks$Locks;") (List.mem_of_getElem? (i := 1) rfl)) (fun _ h9 => h9) rfl dX3_stretch_71 ?_
        refine lv_iload_n hx hb dX3_stretch_74 rfl (lv_at hl 2 rfl) ?_
        refine lv_iload hx hb dX3_stretch_75 (lv_at hl 0 rfl) ?_
        obtain ⟨r4, hf4, h0⟩ := bnd_some h0
        refine x_PI (As := [.int a1, .int r2]) (rest := []) hC (kX1_lengthOfStretch l dC dI cA (q 1) (fun k => q (10 + k)) a1 r2 σN r4 hf4) (cwV 2 hts gX3_stretch_X1_lengthOfStretch rfl rfl rfl (by decide +kernel) ⟨Nat.le_of_ble_eq_true rfl, Nat.le_of_ble_eq_true rfl⟩) 1 1 hV hN hK hP hD hS hA (pm_N cA q σN σW σP κ rest) (pm_N cA q σN σW σP κ rest).symm rfl rfl rfl rfl hl.1 rfl (Nat.le_of_ble_eq_true rfl) ⟨Nat.zero_le _, Nat.zero_le _⟩ dX3_stretch_77 (fun H locs hP hD hS => ?_)
        have e1 := Option.some.inj h0
        exact x_retI hC hr hlocks rfl hP hD hS dX3_stretch_80 ⟨e1, rfl⟩
      have h0 := it_f h0 hq2
      have hg : W p l e (headSpec wsX3_stretch rmX3_stretch).room s m av below meth c H locs 0 0 (MQ below (qI (dC, dI) A R0 ((wX cA q σN σW σP κ rest))) av s 0 0 A) (F0 m 81 ls []) := by
        refine lv_bipush (v := (-2 : Int32)) hx hb dX3_stretch_81 (by decide) ?_
        have e1 := Option.some.inj h0
        exact x_retI hC hr hlocks rfl hP hD hS dX3_stretch_83 ⟨e1, rfl⟩
      by_cases hin : 0 ≤ (a3 : Int32).toInt ∧ (a3 : Int32).toInt ≤ 2
      · obtain ⟨k, hk⟩ : ∃ k : Int, (a3 : Int32).toInt = k := ⟨_, rfl⟩
        rw [hk] at hin
        rcases (show k = 0 ∨ k = 1 ∨ k = 2 by omega) with rfl | rfl | rfl
        · exact absurd (sw_eq (n := (0 : Int32)) hk rfl) hq0
        · exact absurd (sw_eq (n := (1 : Int32)) hk rfl) hq1
        · exact absurd (sw_eq (n := (2 : Int32)) hk rfl) hq2
      · exact lv_tableOut (tgt := 81) hx hb dX3_stretch_28 (by omega) (by decide) hg
    · have h0 := it_f h0 hc
      refine lv_iconst (v := (-1 : Int32)) hx hb dX3_stretch_25 (by decide) ?_
      have e1 := Option.some.inj h0
      exact x_retI hC hr hlocks rfl hP hD hS dX3_stretch_26 ⟨e1, rfl⟩
  · have h0 := it_t h0 hc
    refine lv_iconst (v := (-1 : Int32)) hx hb dX3_stretch_7 (by decide) ?_
    have e1 := Option.some.inj h0
    exact x_retI hC hr hlocks rfl hP hD hS dX3_stretch_8 ⟨e1, rfl⟩
def fX3_waitsFor (a1 : Int32) (σN : St) (σW : St) (σP : St) (κ : St) : Option Int32 := bnd (fX3_isOwner a1) fun r1 => if (r1 : Int32) = (0 : Int32) then (some (-1 : Int32)) else (bnd (fX1_waitedFor a1 σN) fun r2 => some r2)
abbrev rmX3_waitsFor : Room := { frames := 4, cells := 0, slots := 0, locals := 104 }
set_option maxHeartbeats 4000000 in
set_option maxRecDepth 100000 in
theorem kX3_waitsFor (l : Launch) (dC : Nat → ClassId) (dI : Nat → Nat → Nat) (cA : Nat → ClassId) (q : Nat → Nat) (rest : va_W) (a1 : Int32) (σN : St) (σW : St) (σP : St) (κ : St) (R0 : Int32) (h0 : fX3_waitsFor a1 σN σW σP κ = some R0) : CI l yX3_waitsFor wsX3_waitsFor rmX3_waitsFor (dC, dI) vwCl (tysW cA) [.ref (q 0), .int a1] ((wX cA q σN σW σP κ rest)) R0 ((wX cA q σN σW σP κ rest)) := by
  refine CGI_of (cc := cX3_waitsFor) (nL := 2) (ret := (some .int)) (by decide) rfl (Nat.le_of_ble_eq_true rfl) ?_
  intro p e s m av below meth c A ls H locs hC hl
  obtain ⟨hC, hr, hlocks, hV, hN, hK, hP, hD, hS, hA⟩ := hC
  have hC : CallFix p m c cX3_waitsFor 2 s _ wsX3_waitsFor RX3 := hC
  obtain ⟨hx, hb, hml, hown, hts⟩ := id hC
  have hl : lv_has ls 2 [(0, .ref (q 0)), (1, .int a1)] := hl
  unfold fX3_waitsFor at h0
  refine lv_iload_n hx hb dX3_waitsFor_0 rfl (lv_at hl 1 rfl) ?_
  obtain ⟨r1, hf1, h0⟩ := bnd_some h0
  refine x_SI (As := [.int a1]) (rest := []) hC (kX3_isOwner l dC dI cA a1 r1 hf1) (cwS 1 hts gX3_waitsFor_X3_isOwner rfl rfl rfl (by decide +kernel) ⟨Nat.le_of_ble_eq_true rfl, Nat.le_of_ble_eq_true rfl⟩) hV hN hK hP hD hS hA rfl hl.1 rfl (Nat.le_of_ble_eq_true rfl) ⟨Nat.zero_le _, Nat.zero_le _⟩ dX3_waitsFor_1 (fun H locs hP hD hS => ?_)
  refine lv_if_ne (tgt := 9) hx hb dX3_waitsFor_4 (by decide) (fun hc => ?_) (fun hc => ?_)
  · have h0 := it_f h0 hc
    refine lv_aload_n hx hb dX3_waitsFor_9 rfl (lv_at hl 0 rfl) ?_
    refine va_get (D := (dC, dI)) (ci := 3) (v := .ref (q 1)) (C := RX3) (T := TX3) (N := 5) hx hb hts (fun _ h => (List.mem_cons_of_mem _ (List.mem_append_left _ (List.mem_append_right _ h)))) hown hK hP 0 rfl rfl 0 (by decide) (hts (.fieldLink RX3 12 "MeanLocks" "now" "LMeanLocks$Locks;") (List.mem_of_getElem? (i := 1) rfl)) (fun _ h9 => h9) rfl dX3_waitsFor_10 ?_
    refine lv_iload_n hx hb dX3_waitsFor_13 rfl (lv_at hl 1 rfl) ?_
    obtain ⟨r2, hf2, h0⟩ := bnd_some h0
    refine x_PI (As := [.int a1]) (rest := []) hC (kX1_waitedFor l dC dI cA (q 1) (fun k => q (10 + k)) a1 σN r2 hf2) (cwV 1 hts gX3_waitsFor_X1_waitedFor rfl rfl rfl (by decide +kernel) ⟨Nat.le_of_ble_eq_true rfl, Nat.le_of_ble_eq_true rfl⟩) 1 1 hV hN hK hP hD hS hA (pm_N cA q σN σW σP κ rest) (pm_N cA q σN σW σP κ rest).symm rfl rfl rfl rfl hl.1 rfl (Nat.le_of_ble_eq_true rfl) ⟨Nat.zero_le _, Nat.zero_le _⟩ dX3_waitsFor_14 (fun H locs hP hD hS => ?_)
    have e1 := Option.some.inj h0
    exact x_retI hC hr hlocks rfl hP hD hS dX3_waitsFor_17 ⟨e1, rfl⟩
  · have h0 := it_t h0 hc
    refine lv_iconst (v := (-1 : Int32)) hx hb dX3_waitsFor_7 (by decide) ?_
    have e1 := Option.some.inj h0
    exact x_retI hC hr hlocks rfl hP hD hS dX3_waitsFor_8 ⟨e1, rfl⟩
def fX3_wipe (σN : St) (σW : St) (σP : St) (κ : St) : Option (Int32 × St) := bn2 (fX2_erase  σP) fun r1 s2 => some (r1, s2)
abbrev rmX3_wipe : Room := { frames := 1, cells := 0, slots := 0, locals := 21 }
set_option maxHeartbeats 4000000 in
set_option maxRecDepth 100000 in
theorem kX3_wipe (l : Launch) (dC : Nat → ClassId) (dI : Nat → Nat → Nat) (cA : Nat → ClassId) (q : Nat → Nat) (rest : va_W) (σN : St) (σW : St) (σP : St) (κ : St) (R0 : Int32) (σ' : St) (h0 : fX3_wipe σN σW σP κ = some (R0, σ')) : CI l yX3_wipe wsX3_wipe rmX3_wipe (dC, dI) vwCl (tysW cA) [.ref (q 0)] ((wX cA q σN σW σP κ rest)) R0 ((wX cA q σN σW σ' κ rest)) := by
  refine CGI_of (cc := cX3_wipe) (nL := 1) (ret := (some .int)) (by decide) rfl (Nat.le_of_ble_eq_true rfl) ?_
  intro p e s m av below meth c A ls H locs hC hl
  obtain ⟨hC, hr, hlocks, hV, hN, hK, hP, hD, hS, hA⟩ := hC
  have hC : CallFix p m c cX3_wipe 1 s _ wsX3_wipe RX3 := hC
  obtain ⟨hx, hb, hml, hown, hts⟩ := id hC
  have hl : lv_has ls 1 [(0, .ref (q 0))] := hl
  unfold fX3_wipe at h0
  refine lv_aload_n hx hb dX3_wipe_0 rfl (lv_at hl 0 rfl) ?_
  refine va_get (D := (dC, dI)) (ci := 3) (v := .ref (q 5)) (C := RX3) (T := TX3) (N := 5) hx hb hts (fun _ h => (List.mem_cons_of_mem _ (List.mem_append_left _ (List.mem_append_right _ h)))) hown hK hP 0 rfl rfl 4 (by decide) (hts (.fieldLink RX3 33 "MeanLocks" "pad" "LMeanLocks$Pad;") (List.mem_of_getElem? (i := 1) rfl)) (fun _ h9 => h9) rfl dX3_wipe_1 ?_
  obtain ⟨r1, s2, hf1, h0⟩ := bn2_some h0
  refine x_PI (As := []) (rest := []) hC (kX2_erase l dC dI cA (q 5) (fun k => q (70 + k)) σP r1 s2 hf1) (cwV 0 hts gX3_wipe_X2_erase rfl rfl rfl (by decide +kernel) ⟨Nat.le_of_ble_eq_true rfl, Nat.le_of_ble_eq_true rfl⟩) 35 2 hV hN hK hP hD hS hA (pm_P cA q σN σW σP κ rest) (pm_P cA q σN σW s2 κ rest).symm rfl rfl rfl rfl hl.1 rfl (Nat.le_of_ble_eq_true rfl) ⟨Nat.zero_le _, Nat.zero_le _⟩ dX3_wipe_4 (fun H locs hP hD hS => ?_)
  obtain ⟨e1, e2⟩ := Prod.mk.inj (Option.some.inj h0)
  exact x_retI hC hr hlocks rfl hP hD hS dX3_wipe_7 ⟨e1, by rw [← e2]⟩
