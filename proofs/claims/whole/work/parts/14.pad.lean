def fX2_sign (σ : St) : Option Int32 := if ((σ 2 0) : Int32) < (0 : Int32) then (some (0 : Int32)) else (if (σ 1 0) ≤ (σ 2 0) then (some (0 : Int32)) else (ax (σ 2 0) 80 (gd (((σ 0 (σ 2 0 : Int32).toNatClampNeg : Int32).toUInt32 % 65536).toInt32 = σ 0 (σ 2 0 : Int32).toNatClampNeg) (some (σ 0 (σ 2 0 : Int32).toNatClampNeg)))))
abbrev rmX2_sign : Room := { frames := 0, cells := 0, slots := 0, locals := 0 }
set_option maxHeartbeats 4000000 in
set_option maxRecDepth 100000 in
theorem kX2_sign (l : Launch) (dC : Nat → ClassId) (dI : Nat → Nat → Nat) (cA : Nat → ClassId) (h : Nat) (ad : Nat → Nat) (σ : St) (R0 : Int32) (h0 : fX2_sign σ = some R0) : CI l yX2_sign wsX2_sign rmX2_sign (dC, dI) vwCl (tysW cA) [.ref h] (wP cA h ad σ) R0 (wP cA h ad σ) := by
  refine CGI_of (cc := cX2_sign) (nL := 1) (ret := (some .char)) (by decide) rfl (Nat.le_of_ble_eq_true rfl) ?_
  intro p e s m av below meth c A ls H locs hC hl
  obtain ⟨hC, hr, hlocks, hV, hN, hK, hP, hD, hS, hA⟩ := hC
  have hC : CallFix p m c cX2_sign 1 s _ wsX2_sign RX2 := hC
  obtain ⟨hx, hb, hml, hown, hts⟩ := id hC
  have hin0 : ∀ w ∈ u_ws RX2 TX2 8, w ∈ wsX2_sign := fun _ h => (List.mem_cons_of_mem _ (List.mem_append_right _ h))
  have hl : lv_has ls 1 [(0, .ref h)] := hl
  unfold fX2_sign at h0
  refine lv_aload_n hx hb dX2_sign_0 rfl (lv_at hl 0 rfl) ?_
  refine va_get (D := (dC, dI)) (ci := 2) (v := .int (σ 2 0)) (C := RX2) (T := TX2) (N := 8) hx hb hts hin0 hown hK hP 0 rfl rfl 2 (by decide) (hts (.fieldLink RX2 25 "MeanLocks$Pad" "position" "I") (List.mem_of_getElem? (i := 1) rfl)) (fun _ h9 => h9) rfl dX2_sign_1 ?_
  refine lv_if_lt (tgt := 30) hx hb dX2_sign_4 (by decide) (fun hc => ?_) (fun hc => ?_)
  · have h0 := it_t h0 hc
    refine lv_iconst (v := (0 : Int32)) hx hb dX2_sign_30 (by decide) ?_
    have e1 := Option.some.inj h0
    exact x_retI hC hr hlocks rfl hP hD hS dX2_sign_31 ⟨e1, rfl⟩
  · have h0 := it_f h0 hc
    refine lv_aload_n hx hb dX2_sign_7 rfl (lv_at hl 0 rfl) ?_
    refine va_get (D := (dC, dI)) (ci := 2) (v := .int (σ 2 0)) (C := RX2) (T := TX2) (N := 8) hx hb hts hin0 hown hK hP 0 rfl rfl 2 (by decide) (hts (.fieldLink RX2 25 "MeanLocks$Pad" "position" "I") (List.mem_of_getElem? (i := 1) rfl)) (fun _ h9 => h9) rfl dX2_sign_8 ?_
    refine lv_aload_n hx hb dX2_sign_11 rfl (lv_at hl 0 rfl) ?_
    refine va_get (D := (dC, dI)) (ci := 2) (v := .int (σ 1 0)) (C := RX2) (T := TX2) (N := 8) hx hb hts hin0 hown hK hP 0 rfl rfl 1 (by decide) (hts (.fieldLink RX2 21 "MeanLocks$Pad" "length" "I") (List.mem_of_getElem? (i := 2) rfl)) (fun _ h9 => h9) rfl dX2_sign_12 ?_
    refine lv_icmp_ge (tgt := 30) hx hb dX2_sign_15 (by decide) (fun hc => ?_) (fun hc => ?_)
    · have h0 := it_t h0 hc
      refine lv_iconst (v := (0 : Int32)) hx hb dX2_sign_30 (by decide) ?_
      have e1 := Option.some.inj h0
      exact x_retI hC hr hlocks rfl hP hD hS dX2_sign_31 ⟨e1, rfl⟩
    · have h0 := it_f h0 hc
      refine lv_aload_n hx hb dX2_sign_18 rfl (lv_at hl 0 rfl) ?_
      refine va_get (D := (dC, dI)) (ci := 2) (v := .ref (ad 0)) (C := RX2) (T := TX2) (N := 8) hx hb hts hin0 hown hK hP 0 rfl rfl 0 (by decide) (hts (.fieldLink RX2 9 "MeanLocks$Pad" "text" "[C") (List.mem_of_getElem? (i := 3) rfl)) (fun _ h9 => h9) rfl dX2_sign_19 ?_
      refine lv_aload_n hx hb dX2_sign_22 rfl (lv_at hl 0 rfl) ?_
      refine va_get (D := (dC, dI)) (ci := 2) (v := .int (σ 2 0)) (C := RX2) (T := TX2) (N := 8) hx hb hts hin0 hown hK hP 0 rfl rfl 2 (by decide) (hts (.fieldLink RX2 25 "MeanLocks$Pad" "position" "I") (List.mem_of_getElem? (i := 1) rfl)) (fun _ h9 => h9) rfl dX2_sign_23 ?_
      obtain ⟨hi, h0⟩ := ax_some h0
      refine va_cald hx hb hK hP 1 1 rfl rfl hi dX2_sign_26 ?_
      refine lv_goto (tgt := 31) hx hb dX2_sign_27 (by decide) ?_
      obtain ⟨hg, h0⟩ := gd_some h0
      have e1 := Option.some.inj h0
      exact x_retI hC hr hlocks (cg_nar hg) hP hD hS dX2_sign_31 ⟨e1, rfl⟩
def fX2_digit (σ : St) : Option Int32 := bnd (fX2_sign  σ) fun r1 => if (r1 : Int32) < (48 : Int32) then (some (-1 : Int32)) else (if (57 : Int32) < r1 then (some (-1 : Int32)) else (some (r1 - (48 : Int32))))
abbrev rmX2_digit : Room := { frames := 1, cells := 0, slots := 0, locals := 20 }
set_option maxHeartbeats 4000000 in
set_option maxRecDepth 100000 in
theorem kX2_digit (l : Launch) (dC : Nat → ClassId) (dI : Nat → Nat → Nat) (cA : Nat → ClassId) (h : Nat) (ad : Nat → Nat) (σ : St) (R0 : Int32) (h0 : fX2_digit σ = some R0) : CI l yX2_digit wsX2_digit rmX2_digit (dC, dI) vwCl (tysW cA) [.ref h] (wP cA h ad σ) R0 (wP cA h ad σ) := by
  refine CGI_of (cc := cX2_digit) (nL := 2) (ret := (some .int)) (by decide) rfl (Nat.le_of_ble_eq_true rfl) ?_
  intro p e s m av below meth c A ls H locs hC hl
  obtain ⟨hC, hr, hlocks, hV, hN, hK, hP, hD, hS, hA⟩ := hC
  have hC : CallFix p m c cX2_digit 2 s _ wsX2_digit RX2 := hC
  obtain ⟨hx, hb, hml, hown, hts⟩ := id hC
  have hin0 : ∀ w ∈ u_ws RX2 TX2 8, w ∈ wsX2_digit := fun _ h => (List.mem_cons_of_mem _ (List.mem_append_right _ h))
  have hl : lv_has ls 2 [(0, .ref h)] := hl
  unfold fX2_digit at h0
  refine lv_aload_n hx hb dX2_digit_0 rfl (lv_at hl 0 rfl) ?_
  obtain ⟨r1, hf1, h0⟩ := bnd_some h0
  refine x_VI (As := []) (rest := []) hC (kX2_sign l dC dI cA h ad σ r1  hf1) (cwV 0 hts gX2_digit_X2_sign rfl rfl rfl (by decide +kernel) ⟨Nat.le_of_ble_eq_true rfl, Nat.le_of_ble_eq_true rfl⟩) 0 2 hV hN hK hP hD hS hA rfl rfl rfl rfl hl.1 rfl (Nat.le_of_ble_eq_true rfl) ⟨Nat.zero_le _, Nat.zero_le _⟩ dX2_digit_1 (fun H locs hP hD hS => ?_)
  refine lv_istore_n (lv' := [(1, .int r1), (0, .ref h)]) hx hb dX2_digit_4 rfl hl (by decide) rfl (fun ls hl => ?_)
  refine lv_iload_n hx hb dX2_digit_5 rfl (lv_at hl 0 rfl) ?_
  refine lv_bipush (v := (48 : Int32)) hx hb dX2_digit_6 (by decide) ?_
  refine lv_icmp_lt (tgt := 24) hx hb dX2_digit_8 (by decide) (fun hc => ?_) (fun hc => ?_)
  · have h0 := it_t h0 hc
    refine lv_iconst (v := (-1 : Int32)) hx hb dX2_digit_24 (by decide) ?_
    have e1 := Option.some.inj h0
    exact x_retI hC hr hlocks rfl hP hD hS dX2_digit_25 ⟨e1, rfl⟩
  · have h0 := it_f h0 hc
    refine lv_iload_n hx hb dX2_digit_11 rfl (lv_at hl 0 rfl) ?_
    refine lv_bipush (v := (57 : Int32)) hx hb dX2_digit_12 (by decide) ?_
    refine lv_icmp_gt (tgt := 24) hx hb dX2_digit_14 (by decide) (fun hc => ?_) (fun hc => ?_)
    · have h0 := it_t h0 hc
      refine lv_iconst (v := (-1 : Int32)) hx hb dX2_digit_24 (by decide) ?_
      have e1 := Option.some.inj h0
      exact x_retI hC hr hlocks rfl hP hD hS dX2_digit_25 ⟨e1, rfl⟩
    · have h0 := it_f h0 hc
      refine lv_iload_n hx hb dX2_digit_17 rfl (lv_at hl 0 rfl) ?_
      refine lv_bipush (v := (48 : Int32)) hx hb dX2_digit_18 (by decide) ?_
      refine lv_isub hx hb dX2_digit_20 ?_
      refine lv_goto (tgt := 25) hx hb dX2_digit_21 (by decide) ?_
      have e1 := Option.some.inj h0
      exact x_retI hC hr hlocks rfl hP hD hS dX2_digit_25 ⟨e1, rfl⟩
def fX2_erase (σ : St) : Option (Int32 × St) := nm (σ 1 0) fun v1 => nm (put σ 1 (fun _ => (0 : Int32))) fun s2 => some (v1, s2)
abbrev rmX2_erase : Room := { frames := 0, cells := 0, slots := 0, locals := 0 }
set_option maxHeartbeats 4000000 in
set_option maxRecDepth 100000 in
theorem kX2_erase (l : Launch) (dC : Nat → ClassId) (dI : Nat → Nat → Nat) (cA : Nat → ClassId) (h : Nat) (ad : Nat → Nat) (σ : St) (R0 : Int32) (σ' : St) (h0 : fX2_erase σ = some (R0, σ')) : CI l yX2_erase wsX2_erase rmX2_erase (dC, dI) vwCl (tysW cA) [.ref h] (wP cA h ad σ) R0 (wP cA h ad σ') := by
  refine CGI_of (cc := cX2_erase) (nL := 2) (ret := (some .int)) (by decide) rfl (Nat.le_of_ble_eq_true rfl) ?_
  intro p e s m av below meth c A ls H locs hC hl
  obtain ⟨hC, hr, hlocks, hV, hN, hK, hP, hD, hS, hA⟩ := hC
  have hC : CallFix p m c cX2_erase 2 s _ wsX2_erase RX2 := hC
  obtain ⟨hx, hb, hml, hown, hts⟩ := id hC
  have hin0 : ∀ w ∈ u_ws RX2 TX2 8, w ∈ wsX2_erase := fun _ h => (List.mem_cons_of_mem _ (List.mem_append_right _ h))
  have hl : lv_has ls 2 [(0, .ref h)] := hl
  unfold fX2_erase at h0
  refine lv_aload_n hx hb dX2_erase_0 rfl (lv_at hl 0 rfl) ?_
  refine va_get (D := (dC, dI)) (ci := 2) (v := .int (σ 1 0)) (C := RX2) (T := TX2) (N := 8) hx hb hts hin0 hown hK hP 0 rfl rfl 1 (by decide) (hts (.fieldLink RX2 21 "MeanLocks$Pad" "length" "I") (List.mem_of_getElem? (i := 1) rfl)) (fun _ h9 => h9) rfl dX2_erase_1 ?_
  refine lv_topi (fun v1 ev1 => ?_)
  have h0 := nm_at ev1 h0
  refine lv_istore_n (lv' := [(1, .int v1), (0, .ref h)]) hx hb dX2_erase_4 rfl hl (by decide) rfl (fun ls hl => ?_)
  refine lv_aload_n hx hb dX2_erase_5 rfl (lv_at hl 1 rfl) ?_
  refine lv_iconst (v := (0 : Int32)) hx hb dX2_erase_6 (by decide) ?_
  obtain ⟨s2, es2, h0⟩ := nm_some h0
  refine x_put (D := (dC, dI)) (ws' := wP cA h ad s2) (ci := 2) (fs := [.ref (ad 0), .int (σ 1 0), .int (σ 2 0), .int (σ 3 0), .int (σ 4 0), .int (σ 5 0), .int (σ 6 0), .int (σ 7 0)]) (v := .int (0 : Int32)) (ty := .int) (C := RX2) (T := TX2) (N := 8) hC hin0 tyX2 tyX2_ok nmX2 hK hP hD hS 0 rfl rfl 1 (by decide) (hts (.fieldLink RX2 21 "MeanLocks$Pad" "length" "I") (List.mem_of_getElem? (i := 1) rfl)) rfl rfl rfl rfl (by decide +kernel) (Nat.le_of_ble_eq_true rfl) (by rw [es2]; exact wP_s1 _ _ _ _ _) dX2_erase_7 (fun H locs hP hD hS => ?_)
  refine lv_iload_n hx hb dX2_erase_10 rfl (lv_at hl 0 rfl) ?_
  obtain ⟨e1, e2⟩ := Prod.mk.inj (Option.some.inj h0)
  exact x_retI hC hr hlocks rfl hP hD hS dX2_erase_11 ⟨e1, by rw [← e2]⟩
def bX2_readNumber_23  (x4 : Int32) (x3 : Int32) (s5 : St) : Option ((Int32 × Int32 × St) ⊕ ((Int32 × Int32 × St) ⊕ (Int32 × St))) := if (3 : Int32) ≤ x3 then (some (.inr (.inl (x4, x3, s5)))) else (if (x4 : Int32) ≤ (0 : Int32) then (some (.inr (.inl (x4, x3, s5)))) else (bnd (fX2_digit  s5) fun r6 => if (r6 : Int32) < (0 : Int32) then (some (.inr (.inr (x4, s5)))) else (if (((x4 * (10 : Int32)) + r6) : Int32) ≤ (300 : Int32) then (nm ((x4 * (10 : Int32)) + r6) fun v7 => nm (put s5 2 (fun _ => (s5 2 0) + (1 : Int32))) fun s8 => nm (x3 + (1 : Int32)) fun v9 => some (.inl (v7, v9, s8))) else (some (.inr (.inr (x4, s5)))))))
def fX2_readNumber (σ : St) : Option (Int32 × St) := bnd (fX2_digit  σ) fun r1 => if (0 : Int32) ≤ r1 then (nm (put σ 2 (fun _ => (σ 2 0) + (1 : Int32))) fun s2 => bnd (lp (fun t : (Int32 × Int32 × St) => bX2_readNumber_23  t.1 t.2.1 t.2.2) FU (r1, (1 : Int32), s2)) (fun e0 : ((Int32 × Int32 × St) ⊕ (Int32 × St)) => el e0 (fun e : (Int32 × Int32 × St) => nm e.1 fun x10 => nm e.2.1 fun x11 => nm e.2.2 fun s12 => some (x10, s12)) (fun r : (Int32 × St) => some r))) else (some ((-1 : Int32), σ))
abbrev rmX2_readNumber : Room := { frames := 2, cells := 0, slots := 0, locals := 41 }
set_option maxHeartbeats 4000000 in
set_option maxRecDepth 100000 in
theorem kX2_readNumber (l : Launch) (dC : Nat → ClassId) (dI : Nat → Nat → Nat) (cA : Nat → ClassId) (h : Nat) (ad : Nat → Nat) (σ : St) (R0 : Int32) (σ' : St) (h0 : fX2_readNumber σ = some (R0, σ')) : CI l yX2_readNumber wsX2_readNumber rmX2_readNumber (dC, dI) vwCl (tysW cA) [.ref h] (wP cA h ad σ) R0 (wP cA h ad σ') := by
  refine CGI_of (cc := cX2_readNumber) (nL := 4) (ret := (some .int)) (by decide) rfl (Nat.le_of_ble_eq_true rfl) ?_
  intro p e s m av below meth c A ls H locs hC hl
  obtain ⟨hC, hr, hlocks, hV, hN, hK, hP, hD, hS, hA⟩ := hC
  have hC : CallFix p m c cX2_readNumber 4 s _ wsX2_readNumber RX2 := hC
  obtain ⟨hx, hb, hml, hown, hts⟩ := id hC
  have hin0 : ∀ w ∈ u_ws RX2 TX2 8, w ∈ wsX2_readNumber := fun _ h => (List.mem_cons_of_mem _ (List.mem_append_right _ h))
  have hl : lv_has ls 4 [(0, .ref h)] := hl
  unfold fX2_readNumber at h0
  refine lv_aload_n hx hb dX2_readNumber_0 rfl (lv_at hl 0 rfl) ?_
  obtain ⟨r1, hf1, h0⟩ := bnd_some h0
  refine x_VI (As := []) (rest := []) hC (kX2_digit l dC dI cA h ad σ r1  hf1) (cwV 0 hts gX2_readNumber_X2_digit rfl rfl rfl (by decide +kernel) ⟨Nat.le_of_ble_eq_true rfl, Nat.le_of_ble_eq_true rfl⟩) 0 2 hV hN hK hP hD hS hA rfl rfl rfl rfl hl.1 rfl (Nat.le_of_ble_eq_true rfl) ⟨Nat.zero_le _, Nat.zero_le _⟩ dX2_readNumber_1 (fun H locs hP hD hS => ?_)
  refine lv_istore_n (lv' := [(1, .int r1), (0, .ref h)]) hx hb dX2_readNumber_4 rfl hl (by decide) rfl (fun ls hl => ?_)
  refine lv_iload_n hx hb dX2_readNumber_5 rfl (lv_at hl 0 rfl) ?_
  refine lv_if_ge (tgt := 11) hx hb dX2_readNumber_6 (by decide) (fun hc => ?_) (fun hc => ?_)
  · have h0 := it_t h0 hc
    refine lv_aload_n hx hb dX2_readNumber_11 rfl (lv_at hl 1 rfl) ?_
    refine lv_dup hx hb dX2_readNumber_12 rfl ?_
    refine va_get (D := (dC, dI)) (ci := 2) (v := .int (σ 2 0)) (C := RX2) (T := TX2) (N := 8) hx hb hts hin0 hown hK hP 0 rfl rfl 2 (by decide) (hts (.fieldLink RX2 25 "MeanLocks$Pad" "position" "I") (List.mem_of_getElem? (i := 1) rfl)) (fun _ h9 => h9) rfl dX2_readNumber_13 ?_
    refine lv_iconst (v := (1 : Int32)) hx hb dX2_readNumber_16 (by decide) ?_
    refine lv_iadd hx hb dX2_readNumber_17 ?_
    obtain ⟨s2, es2, h0⟩ := nm_some h0
    refine x_put (D := (dC, dI)) (ws' := wP cA h ad s2) (ci := 2) (fs := [.ref (ad 0), .int (σ 1 0), .int (σ 2 0), .int (σ 3 0), .int (σ 4 0), .int (σ 5 0), .int (σ 6 0), .int (σ 7 0)]) (v := .int ((σ 2 0) + (1 : Int32))) (ty := .int) (C := RX2) (T := TX2) (N := 8) hC hin0 tyX2 tyX2_ok nmX2 hK hP hD hS 0 rfl rfl 2 (by decide) (hts (.fieldLink RX2 25 "MeanLocks$Pad" "position" "I") (List.mem_of_getElem? (i := 1) rfl)) rfl rfl rfl rfl (by decide +kernel) (Nat.le_of_ble_eq_true rfl) (by rw [es2]; exact wP_s2 _ _ _ _ _) dX2_readNumber_18 (fun H locs hP hD hS => ?_)
    refine lv_iconst (v := (1 : Int32)) hx hb dX2_readNumber_21 (by decide) ?_
    refine lv_istore_n (lv' := [(2, .int (1 : Int32)), (1, .int r1), (0, .ref h)]) hx hb dX2_readNumber_22 rfl hl (by decide) rfl (fun ls hl => ?_)
    obtain ⟨ε2, hl2, h0⟩ := bnd_some h0
    have KN2 : ∀ (x10 : Int32) (x11 : Int32) (s12 : St), ε2 = .inl (x10, x11, s12) → ∀ (H : Heap) (locs : List Loc), va_P (dC, dI) vwCl (wP cA h ad s12) H → va_D A (wP cA h ad s12) → va_S A s.heap H locs → ∀ (ls : Array Slot), lv_has ls 4 [(2, .int x11), (1, .int x10), (0, .ref h)] → W p l e (headSpec wsX2_readNumber rmX2_readNumber).room s m av below meth c H locs 0 0 (MQ below (qI (dC, dI) A R0 (wP cA h ad σ')) av s 0 0 A) (F0 m 78 ls []) := by
      intro x10 x11 s12 hε H locs hP hD hS ls hl
      rw [hε] at h0
      have h0 := el_l h0
      have h0 := nm_at (z := x10) rfl h0
      have h0 := nm_at (z := x11) rfl h0
      have h0 := nm_at (z := s12) rfl h0
      refine lv_iload_n hx hb dX2_readNumber_78 rfl (lv_at hl 1 rfl) ?_
      obtain ⟨e1, e2⟩ := Prod.mk.inj (Option.some.inj h0)
      exact x_retI hC hr hlocks rfl hP hD hS dX2_readNumber_79 ⟨e1, by rw [← e2]⟩
    have LP2 : ∀ (n : Nat) (x4 : Int32) (x3 : Int32) (s5 : St), lp (fun t : (Int32 × Int32 × St) => bX2_readNumber_23  t.1 t.2.1 t.2.2) n (x4, x3, s5) = some ε2 → ∀ (H : Heap) (locs : List Loc), va_P (dC, dI) vwCl (wP cA h ad s5) H → va_D A (wP cA h ad s5) → va_S A s.heap H locs → ∀ (ls : Array Slot), lv_has ls 4 [(2, .int x3), (1, .int x4), (0, .ref h)] → W p l e (headSpec wsX2_readNumber rmX2_readNumber).room s m av below meth c H locs 0 0 (MQ below (qI (dC, dI) A R0 (wP cA h ad σ')) av s 0 0 A) (F0 m 23 ls []) := by
      intro n
      induction n with
      | zero => intro x4 x3 s5 hl0; exact (lp_0 hl0).elim
      | succ n ih2 =>
        intro x4 x3 s5 hl0 H locs hP hD hS ls hl
        obtain ⟨z2, h1, hz2⟩ := lp_s hl0
        have h1 : bX2_readNumber_23  x4 x3 s5 = some z2 := h1
        unfold bX2_readNumber_23 at h1
        refine lv_iload_n hx hb dX2_readNumber_23 rfl (lv_at hl 0 rfl) ?_
        refine lv_iconst (v := (3 : Int32)) hx hb dX2_readNumber_24 (by decide) ?_
        refine lv_icmp_ge (tgt := 78) hx hb dX2_readNumber_25 (by decide) (fun hc => ?_) (fun hc => ?_)
        · have h1 := it_t h1 hc
          have he := lp_r h1 hz2
          exact KN2 x4 x3 s5 he _ _ hP hD hS ls (lv_sub hl [0, 1, 2] rfl)
        · have h1 := it_f h1 hc
          refine lv_iload_n hx hb dX2_readNumber_28 rfl (lv_at hl 1 rfl) ?_
          refine lv_if_le (tgt := 78) hx hb dX2_readNumber_29 (by decide) (fun hc => ?_) (fun hc => ?_)
          · have h1 := it_t h1 hc
            have he := lp_r h1 hz2
            exact KN2 x4 x3 s5 he _ _ hP hD hS ls (lv_sub hl [0, 1, 2] rfl)
          · have h1 := it_f h1 hc
            refine lv_aload_n hx hb dX2_readNumber_32 rfl (lv_at hl 2 rfl) ?_
            obtain ⟨r6, hf3, h1⟩ := bnd_some h1
            refine x_VI (As := []) (rest := []) hC (kX2_digit l dC dI cA h ad s5 r6  hf3) (cwV 0 hts gX2_readNumber_X2_digit rfl rfl rfl (by decide +kernel) ⟨Nat.le_of_ble_eq_true rfl, Nat.le_of_ble_eq_true rfl⟩) 0 2 hV hN hK hP hD hS hA rfl rfl rfl rfl hl.1 rfl (Nat.le_of_ble_eq_true rfl) ⟨Nat.zero_le _, Nat.zero_le _⟩ dX2_readNumber_33 (fun H locs hP hD hS => ?_)
            refine lv_istore_n (lv' := [(3, .int r6), (2, .int x3), (1, .int x4), (0, .ref h)]) hx hb dX2_readNumber_36 rfl hl (by decide) rfl (fun ls hl => ?_)
            refine lv_iload_n hx hb dX2_readNumber_37 rfl (lv_at hl 0 rfl) ?_
            refine lv_if_lt (tgt := 53) hx hb dX2_readNumber_38 (by decide) (fun hc => ?_) (fun hc => ?_)
            · have h1 := it_t h1 hc
              refine lv_iload_n hx hb dX2_readNumber_53 rfl (lv_at hl 2 rfl) ?_
              have he := lp_r h1 hz2
              rw [he] at h0
              have h0 := el_r h0
              obtain ⟨e1, e2⟩ := Prod.mk.inj (Option.some.inj h0)
              exact x_retI hC hr hlocks rfl hP hD hS dX2_readNumber_54 ⟨e1, by rw [← e2]⟩
            · have h1 := it_f h1 hc
              refine lv_iload_n hx hb dX2_readNumber_41 rfl (lv_at hl 2 rfl) ?_
              refine lv_bipush (v := (10 : Int32)) hx hb dX2_readNumber_42 (by decide) ?_
              refine lv_imul hx hb dX2_readNumber_44 ?_
              refine lv_iload_n hx hb dX2_readNumber_45 rfl (lv_at hl 0 rfl) ?_
              refine lv_iadd hx hb dX2_readNumber_46 ?_
              refine lv_sipush (v := (300 : Int32)) hx hb dX2_readNumber_47 (by decide) ?_
              refine lv_icmp_le (tgt := 55) hx hb dX2_readNumber_50 (by decide) (fun hc => ?_) (fun hc => ?_)
              · have h1 := it_t h1 hc
                refine lv_iload_n hx hb dX2_readNumber_55 rfl (lv_at hl 2 rfl) ?_
                refine lv_bipush (v := (10 : Int32)) hx hb dX2_readNumber_56 (by decide) ?_
                refine lv_imul hx hb dX2_readNumber_58 ?_
                refine lv_iload_n hx hb dX2_readNumber_59 rfl (lv_at hl 0 rfl) ?_
                refine lv_iadd hx hb dX2_readNumber_60 ?_
                refine lv_topi (fun v7 ev7 => ?_)
                have h1 := nm_at ev7 h1
                refine lv_istore_n (lv' := [(1, .int v7), (3, .int r6), (2, .int x3), (0, .ref h)]) hx hb dX2_readNumber_61 rfl hl (by decide) rfl (fun ls hl => ?_)
                refine lv_aload_n hx hb dX2_readNumber_62 rfl (lv_at hl 3 rfl) ?_
                refine lv_dup hx hb dX2_readNumber_63 rfl ?_
                refine va_get (D := (dC, dI)) (ci := 2) (v := .int (s5 2 0)) (C := RX2) (T := TX2) (N := 8) hx hb hts hin0 hown hK hP 0 rfl rfl 2 (by decide) (hts (.fieldLink RX2 25 "MeanLocks$Pad" "position" "I") (List.mem_of_getElem? (i := 1) rfl)) (fun _ h9 => h9) rfl dX2_readNumber_64 ?_
                refine lv_iconst (v := (1 : Int32)) hx hb dX2_readNumber_67 (by decide) ?_
                refine lv_iadd hx hb dX2_readNumber_68 ?_
                obtain ⟨s8, es8, h1⟩ := nm_some h1
                refine x_put (D := (dC, dI)) (ws' := wP cA h ad s8) (ci := 2) (fs := [.ref (ad 0), .int (s5 1 0), .int (s5 2 0), .int (s5 3 0), .int (s5 4 0), .int (s5 5 0), .int (s5 6 0), .int (s5 7 0)]) (v := .int ((s5 2 0) + (1 : Int32))) (ty := .int) (C := RX2) (T := TX2) (N := 8) hC hin0 tyX2 tyX2_ok nmX2 hK hP hD hS 0 rfl rfl 2 (by decide) (hts (.fieldLink RX2 25 "MeanLocks$Pad" "position" "I") (List.mem_of_getElem? (i := 1) rfl)) rfl rfl rfl rfl (by decide +kernel) (Nat.le_of_ble_eq_true rfl) (by rw [es8]; exact wP_s2 _ _ _ _ _) dX2_readNumber_69 (fun H locs hP hD hS => ?_)
                obtain ⟨v9, ev9, h1⟩ := nm_some h1
                refine lv_iinc (v := v9) (lv' := [(2, .int v9), (1, .int v7), (3, .int r6), (0, .ref h)]) hx hb dX2_readNumber_72 hl (k := 2) rfl (by rw [ev9]; rfl) (by decide) rfl (fun ls hl => ?_)
                refine lv_goto (tgt := 23) hx hb dX2_readNumber_75 (by decide) ?_
                have hc := lp_l h1 hz2
                exact ih2 v7 v9 s8 hc _ _ hP hD hS ls (lv_sub hl [0, 1, 3] rfl)
              · have h1 := it_f h1 hc
                refine lv_iload_n hx hb dX2_readNumber_53 rfl (lv_at hl 2 rfl) ?_
                have he := lp_r h1 hz2
                rw [he] at h0
                have h0 := el_r h0
                obtain ⟨e1, e2⟩ := Prod.mk.inj (Option.some.inj h0)
                exact x_retI hC hr hlocks rfl hP hD hS dX2_readNumber_54 ⟨e1, by rw [← e2]⟩
    exact LP2 FU r1 (1 : Int32) s2 hl2 _ _ hP hD hS ls hl
  · have h0 := it_f h0 hc
    refine lv_iconst (v := (-1 : Int32)) hx hb dX2_readNumber_9 (by decide) ?_
    obtain ⟨e1, e2⟩ := Prod.mk.inj (Option.some.inj h0)
    exact x_retI hC hr hlocks rfl hP hD hS dX2_readNumber_10 ⟨e1, by rw [← e2]⟩
def fX2_readOwner (σ : St) : Option (Int32 × St) := bnd (fX2_digit  σ) fun r1 => nm (put σ 4 (fun _ => r1)) fun s2 => bnd (fX3_isOwner (s2 4 0)) fun r3 => if (r3 : Int32) = (0 : Int32) then (some ((0 : Int32), s2)) else (nm (put s2 2 (fun _ => (s2 2 0) + (1 : Int32))) fun s4 => some ((1 : Int32), s4))
abbrev rmX2_readOwner : Room := { frames := 2, cells := 0, slots := 0, locals := 41 }
set_option maxHeartbeats 4000000 in
set_option maxRecDepth 100000 in
theorem kX2_readOwner (l : Launch) (dC : Nat → ClassId) (dI : Nat → Nat → Nat) (cA : Nat → ClassId) (h : Nat) (ad : Nat → Nat) (σ : St) (R0 : Int32) (σ' : St) (h0 : fX2_readOwner σ = some (R0, σ')) : CI l yX2_readOwner wsX2_readOwner rmX2_readOwner (dC, dI) vwCl (tysW cA) [.ref h] (wP cA h ad σ) R0 (wP cA h ad σ') := by
  refine CGI_of (cc := cX2_readOwner) (nL := 1) (ret := (some .boolean)) (by decide) rfl (Nat.le_of_ble_eq_true rfl) ?_
  intro p e s m av below meth c A ls H locs hC hl
  obtain ⟨hC, hr, hlocks, hV, hN, hK, hP, hD, hS, hA⟩ := hC
  have hC : CallFix p m c cX2_readOwner 1 s _ wsX2_readOwner RX2 := hC
  obtain ⟨hx, hb, hml, hown, hts⟩ := id hC
  have hin0 : ∀ w ∈ u_ws RX2 TX2 8, w ∈ wsX2_readOwner := fun _ h => (List.mem_cons_of_mem _ (List.mem_append_right _ h))
  have hl : lv_has ls 1 [(0, .ref h)] := hl
  unfold fX2_readOwner at h0
  refine lv_aload_n hx hb dX2_readOwner_0 rfl (lv_at hl 0 rfl) ?_
  refine lv_aload_n hx hb dX2_readOwner_1 rfl (lv_at hl 0 rfl) ?_
  obtain ⟨r1, hf1, h0⟩ := bnd_some h0
  refine x_VI (As := []) (rest := [.ref h]) hC (kX2_digit l dC dI cA h ad σ r1  hf1) (cwV 0 hts gX2_readOwner_X2_digit rfl rfl rfl (by decide +kernel) ⟨Nat.le_of_ble_eq_true rfl, Nat.le_of_ble_eq_true rfl⟩) 0 2 hV hN hK hP hD hS hA rfl rfl rfl rfl hl.1 rfl (Nat.le_of_ble_eq_true rfl) ⟨Nat.zero_le _, Nat.zero_le _⟩ dX2_readOwner_2 (fun H locs hP hD hS => ?_)
  obtain ⟨s2, es2, h0⟩ := nm_some h0
  refine x_put (D := (dC, dI)) (ws' := wP cA h ad s2) (ci := 2) (fs := [.ref (ad 0), .int (σ 1 0), .int (σ 2 0), .int (σ 3 0), .int (σ 4 0), .int (σ 5 0), .int (σ 6 0), .int (σ 7 0)]) (v := .int r1) (ty := .int) (C := RX2) (T := TX2) (N := 8) hC hin0 tyX2 tyX2_ok nmX2 hK hP hD hS 0 rfl rfl 4 (by decide) (hts (.fieldLink RX2 71 "MeanLocks$Pad" "owner" "I") (List.mem_of_getElem? (i := 1) rfl)) rfl rfl rfl rfl (by decide +kernel) (Nat.le_of_ble_eq_true rfl) (by rw [es2]; exact wP_s4 _ _ _ _ _) dX2_readOwner_5 (fun H locs hP hD hS => ?_)
  refine lv_aload_n hx hb dX2_readOwner_8 rfl (lv_at hl 0 rfl) ?_
  refine va_get (D := (dC, dI)) (ci := 2) (v := .int (s2 4 0)) (C := RX2) (T := TX2) (N := 8) hx hb hts hin0 hown hK hP 0 rfl rfl 4 (by decide) (hts (.fieldLink RX2 71 "MeanLocks$Pad" "owner" "I") (List.mem_of_getElem? (i := 1) rfl)) (fun _ h9 => h9) rfl dX2_readOwner_9 ?_
  obtain ⟨r3, hf2, h0⟩ := bnd_some h0
  refine x_SNI (As := [.int (s2 4 0)]) (rest := []) hC (kX3_isOwner l dC dI cA (s2 4 0) r3 hf2) ⟨va_cnB 1 hts gX2_readOwner_X3_isOwner_n74 rfl rfl rfl (hN _ (List.mem_of_getElem? (i := 8) rfl)) (hts (.initialized RX3) (List.mem_of_getElem? (i := 15) rfl)) ⟨by decide +kernel, by decide +kernel, by decide +kernel⟩ ⟨Nat.le_of_ble_eq_true rfl, Nat.le_of_ble_eq_true rfl⟩, (hts (.static yX3_isOwner) (List.mem_of_getElem? (i := 14) rfl)), trivial⟩ hV hN hK hP hD hS hA rfl hl.1 rfl (Nat.le_of_ble_eq_true rfl) ⟨Nat.zero_le _, Nat.zero_le _⟩ dX2_readOwner_12 (fun H locs hP hD hS => ?_)
  refine lv_if_ne (tgt := 20) hx hb dX2_readOwner_15 (by decide) (fun hc => ?_) (fun hc => ?_)
  · have h0 := it_f h0 hc
    refine lv_aload_n hx hb dX2_readOwner_20 rfl (lv_at hl 0 rfl) ?_
    refine lv_dup hx hb dX2_readOwner_21 rfl ?_
    refine va_get (D := (dC, dI)) (ci := 2) (v := .int (s2 2 0)) (C := RX2) (T := TX2) (N := 8) hx hb hts hin0 hown hK hP 0 rfl rfl 2 (by decide) (hts (.fieldLink RX2 25 "MeanLocks$Pad" "position" "I") (List.mem_of_getElem? (i := 2) rfl)) (fun _ h9 => h9) rfl dX2_readOwner_22 ?_
    refine lv_iconst (v := (1 : Int32)) hx hb dX2_readOwner_25 (by decide) ?_
    refine lv_iadd hx hb dX2_readOwner_26 ?_
    obtain ⟨s4, es4, h0⟩ := nm_some h0
    refine x_put (D := (dC, dI)) (ws' := wP cA h ad s4) (ci := 2) (fs := [.ref (ad 0), .int (s2 1 0), .int (s2 2 0), .int (s2 3 0), .int (s2 4 0), .int (s2 5 0), .int (s2 6 0), .int (s2 7 0)]) (v := .int ((s2 2 0) + (1 : Int32))) (ty := .int) (C := RX2) (T := TX2) (N := 8) hC hin0 tyX2 tyX2_ok nmX2 hK hP hD hS 0 rfl rfl 2 (by decide) (hts (.fieldLink RX2 25 "MeanLocks$Pad" "position" "I") (List.mem_of_getElem? (i := 2) rfl)) rfl rfl rfl rfl (by decide +kernel) (Nat.le_of_ble_eq_true rfl) (by rw [es4]; exact wP_s2 _ _ _ _ _) dX2_readOwner_27 (fun H locs hP hD hS => ?_)
    refine lv_iconst (v := (1 : Int32)) hx hb dX2_readOwner_30 (by decide) ?_
    obtain ⟨e1, e2⟩ := Prod.mk.inj (Option.some.inj h0)
    exact x_retI hC hr hlocks rfl hP hD hS dX2_readOwner_31 ⟨e1, by rw [← e2]⟩
  · have h0 := it_t h0 hc
    refine lv_iconst (v := (0 : Int32)) hx hb dX2_readOwner_18 (by decide) ?_
    obtain ⟨e1, e2⟩ := Prod.mk.inj (Option.some.inj h0)
    exact x_retI hC hr hlocks rfl hP hD hS dX2_readOwner_19 ⟨e1, by rw [← e2]⟩
def fX2_skip (a1 : Int32) (σ : St) : Option (Int32 × St) := bnd (fX2_sign  σ) fun r1 => if (r1 : Int32) = a1 then (nm (put σ 2 (fun _ => (σ 2 0) + (1 : Int32))) fun s2 => some ((1 : Int32), s2)) else (some ((0 : Int32), σ))
abbrev rmX2_skip : Room := { frames := 1, cells := 0, slots := 0, locals := 20 }
set_option maxHeartbeats 4000000 in
set_option maxRecDepth 100000 in
theorem kX2_skip (l : Launch) (dC : Nat → ClassId) (dI : Nat → Nat → Nat) (cA : Nat → ClassId) (h : Nat) (ad : Nat → Nat) (a1 : Int32) (σ : St) (R0 : Int32) (σ' : St) (h0 : fX2_skip a1 σ = some (R0, σ')) : CI l yX2_skip wsX2_skip rmX2_skip (dC, dI) vwCl (tysW cA) [.ref h, .int a1] (wP cA h ad σ) R0 (wP cA h ad σ') := by
  refine CGI_of (cc := cX2_skip) (nL := 2) (ret := (some .boolean)) (by decide) rfl (Nat.le_of_ble_eq_true rfl) ?_
  intro p e s m av below meth c A ls H locs hC hl
  obtain ⟨hC, hr, hlocks, hV, hN, hK, hP, hD, hS, hA⟩ := hC
  have hC : CallFix p m c cX2_skip 2 s _ wsX2_skip RX2 := hC
  obtain ⟨hx, hb, hml, hown, hts⟩ := id hC
  have hin0 : ∀ w ∈ u_ws RX2 TX2 8, w ∈ wsX2_skip := fun _ h => (List.mem_cons_of_mem _ (List.mem_append_right _ h))
  have hl : lv_has ls 2 [(0, .ref h), (1, .int a1)] := hl
  unfold fX2_skip at h0
  refine lv_aload_n hx hb dX2_skip_0 rfl (lv_at hl 0 rfl) ?_
  obtain ⟨r1, hf1, h0⟩ := bnd_some h0
  refine x_VI (As := []) (rest := []) hC (kX2_sign l dC dI cA h ad σ r1  hf1) (cwV 0 hts gX2_skip_X2_sign rfl rfl rfl (by decide +kernel) ⟨Nat.le_of_ble_eq_true rfl, Nat.le_of_ble_eq_true rfl⟩) 0 2 hV hN hK hP hD hS hA rfl rfl rfl rfl hl.1 rfl (Nat.le_of_ble_eq_true rfl) ⟨Nat.zero_le _, Nat.zero_le _⟩ dX2_skip_1 (fun H locs hP hD hS => ?_)
  refine lv_iload_n hx hb dX2_skip_4 rfl (lv_at hl 1 rfl) ?_
  refine lv_icmp_eq (tgt := 10) hx hb dX2_skip_5 (by decide) (fun hc => ?_) (fun hc => ?_)
  · have h0 := it_t h0 hc
    refine lv_aload_n hx hb dX2_skip_10 rfl (lv_at hl 0 rfl) ?_
    refine lv_dup hx hb dX2_skip_11 rfl ?_
    refine va_get (D := (dC, dI)) (ci := 2) (v := .int (σ 2 0)) (C := RX2) (T := TX2) (N := 8) hx hb hts hin0 hown hK hP 0 rfl rfl 2 (by decide) (hts (.fieldLink RX2 25 "MeanLocks$Pad" "position" "I") (List.mem_of_getElem? (i := 1) rfl)) (fun _ h9 => h9) rfl dX2_skip_12 ?_
    refine lv_iconst (v := (1 : Int32)) hx hb dX2_skip_15 (by decide) ?_
    refine lv_iadd hx hb dX2_skip_16 ?_
    obtain ⟨s2, es2, h0⟩ := nm_some h0
    refine x_put (D := (dC, dI)) (ws' := wP cA h ad s2) (ci := 2) (fs := [.ref (ad 0), .int (σ 1 0), .int (σ 2 0), .int (σ 3 0), .int (σ 4 0), .int (σ 5 0), .int (σ 6 0), .int (σ 7 0)]) (v := .int ((σ 2 0) + (1 : Int32))) (ty := .int) (C := RX2) (T := TX2) (N := 8) hC hin0 tyX2 tyX2_ok nmX2 hK hP hD hS 0 rfl rfl 2 (by decide) (hts (.fieldLink RX2 25 "MeanLocks$Pad" "position" "I") (List.mem_of_getElem? (i := 1) rfl)) rfl rfl rfl rfl (by decide +kernel) (Nat.le_of_ble_eq_true rfl) (by rw [es2]; exact wP_s2 _ _ _ _ _) dX2_skip_17 (fun H locs hP hD hS => ?_)
    refine lv_iconst (v := (1 : Int32)) hx hb dX2_skip_20 (by decide) ?_
    obtain ⟨e1, e2⟩ := Prod.mk.inj (Option.some.inj h0)
    exact x_retI hC hr hlocks rfl hP hD hS dX2_skip_21 ⟨e1, by rw [← e2]⟩
  · have h0 := it_f h0 hc
    refine lv_iconst (v := (0 : Int32)) hx hb dX2_skip_8 (by decide) ?_
    obtain ⟨e1, e2⟩ := Prod.mk.inj (Option.some.inj h0)
    exact x_retI hC hr hlocks rfl hP hD hS dX2_skip_9 ⟨e1, by rw [← e2]⟩
def fX2_readRange (σ : St) : Option (Int32 × St) := bn2 (fX2_skip (58 : Int32) σ) fun r1 s2 => if (r1 : Int32) = (0 : Int32) then (some ((0 : Int32), s2)) else (bn2 (fX2_readNumber  s2) fun r3 s4 => nm (put s4 5 (fun _ => r3)) fun s5 => if ((s5 5 0) : Int32) < (0 : Int32) then (some ((0 : Int32), s5)) else (bn2 (fX2_skip (45 : Int32) s5) fun r6 s7 => if (r6 : Int32) = (0 : Int32) then (some ((0 : Int32), s7)) else (bn2 (fX2_readNumber  s7) fun r8 s9 => nm (put s9 6 (fun _ => r8)) fun s10 => if ((s10 6 0) : Int32) < (0 : Int32) then (some ((0 : Int32), s10)) else (some ((1 : Int32), s10)))))
abbrev rmX2_readRange : Room := { frames := 3, cells := 0, slots := 0, locals := 64 }
set_option maxHeartbeats 4000000 in
set_option maxRecDepth 100000 in
theorem kX2_readRange (l : Launch) (dC : Nat → ClassId) (dI : Nat → Nat → Nat) (cA : Nat → ClassId) (h : Nat) (ad : Nat → Nat) (σ : St) (R0 : Int32) (σ' : St) (h0 : fX2_readRange σ = some (R0, σ')) : CI l yX2_readRange wsX2_readRange rmX2_readRange (dC, dI) vwCl (tysW cA) [.ref h] (wP cA h ad σ) R0 (wP cA h ad σ') := by
  refine CGI_of (cc := cX2_readRange) (nL := 1) (ret := (some .boolean)) (by decide) rfl (Nat.le_of_ble_eq_true rfl) ?_
  intro p e s m av below meth c A ls H locs hC hl
  obtain ⟨hC, hr, hlocks, hV, hN, hK, hP, hD, hS, hA⟩ := hC
  have hC : CallFix p m c cX2_readRange 1 s _ wsX2_readRange RX2 := hC
  obtain ⟨hx, hb, hml, hown, hts⟩ := id hC
  have hin0 : ∀ w ∈ u_ws RX2 TX2 8, w ∈ wsX2_readRange := fun _ h => (List.mem_cons_of_mem _ (List.mem_append_right _ h))
  have hl : lv_has ls 1 [(0, .ref h)] := hl
  unfold fX2_readRange at h0
  refine lv_aload_n hx hb dX2_readRange_0 rfl (lv_at hl 0 rfl) ?_
  refine lv_bipush (v := (58 : Int32)) hx hb dX2_readRange_1 (by decide) ?_
  obtain ⟨r1, s2, hf1, h0⟩ := bn2_some h0
  refine x_VI (As := [.int (58 : Int32)]) (rest := []) hC (kX2_skip l dC dI cA h ad (58 : Int32) σ r1 s2 hf1) (cwV 1 hts gX2_readRange_X2_skip rfl rfl rfl (by decide +kernel) ⟨Nat.le_of_ble_eq_true rfl, Nat.le_of_ble_eq_true rfl⟩) 0 2 hV hN hK hP hD hS hA rfl rfl rfl rfl hl.1 rfl (Nat.le_of_ble_eq_true rfl) ⟨Nat.zero_le _, Nat.zero_le _⟩ dX2_readRange_3 (fun H locs hP hD hS => ?_)
  refine lv_if_ne (tgt := 11) hx hb dX2_readRange_6 (by decide) (fun hc => ?_) (fun hc => ?_)
  · have h0 := it_f h0 hc
    refine lv_aload_n hx hb dX2_readRange_11 rfl (lv_at hl 0 rfl) ?_
    refine lv_aload_n hx hb dX2_readRange_12 rfl (lv_at hl 0 rfl) ?_
    obtain ⟨r3, s4, hf2, h0⟩ := bn2_some h0
    refine x_VI (As := []) (rest := [.ref h]) hC (kX2_readNumber l dC dI cA h ad s2 r3 s4 hf2) (cwV 0 hts gX2_readRange_X2_readNumber rfl rfl rfl (by decide +kernel) ⟨Nat.le_of_ble_eq_true rfl, Nat.le_of_ble_eq_true rfl⟩) 0 2 hV hN hK hP hD hS hA rfl rfl rfl rfl hl.1 rfl (Nat.le_of_ble_eq_true rfl) ⟨Nat.zero_le _, Nat.zero_le _⟩ dX2_readRange_13 (fun H locs hP hD hS => ?_)
    obtain ⟨s5, es5, h0⟩ := nm_some h0
    refine x_put (D := (dC, dI)) (ws' := wP cA h ad s5) (ci := 2) (fs := [.ref (ad 0), .int (s4 1 0), .int (s4 2 0), .int (s4 3 0), .int (s4 4 0), .int (s4 5 0), .int (s4 6 0), .int (s4 7 0)]) (v := .int r3) (ty := .int) (C := RX2) (T := TX2) (N := 8) hC hin0 tyX2 tyX2_ok nmX2 hK hP hD hS 0 rfl rfl 5 (by decide) (hts (.fieldLink RX2 59 "MeanLocks$Pad" "first" "I") (List.mem_of_getElem? (i := 1) rfl)) rfl rfl rfl rfl (by decide +kernel) (Nat.le_of_ble_eq_true rfl) (by rw [es5]; exact wP_s5 _ _ _ _ _) dX2_readRange_16 (fun H locs hP hD hS => ?_)
    refine lv_aload_n hx hb dX2_readRange_19 rfl (lv_at hl 0 rfl) ?_
    refine va_get (D := (dC, dI)) (ci := 2) (v := .int (s5 5 0)) (C := RX2) (T := TX2) (N := 8) hx hb hts hin0 hown hK hP 0 rfl rfl 5 (by decide) (hts (.fieldLink RX2 59 "MeanLocks$Pad" "first" "I") (List.mem_of_getElem? (i := 1) rfl)) (fun _ h9 => h9) rfl dX2_readRange_20 ?_
    refine lv_if_lt (tgt := 35) hx hb dX2_readRange_23 (by decide) (fun hc => ?_) (fun hc => ?_)
    · have h0 := it_t h0 hc
      refine lv_iconst (v := (0 : Int32)) hx hb dX2_readRange_35 (by decide) ?_
      obtain ⟨e1, e2⟩ := Prod.mk.inj (Option.some.inj h0)
      exact x_retI hC hr hlocks rfl hP hD hS dX2_readRange_36 ⟨e1, by rw [← e2]⟩
    · have h0 := it_f h0 hc
      refine lv_aload_n hx hb dX2_readRange_26 rfl (lv_at hl 0 rfl) ?_
      refine lv_bipush (v := (45 : Int32)) hx hb dX2_readRange_27 (by decide) ?_
      obtain ⟨r6, s7, hf3, h0⟩ := bn2_some h0
      refine x_VI (As := [.int (45 : Int32)]) (rest := []) hC (kX2_skip l dC dI cA h ad (45 : Int32) s5 r6 s7 hf3) (cwV 1 hts gX2_readRange_X2_skip rfl rfl rfl (by decide +kernel) ⟨Nat.le_of_ble_eq_true rfl, Nat.le_of_ble_eq_true rfl⟩) 0 2 hV hN hK hP hD hS hA rfl rfl rfl rfl hl.1 rfl (Nat.le_of_ble_eq_true rfl) ⟨Nat.zero_le _, Nat.zero_le _⟩ dX2_readRange_29 (fun H locs hP hD hS => ?_)
      refine lv_if_ne (tgt := 37) hx hb dX2_readRange_32 (by decide) (fun hc => ?_) (fun hc => ?_)
      · have h0 := it_f h0 hc
        refine lv_aload_n hx hb dX2_readRange_37 rfl (lv_at hl 0 rfl) ?_
        refine lv_aload_n hx hb dX2_readRange_38 rfl (lv_at hl 0 rfl) ?_
        obtain ⟨r8, s9, hf4, h0⟩ := bn2_some h0
        refine x_VI (As := []) (rest := [.ref h]) hC (kX2_readNumber l dC dI cA h ad s7 r8 s9 hf4) (cwV 0 hts gX2_readRange_X2_readNumber rfl rfl rfl (by decide +kernel) ⟨Nat.le_of_ble_eq_true rfl, Nat.le_of_ble_eq_true rfl⟩) 0 2 hV hN hK hP hD hS hA rfl rfl rfl rfl hl.1 rfl (Nat.le_of_ble_eq_true rfl) ⟨Nat.zero_le _, Nat.zero_le _⟩ dX2_readRange_39 (fun H locs hP hD hS => ?_)
        obtain ⟨s10, es10, h0⟩ := nm_some h0
        refine x_put (D := (dC, dI)) (ws' := wP cA h ad s10) (ci := 2) (fs := [.ref (ad 0), .int (s9 1 0), .int (s9 2 0), .int (s9 3 0), .int (s9 4 0), .int (s9 5 0), .int (s9 6 0), .int (s9 7 0)]) (v := .int r8) (ty := .int) (C := RX2) (T := TX2) (N := 8) hC hin0 tyX2 tyX2_ok nmX2 hK hP hD hS 0 rfl rfl 6 (by decide) (hts (.fieldLink RX2 78 "MeanLocks$Pad" "second" "I") (List.mem_of_getElem? (i := 2) rfl)) rfl rfl rfl rfl (by decide +kernel) (Nat.le_of_ble_eq_true rfl) (by rw [es10]; exact wP_s6 _ _ _ _ _) dX2_readRange_42 (fun H locs hP hD hS => ?_)
        refine lv_aload_n hx hb dX2_readRange_45 rfl (lv_at hl 0 rfl) ?_
        refine va_get (D := (dC, dI)) (ci := 2) (v := .int (s10 6 0)) (C := RX2) (T := TX2) (N := 8) hx hb hts hin0 hown hK hP 0 rfl rfl 6 (by decide) (hts (.fieldLink RX2 78 "MeanLocks$Pad" "second" "I") (List.mem_of_getElem? (i := 2) rfl)) (fun _ h9 => h9) rfl dX2_readRange_46 ?_
        refine lv_if_lt (tgt := 56) hx hb dX2_readRange_49 (by decide) (fun hc => ?_) (fun hc => ?_)
        · have h0 := it_t h0 hc
          refine lv_iconst (v := (0 : Int32)) hx hb dX2_readRange_56 (by decide) ?_
          obtain ⟨e1, e2⟩ := Prod.mk.inj (Option.some.inj h0)
          exact x_retI hC hr hlocks rfl hP hD hS dX2_readRange_57 ⟨e1, by rw [← e2]⟩
        · have h0 := it_f h0 hc
          refine lv_iconst (v := (1 : Int32)) hx hb dX2_readRange_52 (by decide) ?_
          refine lv_goto (tgt := 57) hx hb dX2_readRange_53 (by decide) ?_
          obtain ⟨e1, e2⟩ := Prod.mk.inj (Option.some.inj h0)
          exact x_retI hC hr hlocks rfl hP hD hS dX2_readRange_57 ⟨e1, by rw [← e2]⟩
      · have h0 := it_t h0 hc
        refine lv_iconst (v := (0 : Int32)) hx hb dX2_readRange_35 (by decide) ?_
        obtain ⟨e1, e2⟩ := Prod.mk.inj (Option.some.inj h0)
        exact x_retI hC hr hlocks rfl hP hD hS dX2_readRange_36 ⟨e1, by rw [← e2]⟩
  · have h0 := it_t h0 hc
    refine lv_iconst (v := (0 : Int32)) hx hb dX2_readRange_9 (by decide) ?_
    obtain ⟨e1, e2⟩ := Prod.mk.inj (Option.some.inj h0)
    exact x_retI hC hr hlocks rfl hP hD hS dX2_readRange_10 ⟨e1, by rw [← e2]⟩
def bX2_type_8 (σ : St) (x3 : Int32) (y2 : Int64) (x1 : Int32) : Option ((Int32 × Int64 × Int32) ⊕ ((Int32 × Int64 × Int32) ⊕ (Int32 × St))) := if (8 : Int32) ≤ x1 then (some (.inr (.inl (x3, y2, x1)))) else (if ((lg_cmp y2 (0 : Int64)) : Int32) = (0 : Int32) then (some (.inr (.inl (x3, y2, x1)))) else (nm (y2 &&& (255 : Int64)) fun v4 => if ((lg_cmp v4 (33 : Int64)) : Int32) < (0 : Int32) then (some (.inr (.inr ((-2 : Int32), σ)))) else (if ((lg_cmp v4 (126 : Int64)) : Int32) ≤ (0 : Int32) then (nm (((y2 : Int64).toUInt64 >>> (((8 : Int32) : Int32).toInt64.toUInt64 &&& Int64.toUInt64 63)).toInt64) fun v5 => nm (x3 + (1 : Int32)) fun v6 => nm (x1 + (1 : Int32)) fun v7 => some (.inl (v6, v5, v7))) else (some (.inr (.inr ((-2 : Int32), σ)))))))
def bX2_type_101  (y13 : Int64) (x12 : Int32) (s14 : St) : Option ((Int64 × Int32 × St) ⊕ (Int64 × Int32 × St)) := if (x12 : Int32) < (s14 1 0) then (some (.inr (y13, x12, s14))) else (ax x12 80 (nm (put s14 0 (upd (s14 0) (x12 : Int32).toNatClampNeg (vp_nar .char ((((y13 &&& (255 : Int64) : Int64).toInt32 : Int32).toUInt32 % 65536).toInt32)))) fun s15 => nm (((y13 : Int64).toUInt64 >>> (((8 : Int32) : Int32).toInt64.toUInt64 &&& Int64.toUInt64 63)).toInt64) fun v16 => nm (x12 + (-1 : Int32)) fun v17 => some (.inl (v16, v17, s15))))
def fX2_type (a1 : Int64) (σ : St) : Option (Int32 × St) := bnd (lp (fun t : (Int32 × Int64 × Int32) => bX2_type_8 σ t.1 t.2.1 t.2.2) FU ((0 : Int32), a1, (0 : Int32))) (fun e0 : ((Int32 × Int64 × Int32) ⊕ (Int32 × St)) => el e0 (fun e : (Int32 × Int64 × Int32) => nm e.1 fun x8 => nm e.2.1 fun y9 => nm e.2.2 fun x10 => if (x8 : Int32) = (0 : Int32) then (some ((-2 : Int32), σ)) else (if (((σ 1 0) + x8) : Int32) ≤ (80 : Int32) then (nm (((σ 1 0) + x8) - (1 : Int32)) fun v11 => bnd (lp (fun t : (Int64 × Int32 × St) => bX2_type_101  t.1 t.2.1 t.2.2) FU (a1, v11, σ)) (fun e : (Int64 × Int32 × St) => nm e.1 fun y18 => nm e.2.1 fun x19 => nm e.2.2 fun s20 => nm (put s20 1 (fun _ => (s20 1 0) + x8)) fun s21 => some (s21 1 0, s21))) else (some ((-4 : Int32), σ)))) (fun r : (Int32 × St) => some r))
abbrev rmX2_type : Room := { frames := 0, cells := 0, slots := 0, locals := 0 }
set_option maxHeartbeats 4000000 in
set_option maxRecDepth 100000 in
theorem kX2_type (l : Launch) (dC : Nat → ClassId) (dI : Nat → Nat → Nat) (cA : Nat → ClassId) (h : Nat) (ad : Nat → Nat) (a1 : Int64) (σ : St) (R0 : Int32) (σ' : St) (h0 : fX2_type a1 σ = some (R0, σ')) : CI l yX2_type wsX2_type rmX2_type (dC, dI) vwCl (tysW cA) [.ref h, .long a1] (wP cA h ad σ) R0 (wP cA h ad σ') := by
  refine CGI_of (cc := cX2_type) (nL := 9) (ret := (some .int)) (by decide) rfl (Nat.le_of_ble_eq_true rfl) ?_
  intro p e s m av below meth c A ls H locs hC hl
  obtain ⟨hC, hr, hlocks, hV, hN, hK, hP, hD, hS, hA⟩ := hC
  have hC : CallFix p m c cX2_type 9 s _ wsX2_type RX2 := hC
  obtain ⟨hx, hb, hml, hown, hts⟩ := id hC
  have hin0 : ∀ w ∈ u_ws RX2 TX2 8, w ∈ wsX2_type := fun _ h => (List.mem_cons_of_mem _ (List.mem_append_right _ h))
  have hl : lv_has ls 9 [(0, .ref h), (1, .long a1)] := hl
  unfold fX2_type at h0
  refine lv_iconst (v := (0 : Int32)) hx hb dX2_type_0 (by decide) ?_
  refine lv_istore_n (lv' := [(3, .int (0 : Int32)), (0, .ref h), (1, .long a1)]) hx hb dX2_type_1 rfl hl (by decide) rfl (fun ls hl => ?_)
  refine lv_lload_n hx hb dX2_type_2 rfl (lv_at hl 2 rfl) ?_
  refine lv_lstore (lv' := [(4, .long a1), (3, .int (0 : Int32)), (0, .ref h), (1, .long a1)]) hx hb dX2_type_3 hl (by decide) rfl (fun ls hl => ?_)
  refine lv_iconst (v := (0 : Int32)) hx hb dX2_type_5 (by decide) ?_
  refine lv_istore (lv' := [(6, .int (0 : Int32)), (4, .long a1), (3, .int (0 : Int32)), (0, .ref h), (1, .long a1)]) hx hb dX2_type_6 hl (by decide) rfl (fun ls hl => ?_)
  obtain ⟨ε1, hl1, h0⟩ := bnd_some h0
  have KN1 : ∀ (x8 : Int32) (y9 : Int64) (x10 : Int32), ε1 = .inl (x8, y9, x10) → ∀ (H : Heap) (locs : List Loc), va_P (dC, dI) vwCl (wP cA h ad σ) H → va_D A (wP cA h ad σ) → va_S A s.heap H locs → ∀ (ls : Array Slot), lv_has ls 9 [(6, .int x10), (4, .long y9), (3, .int x8), (0, .ref h), (1, .long a1)] → W p l e (headSpec wsX2_type rmX2_type).room s m av below meth c H locs 0 0 (MQ below (qI (dC, dI) A R0 (wP cA h ad σ')) av s 0 0 A) (F0 m 67 ls []) := by
    intro x8 y9 x10 hε H locs hP hD hS ls hl
    rw [hε] at h0
    have h0 := el_l h0
    have h0 := nm_at (z := x8) rfl h0
    have h0 := nm_at (z := y9) rfl h0
    have h0 := nm_at (z := x10) rfl h0
    refine lv_iload_n hx hb dX2_type_67 rfl (lv_at hl 2 rfl) ?_
    refine lv_if_ne (tgt := 74) hx hb dX2_type_68 (by decide) (fun hc => ?_) (fun hc => ?_)
    · have h0 := it_f h0 hc
      refine lv_aload_n hx hb dX2_type_74 rfl (lv_at hl 3 rfl) ?_
      refine va_get (D := (dC, dI)) (ci := 2) (v := .int (σ 1 0)) (C := RX2) (T := TX2) (N := 8) hx hb hts hin0 hown hK hP 0 rfl rfl 1 (by decide) (hts (.fieldLink RX2 21 "MeanLocks$Pad" "length" "I") (List.mem_of_getElem? (i := 4) rfl)) (fun _ h9 => h9) rfl dX2_type_75 ?_
      refine lv_iload_n hx hb dX2_type_78 rfl (lv_at hl 2 rfl) ?_
      refine lv_iadd hx hb dX2_type_79 ?_
      refine lv_bipush (v := (80 : Int32)) hx hb dX2_type_80 (by decide) ?_
      refine lv_icmp_le (tgt := 88) hx hb dX2_type_82 (by decide) (fun hc => ?_) (fun hc => ?_)
      · have h0 := it_t h0 hc
        refine lv_lload_n hx hb dX2_type_88 rfl (lv_at hl 4 rfl) ?_
        refine lv_lstore (lv' := [(4, .long a1), (6, .int x10), (3, .int x8), (0, .ref h), (1, .long a1)]) hx hb dX2_type_89 hl (by decide) rfl (fun ls hl => ?_)
        refine lv_aload_n hx hb dX2_type_91 rfl (lv_at hl 3 rfl) ?_
        refine va_get (D := (dC, dI)) (ci := 2) (v := .int (σ 1 0)) (C := RX2) (T := TX2) (N := 8) hx hb hts hin0 hown hK hP 0 rfl rfl 1 (by decide) (hts (.fieldLink RX2 21 "MeanLocks$Pad" "length" "I") (List.mem_of_getElem? (i := 4) rfl)) (fun _ h9 => h9) rfl dX2_type_92 ?_
        refine lv_iload_n hx hb dX2_type_95 rfl (lv_at hl 2 rfl) ?_
        refine lv_iadd hx hb dX2_type_96 ?_
        refine lv_iconst (v := (1 : Int32)) hx hb dX2_type_97 (by decide) ?_
        refine lv_isub hx hb dX2_type_98 ?_
        refine lv_topi (fun v11 ev11 => ?_)
        have h0 := nm_at ev11 h0
        refine lv_istore (lv' := [(6, .int v11), (4, .long a1), (3, .int x8), (0, .ref h), (1, .long a1)]) hx hb dX2_type_99 hl (by decide) rfl (fun ls hl => ?_)
        obtain ⟨ε2, hl2, h0⟩ := bnd_some h0
        have KN2 : ∀ (y18 : Int64) (x19 : Int32) (s20 : St), ε2 = (y18, x19, s20) → ∀ (H : Heap) (locs : List Loc), va_P (dC, dI) vwCl (wP cA h ad s20) H → va_D A (wP cA h ad s20) → va_S A s.heap H locs → ∀ (ls : Array Slot), lv_has ls 9 [(6, .int x19), (4, .long y18), (3, .int x8), (0, .ref h), (1, .long a1)] → W p l e (headSpec wsX2_type rmX2_type).room s m av below meth c H locs 0 0 (MQ below (qI (dC, dI) A R0 (wP cA h ad σ')) av s 0 0 A) (F0 m 138 ls []) := by
          intro y18 x19 s20 hε H locs hP hD hS ls hl
          rw [hε] at h0
          have h0 := nm_at (z := y18) rfl h0
          have h0 := nm_at (z := x19) rfl h0
          have h0 := nm_at (z := s20) rfl h0
          refine lv_aload_n hx hb dX2_type_138 rfl (lv_at hl 3 rfl) ?_
          refine lv_dup hx hb dX2_type_139 rfl ?_
          refine va_get (D := (dC, dI)) (ci := 2) (v := .int (s20 1 0)) (C := RX2) (T := TX2) (N := 8) hx hb hts hin0 hown hK hP 0 rfl rfl 1 (by decide) (hts (.fieldLink RX2 21 "MeanLocks$Pad" "length" "I") (List.mem_of_getElem? (i := 4) rfl)) (fun _ h9 => h9) rfl dX2_type_140 ?_
          refine lv_iload_n hx hb dX2_type_143 rfl (lv_at hl 2 rfl) ?_
          refine lv_iadd hx hb dX2_type_144 ?_
          obtain ⟨s21, es21, h0⟩ := nm_some h0
          refine x_put (D := (dC, dI)) (ws' := wP cA h ad s21) (ci := 2) (fs := [.ref (ad 0), .int (s20 1 0), .int (s20 2 0), .int (s20 3 0), .int (s20 4 0), .int (s20 5 0), .int (s20 6 0), .int (s20 7 0)]) (v := .int ((s20 1 0) + x8)) (ty := .int) (C := RX2) (T := TX2) (N := 8) hC hin0 tyX2 tyX2_ok nmX2 hK hP hD hS 0 rfl rfl 1 (by decide) (hts (.fieldLink RX2 21 "MeanLocks$Pad" "length" "I") (List.mem_of_getElem? (i := 4) rfl)) rfl rfl rfl rfl (by decide +kernel) (Nat.le_of_ble_eq_true rfl) (by rw [es21]; exact wP_s1 _ _ _ _ _) dX2_type_145 (fun H locs hP hD hS => ?_)
          refine lv_aload_n hx hb dX2_type_148 rfl (lv_at hl 3 rfl) ?_
          refine va_get (D := (dC, dI)) (ci := 2) (v := .int (s21 1 0)) (C := RX2) (T := TX2) (N := 8) hx hb hts hin0 hown hK hP 0 rfl rfl 1 (by decide) (hts (.fieldLink RX2 21 "MeanLocks$Pad" "length" "I") (List.mem_of_getElem? (i := 4) rfl)) (fun _ h9 => h9) rfl dX2_type_149 ?_
          obtain ⟨e1, e2⟩ := Prod.mk.inj (Option.some.inj h0)
          exact x_retI hC hr hlocks rfl hP hD hS dX2_type_152 ⟨e1, by rw [← e2]⟩
        have LP2 : ∀ (n : Nat) (y13 : Int64) (x12 : Int32) (s14 : St), lp (fun t : (Int64 × Int32 × St) => bX2_type_101  t.1 t.2.1 t.2.2) n (y13, x12, s14) = some ε2 → ∀ (H : Heap) (locs : List Loc), va_P (dC, dI) vwCl (wP cA h ad s14) H → va_D A (wP cA h ad s14) → va_S A s.heap H locs → ∀ (ls : Array Slot), lv_has ls 9 [(6, .int x12), (4, .long y13), (3, .int x8), (0, .ref h), (1, .long a1)] → W p l e (headSpec wsX2_type rmX2_type).room s m av below meth c H locs 0 0 (MQ below (qI (dC, dI) A R0 (wP cA h ad σ')) av s 0 0 A) (F0 m 101 ls []) := by
          intro n
          induction n with
          | zero => intro y13 x12 s14 hl0; exact (lp_0 hl0).elim
          | succ n ih2 =>
            intro y13 x12 s14 hl0 H locs hP hD hS ls hl
            obtain ⟨z2, h1, hz2⟩ := lp_s hl0
            have h1 : bX2_type_101  y13 x12 s14 = some z2 := h1
            unfold bX2_type_101 at h1
            refine lv_iload hx hb dX2_type_101 (lv_at hl 0 rfl) ?_
            refine lv_aload_n hx hb dX2_type_103 rfl (lv_at hl 3 rfl) ?_
            refine va_get (D := (dC, dI)) (ci := 2) (v := .int (s14 1 0)) (C := RX2) (T := TX2) (N := 8) hx hb hts hin0 hown hK hP 0 rfl rfl 1 (by decide) (hts (.fieldLink RX2 21 "MeanLocks$Pad" "length" "I") (List.mem_of_getElem? (i := 4) rfl)) (fun _ h9 => h9) rfl dX2_type_104 ?_
            refine lv_icmp_lt (tgt := 138) hx hb dX2_type_107 (by decide) (fun hc => ?_) (fun hc => ?_)
            · have h1 := it_t h1 hc
              have he := lp_r h1 hz2
              exact KN2 y13 x12 s14 he _ _ hP hD hS ls (lv_sub hl [0, 1, 2, 3, 4] rfl)
            · have h1 := it_f h1 hc
              refine lv_aload_n hx hb dX2_type_110 rfl (lv_at hl 3 rfl) ?_
              refine va_get (D := (dC, dI)) (ci := 2) (v := .ref (ad 0)) (C := RX2) (T := TX2) (N := 8) hx hb hts hin0 hown hK hP 0 rfl rfl 0 (by decide) (hts (.fieldLink RX2 9 "MeanLocks$Pad" "text" "[C") (List.mem_of_getElem? (i := 5) rfl)) (fun _ h9 => h9) rfl dX2_type_111 ?_
              refine lv_iload hx hb dX2_type_114 (lv_at hl 0 rfl) ?_
              refine lv_lload hx hb dX2_type_116 (lv_at hl 1 rfl) ?_
              refine lv_ldc2 (v := (255 : Int64)) hx hb hown (hts (.constantLong RX2 15 (255)) (List.mem_of_getElem? (i := 1) rfl)) dX2_type_118 ?_
              refine lv_land hx hb dX2_type_121 ?_
              refine lv_l2i hx hb dX2_type_122 rfl ?_
              refine lv_i2c hx hb dX2_type_123 rfl ?_
              obtain ⟨hi, h1⟩ := ax_some h1
              obtain ⟨s15, es15, h1⟩ := nm_some h1
              refine x_cast (ws' := wP cA h ad s15) hC hK hP hD hS 1 1 rfl rfl (by rw [es15]; exact wP_s0 _ _ _ _ _) hi dX2_type_124 (fun H locs hP hD hS => ?_)
              refine lv_lload hx hb dX2_type_125 (lv_at hl 1 rfl) ?_
              refine lv_bipush (v := (8 : Int32)) hx hb dX2_type_127 (by decide) ?_
              refine lv_lushr hx hb dX2_type_129 rfl ?_
              refine lv_topl (fun v16 ev16 => ?_)
              have h1 := nm_at ev16 h1
              refine lv_lstore (lv' := [(4, .long v16), (6, .int x12), (3, .int x8), (0, .ref h), (1, .long a1)]) hx hb dX2_type_130 hl (by decide) rfl (fun ls hl => ?_)
              obtain ⟨v17, ev17, h1⟩ := nm_some h1
              refine lv_iinc (v := v17) (lv' := [(6, .int v17), (4, .long v16), (3, .int x8), (0, .ref h), (1, .long a1)]) hx hb dX2_type_132 hl (k := 1) rfl (by rw [ev17]; rfl) (by decide) rfl (fun ls hl => ?_)
              refine lv_goto (tgt := 101) hx hb dX2_type_135 (by decide) ?_
              have hc := lp_l h1 hz2
              exact ih2 v16 v17 s15 hc _ _ hP hD hS ls (lv_sub hl [0, 1, 2, 3, 4] rfl)
        exact LP2 FU a1 v11 σ hl2 _ _ hP hD hS ls hl
      · have h0 := it_f h0 hc
        refine lv_bipush (v := (-4 : Int32)) hx hb dX2_type_85 (by decide) ?_
        obtain ⟨e1, e2⟩ := Prod.mk.inj (Option.some.inj h0)
        exact x_retI hC hr hlocks rfl hP hD hS dX2_type_87 ⟨e1, by rw [← e2]⟩
    · have h0 := it_t h0 hc
      refine lv_bipush (v := (-2 : Int32)) hx hb dX2_type_71 (by decide) ?_
      obtain ⟨e1, e2⟩ := Prod.mk.inj (Option.some.inj h0)
      exact x_retI hC hr hlocks rfl hP hD hS dX2_type_73 ⟨e1, by rw [← e2]⟩
  have LP1 : ∀ (n : Nat) (x3 : Int32) (y2 : Int64) (x1 : Int32), lp (fun t : (Int32 × Int64 × Int32) => bX2_type_8 σ t.1 t.2.1 t.2.2) n (x3, y2, x1) = some ε1 → ∀ (H : Heap) (locs : List Loc), va_P (dC, dI) vwCl (wP cA h ad σ) H → va_D A (wP cA h ad σ) → va_S A s.heap H locs → ∀ (ls : Array Slot), lv_has ls 9 [(6, .int x1), (4, .long y2), (3, .int x3), (0, .ref h), (1, .long a1)] → W p l e (headSpec wsX2_type rmX2_type).room s m av below meth c H locs 0 0 (MQ below (qI (dC, dI) A R0 (wP cA h ad σ')) av s 0 0 A) (F0 m 8 ls []) := by
    intro n
    induction n with
    | zero => intro x3 y2 x1 hl0; exact (lp_0 hl0).elim
    | succ n ih1 =>
      intro x3 y2 x1 hl0 H locs hP hD hS ls hl
      obtain ⟨z1, h1, hz1⟩ := lp_s hl0
      have h1 : bX2_type_8 σ x3 y2 x1 = some z1 := h1
      unfold bX2_type_8 at h1
      refine lv_iload hx hb dX2_type_8 (lv_at hl 0 rfl) ?_
      refine lv_bipush (v := (8 : Int32)) hx hb dX2_type_10 (by decide) ?_
      refine lv_icmp_ge (tgt := 67) hx hb dX2_type_12 (by decide) (fun hc => ?_) (fun hc => ?_)
      · have h1 := it_t h1 hc
        have he := lp_r h1 hz1
        exact KN1 x3 y2 x1 he _ _ hP hD hS ls (lv_sub hl [0, 1, 2, 3, 4] rfl)
      · have h1 := it_f h1 hc
        refine lv_lload hx hb dX2_type_15 (lv_at hl 1 rfl) ?_
        refine lv_lconst (v := 0) hx hb dX2_type_17 (by decide) ?_
        refine W.lcmp hx hb dX2_type_18 ?_
        refine lv_if_eq (tgt := 67) hx hb dX2_type_19 (by decide) (fun hc => ?_) (fun hc => ?_)
        · have h1 := it_t h1 hc
          have he := lp_r h1 hz1
          exact KN1 x3 y2 x1 he _ _ hP hD hS ls (lv_sub hl [0, 1, 2, 3, 4] rfl)
        · have h1 := it_f h1 hc
          refine lv_lload hx hb dX2_type_22 (lv_at hl 1 rfl) ?_
          refine lv_ldc2 (v := (255 : Int64)) hx hb hown (hts (.constantLong RX2 15 (255)) (List.mem_of_getElem? (i := 1) rfl)) dX2_type_24 ?_
          refine lv_land hx hb dX2_type_27 ?_
          refine lv_topl (fun v4 ev4 => ?_)
          have h1 := nm_at ev4 h1
          refine lv_lstore (lv' := [(7, .long v4), (6, .int x1), (4, .long y2), (3, .int x3), (0, .ref h), (1, .long a1)]) hx hb dX2_type_28 hl (by decide) rfl (fun ls hl => ?_)
          refine lv_lload hx hb dX2_type_30 (lv_at hl 0 rfl) ?_
          refine lv_ldc2 (v := (33 : Int64)) hx hb hown (hts (.constantLong RX2 17 (33)) (List.mem_of_getElem? (i := 2) rfl)) dX2_type_32 ?_
          refine W.lcmp hx hb dX2_type_35 ?_
          refine lv_if_lt (tgt := 48) hx hb dX2_type_36 (by decide) (fun hc => ?_) (fun hc => ?_)
          · have h1 := it_t h1 hc
            refine lv_bipush (v := (-2 : Int32)) hx hb dX2_type_48 (by decide) ?_
            have he := lp_r h1 hz1
            rw [he] at h0
            have h0 := el_r h0
            obtain ⟨e1, e2⟩ := Prod.mk.inj (Option.some.inj h0)
            exact x_retI hC hr hlocks rfl hP hD hS dX2_type_50 ⟨e1, by rw [← e2]⟩
          · have h1 := it_f h1 hc
            refine lv_lload hx hb dX2_type_39 (lv_at hl 0 rfl) ?_
            refine lv_ldc2 (v := (126 : Int64)) hx hb hown (hts (.constantLong RX2 19 (126)) (List.mem_of_getElem? (i := 3) rfl)) dX2_type_41 ?_
            refine W.lcmp hx hb dX2_type_44 ?_
            refine lv_if_le (tgt := 51) hx hb dX2_type_45 (by decide) (fun hc => ?_) (fun hc => ?_)
            · have h1 := it_t h1 hc
              refine lv_lload hx hb dX2_type_51 (lv_at hl 2 rfl) ?_
              refine lv_bipush (v := (8 : Int32)) hx hb dX2_type_53 (by decide) ?_
              refine lv_lushr hx hb dX2_type_55 rfl ?_
              refine lv_topl (fun v5 ev5 => ?_)
              have h1 := nm_at ev5 h1
              refine lv_lstore (lv' := [(4, .long v5), (7, .long v4), (6, .int x1), (3, .int x3), (0, .ref h), (1, .long a1)]) hx hb dX2_type_56 hl (by decide) rfl (fun ls hl => ?_)
              obtain ⟨v6, ev6, h1⟩ := nm_some h1
              refine lv_iinc (v := v6) (lv' := [(3, .int v6), (4, .long v5), (7, .long v4), (6, .int x1), (0, .ref h), (1, .long a1)]) hx hb dX2_type_58 hl (k := 3) rfl (by rw [ev6]; rfl) (by decide) rfl (fun ls hl => ?_)
              obtain ⟨v7, ev7, h1⟩ := nm_some h1
              refine lv_iinc (v := v7) (lv' := [(6, .int v7), (3, .int v6), (4, .long v5), (7, .long v4), (0, .ref h), (1, .long a1)]) hx hb dX2_type_61 hl (k := 3) rfl (by rw [ev7]; rfl) (by decide) rfl (fun ls hl => ?_)
              refine lv_goto (tgt := 8) hx hb dX2_type_64 (by decide) ?_
              have hc := lp_l h1 hz1
              exact ih1 v6 v5 v7 hc _ _ hP hD hS ls (lv_sub hl [0, 2, 1, 4, 5] rfl)
            · have h1 := it_f h1 hc
              refine lv_bipush (v := (-2 : Int32)) hx hb dX2_type_48 (by decide) ?_
              have he := lp_r h1 hz1
              rw [he] at h0
              have h0 := el_r h0
              obtain ⟨e1, e2⟩ := Prod.mk.inj (Option.some.inj h0)
              exact x_retI hC hr hlocks rfl hP hD hS dX2_type_50 ⟨e1, by rw [← e2]⟩
  exact LP1 FU (0 : Int32) a1 (0 : Int32) hl1 _ _ hP hD hS ls hl
