def bX1_giveUp_10 (a1 : Int32) (a2 : Int32) (x2 : Int32) (s3 : St) : Option ((Int32 × St) ⊕ (Int32 × St)) := if (300 : Int32) ≤ x2 then (some (.inr (x2, s3))) else (bnd (fX1_isInDispute a1 x2 a2 s3) fun r4 => if (r4 : Int32) = (0 : Int32) then (nm (x2 + (1 : Int32)) fun v5 => some (.inl (v5, s3))) else (bnd (fX1_lock a1 x2 (0 : Int32) s3) fun s7 => ax a1 8 (ax a1 8 (nm (put s7 11 (upd (s7 11) (a1 : Int32).toNatClampNeg ((s7 11 (a1 : Int32).toNatClampNeg) + (1 : Int32)))) fun s8 => nm (x2 + (1 : Int32)) fun v9 => some (.inl (v9, s8))))))
def fX1_giveUp (a1 : Int32) (a2 : Int32) (σ : St) : Option St := bnd (fX3_isOwner a1) fun r1 => if (r1 : Int32) = (0 : Int32) then (some σ) else (bnd (lp (fun t : (Int32 × St) => bX1_giveUp_10 a1 a2 t.1 t.2) FU ((0 : Int32), σ)) (fun e : (Int32 × St) => nm e.1 fun x10 => nm e.2 fun s11 => nm (put s11 14 (fun _ => (s11 14 0) + (1 : Int32))) fun s12 => some s12))
abbrev rmX1_giveUp : Room := { frames := 2, cells := 0, slots := 0, locals := 49 }
set_option maxHeartbeats 4000000 in
set_option maxRecDepth 100000 in
theorem kX1_giveUp (l : Launch) (dC : Nat → ClassId) (dI : Nat → Nat → Nat) (cA : Nat → ClassId) (h : Nat) (ad : Nat → Nat) (a1 : Int32) (a2 : Int32) (σ : St) (σ' : St) (h0 : fX1_giveUp a1 a2 σ = some σ') : CV l yX1_giveUp wsX1_giveUp rmX1_giveUp (dC, dI) vwCl (tysW cA) [.ref h, .int a1, .int a2] (wL cA h ad σ) (wL cA h ad σ') := by
  refine CGV_of (cc := cX1_giveUp) (nL := 4) (ret := none) (by decide) rfl (Nat.le_of_ble_eq_true rfl) ?_
  intro p e s m av below meth c A ls H locs hC hl
  obtain ⟨hC, hr, hlocks, hV, hN, hK, hP, hD, hS, hA⟩ := hC
  have hC : CallFix p m c cX1_giveUp 4 s _ wsX1_giveUp RX1 := hC
  obtain ⟨hx, hb, hml, hown, hts⟩ := id hC
  have hin0 : ∀ w ∈ u_ws RX1 TX1 16, w ∈ wsX1_giveUp := fun _ h => (List.mem_cons_of_mem _ (List.mem_append_right _ h))
  have hl : lv_has ls 4 [(0, .ref h), (1, .int a1), (2, .int a2)] := hl
  unfold fX1_giveUp at h0
  refine lv_iload_n hx hb dX1_giveUp_0 rfl (lv_at hl 1 rfl) ?_
  obtain ⟨r1, hf1, h0⟩ := bnd_some h0
  refine x_SNI (As := [.int a1]) (rest := []) hC (kX3_isOwner l dC dI cA a1 r1 hf1) ⟨va_cnB 1 hts gX1_giveUp_X3_isOwner_n69 rfl rfl rfl (hN _ (List.mem_of_getElem? (i := 5) rfl)) (hts (.initialized RX3) (List.mem_of_getElem? (i := 4) rfl)) ⟨by decide +kernel, by decide +kernel, by decide +kernel⟩ ⟨Nat.le_of_ble_eq_true rfl, Nat.le_of_ble_eq_true rfl⟩, (hts (.static yX3_isOwner) (List.mem_of_getElem? (i := 3) rfl)), trivial⟩ hV hN hK hP hD hS hA rfl hl.1 rfl (Nat.le_of_ble_eq_true rfl) ⟨Nat.zero_le _, Nat.zero_le _⟩ dX1_giveUp_1 (fun H locs hP hD hS => ?_)
  refine lv_if_ne (tgt := 8) hx hb dX1_giveUp_4 (by decide) (fun hc => ?_) (fun hc => ?_)
  · have h0 := it_f h0 hc
    refine lv_iconst (v := (0 : Int32)) hx hb dX1_giveUp_8 (by decide) ?_
    refine lv_istore_n (lv' := [(3, .int (0 : Int32)), (0, .ref h), (1, .int a1), (2, .int a2)]) hx hb dX1_giveUp_9 rfl hl (by decide) rfl (fun ls hl => ?_)
    obtain ⟨ε2, hl2, h0⟩ := bnd_some h0
    have KN2 : ∀ (x10 : Int32) (s11 : St), ε2 = (x10, s11) → ∀ (H : Heap) (locs : List Loc), va_P (dC, dI) vwCl (wL cA h ad s11) H → va_D A (wL cA h ad s11) → va_S A s.heap H locs → ∀ (ls : Array Slot), lv_has ls 4 [(3, .int x10), (0, .ref h), (1, .int a1), (2, .int a2)] → W p l e (headSpec wsX1_giveUp rmX1_giveUp).room s m av below meth c H locs 0 0 (MQ below (qV (dC, dI) A (wL cA h ad σ')) av s 0 0 A) (F0 m 50 ls []) := by
      intro x10 s11 hε H locs hP hD hS ls hl
      rw [hε] at h0
      have h0 := nm_at (z := x10) rfl h0
      have h0 := nm_at (z := s11) rfl h0
      refine lv_aload_n hx hb dX1_giveUp_50 rfl (lv_at hl 1 rfl) ?_
      refine lv_dup hx hb dX1_giveUp_51 rfl ?_
      refine va_get (D := (dC, dI)) (ci := 1) (v := .int (s11 14 0)) (C := RX1) (T := TX1) (N := 16) hx hb hts hin0 hown hK hP 0 rfl rfl 14 (by decide) (hts (.fieldLink RX1 60 "MeanLocks$Locks" "breaks" "I") (List.mem_of_getElem? (i := 2) rfl)) (fun _ h9 => h9) rfl dX1_giveUp_52 ?_
      refine lv_iconst (v := (1 : Int32)) hx hb dX1_giveUp_55 (by decide) ?_
      refine lv_iadd hx hb dX1_giveUp_56 ?_
      obtain ⟨s12, es12, h0⟩ := nm_some h0
      refine x_put (D := (dC, dI)) (ws' := wL cA h ad s12) (ci := 1) (fs := [.ref (ad 0), .int (s11 1 0), .ref (ad 2), .ref (ad 3), .int (s11 4 0), .ref (ad 5), .ref (ad 6), .ref (ad 7), .ref (ad 8), .ref (ad 9), .ref (ad 10), .ref (ad 11), .ref (ad 12), .int (s11 13 0), .int (s11 14 0), .ref (ad 15)]) (v := .int ((s11 14 0) + (1 : Int32))) (ty := .int) (C := RX1) (T := TX1) (N := 16) hC hin0 tyX1 tyX1_ok nmX1 hK hP hD hS 0 rfl rfl 14 (by decide) (hts (.fieldLink RX1 60 "MeanLocks$Locks" "breaks" "I") (List.mem_of_getElem? (i := 2) rfl)) rfl rfl rfl rfl (by decide +kernel) (Nat.le_of_ble_eq_true rfl) (by rw [es12]; exact wL_s14 _ _ _ _ _) dX1_giveUp_57 (fun H locs hP hD hS => ?_)
      have e1 := Option.some.inj h0
      exact x_retV hC hr hlocks hP hD hS dX1_giveUp_60 (by rw [← e1])
    have LP2 : ∀ (n : Nat) (x2 : Int32) (s3 : St), lp (fun t : (Int32 × St) => bX1_giveUp_10 a1 a2 t.1 t.2) n (x2, s3) = some ε2 → ∀ (H : Heap) (locs : List Loc), va_P (dC, dI) vwCl (wL cA h ad s3) H → va_D A (wL cA h ad s3) → va_S A s.heap H locs → ∀ (ls : Array Slot), lv_has ls 4 [(3, .int x2), (0, .ref h), (1, .int a1), (2, .int a2)] → W p l e (headSpec wsX1_giveUp rmX1_giveUp).room s m av below meth c H locs 0 0 (MQ below (qV (dC, dI) A (wL cA h ad σ')) av s 0 0 A) (F0 m 10 ls []) := by
      intro n
      induction n with
      | zero => intro x2 s3 hl0; exact (lp_0 hl0).elim
      | succ n ih2 =>
        intro x2 s3 hl0 H locs hP hD hS ls hl
        obtain ⟨z2, h1, hz2⟩ := lp_s hl0
        have h1 : bX1_giveUp_10 a1 a2 x2 s3 = some z2 := h1
        unfold bX1_giveUp_10 at h1
        refine lv_iload_n hx hb dX1_giveUp_10 rfl (lv_at hl 0 rfl) ?_
        refine lv_sipush (v := (300 : Int32)) hx hb dX1_giveUp_11 (by decide) ?_
        refine lv_icmp_ge (tgt := 50) hx hb dX1_giveUp_14 (by decide) (fun hc => ?_) (fun hc => ?_)
        · have h1 := it_t h1 hc
          have he := lp_r h1 hz2
          exact KN2 x2 s3 he _ _ hP hD hS ls (lv_sub hl [0, 1, 2, 3] rfl)
        · have h1 := it_f h1 hc
          refine lv_aload_n hx hb dX1_giveUp_17 rfl (lv_at hl 1 rfl) ?_
          refine lv_iload_n hx hb dX1_giveUp_18 rfl (lv_at hl 2 rfl) ?_
          refine lv_iload_n hx hb dX1_giveUp_19 rfl (lv_at hl 0 rfl) ?_
          refine lv_iload_n hx hb dX1_giveUp_20 rfl (lv_at hl 3 rfl) ?_
          obtain ⟨r4, hf3, h1⟩ := bnd_some h1
          refine x_VI (As := [.int a1, .int x2, .int a2]) (rest := []) hC (kX1_isInDispute l dC dI cA h ad a1 x2 a2 s3 r4  hf3) (cwV 3 hts gX1_giveUp_X1_isInDispute rfl rfl rfl (by decide +kernel) ⟨Nat.le_of_ble_eq_true rfl, Nat.le_of_ble_eq_true rfl⟩) 0 1 hV hN hK hP hD hS hA rfl rfl rfl rfl hl.1 rfl (Nat.le_of_ble_eq_true rfl) ⟨Nat.zero_le _, Nat.zero_le _⟩ dX1_giveUp_21 (fun H locs hP hD hS => ?_)
          refine lv_if_eq (tgt := 44) hx hb dX1_giveUp_24 (by decide) (fun hc => ?_) (fun hc => ?_)
          · have h1 := it_t h1 hc
            obtain ⟨v5, ev5, h1⟩ := nm_some h1
            refine lv_iinc (v := v5) (lv' := [(3, .int v5), (0, .ref h), (1, .int a1), (2, .int a2)]) hx hb dX1_giveUp_44 hl (k := 0) rfl (by rw [ev5]; rfl) (by decide) rfl (fun ls hl => ?_)
            refine lv_goto (tgt := 10) hx hb dX1_giveUp_47 (by decide) ?_
            have hc := lp_l h1 hz2
            exact ih2 v5 s3 hc _ _ hP hD hS ls (lv_sub hl [0, 1, 2, 3] rfl)
          · have h1 := it_f h1 hc
            refine lv_aload_n hx hb dX1_giveUp_27 rfl (lv_at hl 1 rfl) ?_
            refine lv_iload_n hx hb dX1_giveUp_28 rfl (lv_at hl 2 rfl) ?_
            refine lv_iload_n hx hb dX1_giveUp_29 rfl (lv_at hl 0 rfl) ?_
            refine lv_iconst (v := (0 : Int32)) hx hb dX1_giveUp_30 (by decide) ?_
            obtain ⟨s7, hf4, h1⟩ := bnd_some h1
            refine x_VV (As := [.int a1, .int x2, .int (0 : Int32)]) (rest := []) hC (kX1_lock l dC dI cA h ad a1 x2 (0 : Int32) s3 s7 hf4) (cwV 3 hts gX1_giveUp_X1_lock rfl rfl rfl (by decide +kernel) ⟨Nat.le_of_ble_eq_true rfl, Nat.le_of_ble_eq_true rfl⟩) 0 1 hV hN hK hP hD hS hA rfl rfl rfl rfl hl.1 rfl (Nat.le_of_ble_eq_true rfl) ⟨Nat.zero_le _, Nat.zero_le _⟩ dX1_giveUp_31 (fun H locs hP hD hS => ?_)
            refine lv_aload_n hx hb dX1_giveUp_34 rfl (lv_at hl 1 rfl) ?_
            refine va_get (D := (dC, dI)) (ci := 1) (v := .ref (ad 11)) (C := RX1) (T := TX1) (N := 16) hx hb hts hin0 hown hK hP 0 rfl rfl 11 (by decide) (hts (.fieldLink RX1 41 "MeanLocks$Locks" "givenUp" "[I") (List.mem_of_getElem? (i := 1) rfl)) (fun _ h9 => h9) rfl dX1_giveUp_35 ?_
            refine lv_iload_n hx hb dX1_giveUp_38 rfl (lv_at hl 2 rfl) ?_
            refine lv_dup2_11 hx hb dX1_giveUp_39 rfl rfl ?_
            obtain ⟨hi, h1⟩ := ax_some h1
            refine va_iald hx hb hK hP 10 0 rfl rfl hi dX1_giveUp_40 ?_
            refine lv_iconst (v := (1 : Int32)) hx hb dX1_giveUp_41 (by decide) ?_
            refine lv_iadd hx hb dX1_giveUp_42 ?_
            obtain ⟨hi, h1⟩ := ax_some h1
            obtain ⟨s8, es8, h1⟩ := nm_some h1
            refine x_iast (ws' := wL cA h ad s8) hC hK hP hD hS 10 0 rfl rfl (by rw [es8]; exact wL_s11 _ _ _ _ _) hi dX1_giveUp_43 (fun H locs hP hD hS => ?_)
            obtain ⟨v9, ev9, h1⟩ := nm_some h1
            refine lv_iinc (v := v9) (lv' := [(3, .int v9), (0, .ref h), (1, .int a1), (2, .int a2)]) hx hb dX1_giveUp_44 hl (k := 0) rfl (by rw [ev9]; rfl) (by decide) rfl (fun ls hl => ?_)
            refine lv_goto (tgt := 10) hx hb dX1_giveUp_47 (by decide) ?_
            have hc := lp_l h1 hz2
            exact ih2 v9 s8 hc _ _ hP hD hS ls (lv_sub hl [0, 1, 2, 3] rfl)
    exact LP2 FU (0 : Int32) σ hl2 _ _ hP hD hS ls hl
  · have h0 := it_t h0 hc
    have e1 := Option.some.inj h0
    exact x_retV hC hr hlocks hP hD hS dX1_giveUp_7 (by rw [← e1])
def bX1_ask_142 (a1 : Int32) (x11 : Int32) (x10 : Int32) (s12 : St) : Option ((Int32 × Int32 × St) ⊕ (Int32 × Int32 × St)) := if (4800 : Int32) ≤ x10 then (some (.inr (x11, x10, s12))) else (if (x11 : Int32) = (0 : Int32) then (some (.inr (x11, x10, s12))) else (bnd (fX1_leastHarmed x11 s12) fun r13 => bnd (fX1_giveUp r13 x11 s12) fun s15 => bn2 (fX1_goThroughRow  s15) fun r16 s17 => bn2 (fX1_ringOf a1 s17) fun r18 s19 => nm (x10 + (1 : Int32)) fun v20 => some (.inl (r18, v20, s19))))
def bX1_ask_142_2 (a1 : Int32) (x26 : Int32) (x25 : Int32) (s27 : St) : Option ((Int32 × Int32 × St) ⊕ (Int32 × Int32 × St)) := if (4800 : Int32) ≤ x25 then (some (.inr (x26, x25, s27))) else (if (x26 : Int32) = (0 : Int32) then (some (.inr (x26, x25, s27))) else (bnd (fX1_leastHarmed x26 s27) fun r28 => bnd (fX1_giveUp r28 x26 s27) fun s30 => bn2 (fX1_goThroughRow  s30) fun r31 s32 => bn2 (fX1_ringOf a1 s32) fun r33 s34 => nm (x25 + (1 : Int32)) fun v35 => some (.inl (r33, v35, s34))))
def fX1_ask (a1 : Int32) (a2 : Int32) (a3 : Int32) (a4 : Int32) (a5 : Int32) (σ : St) : Option (Int32 × St) := bnd (fX3_isOwner a1) fun r1 => if (r1 : Int32) = (0 : Int32) then (some ((-1 : Int32), σ)) else (bnd (fX3_isLock a2) fun r2 => if (r2 : Int32) = (0 : Int32) then (some ((-2 : Int32), σ)) else (bnd (fX3_isRange a3 a4) fun r3 => if (r3 : Int32) = (0 : Int32) then (some ((-2 : Int32), σ)) else (if (a5 : Int32) < (0 : Int32) then (some ((-2 : Int32), σ)) else (if (a5 : Int32) ≤ (1 : Int32) then (ax a1 8 (if ((σ 5 (a1 : Int32).toNatClampNeg) : Int32) = (0 : Int32) then (bnd (fX1_inWay a1 a2 a3 a4 (σ 4 0) σ) fun r4 => if (r4 : Int32) = (0 : Int32) then (bnd (fX1_give a1 a2 a3 a4 σ) fun s42 => bn2 (fX1_goThroughRow  s42) fun r43 s44 => some ((1 : Int32), s44)) else (if (a5 : Int32) = (0 : Int32) then (some ((-5 : Int32), σ)) else (bnd (fX1_join a1 a2 a3 a4 σ) fun s6 => bn2 (fX1_ringOf a1 s6) fun r7 s8 => if (r7 : Int32) = (0 : Int32) then (ax a1 8 (ax a1 8 (nm (put s8 10 (upd (s8 10) (a1 : Int32).toNatClampNeg ((s8 10 (a1 : Int32).toNatClampNeg) + (1 : Int32)))) fun s9 => bnd (lp (fun t : (Int32 × Int32 × St) => bX1_ask_142 a1 t.1 t.2.1 t.2.2) FU (r7, (0 : Int32), s9)) (fun e : (Int32 × Int32 × St) => nm e.1 fun x21 => nm e.2.1 fun x22 => nm e.2.2 fun s23 => ax a1 8 (if ((s23 5 (a1 : Int32).toNatClampNeg) : Int32) = (0 : Int32) then (some ((1 : Int32), s23)) else (some ((0 : Int32), s23))))))) else (ax (1 : Int32) 3 (if ((s8 0 ((1 : Int32) : Int32).toNatClampNeg) : Int32) = (0 : Int32) then (bnd (fX1_quitRow a1 s8) fun s40 => some ((-5 : Int32), s40)) else (ax a1 8 (ax a1 8 (nm (put s8 10 (upd (s8 10) (a1 : Int32).toNatClampNeg ((s8 10 (a1 : Int32).toNatClampNeg) + (1 : Int32)))) fun s24 => bnd (lp (fun t : (Int32 × Int32 × St) => bX1_ask_142_2 a1 t.1 t.2.1 t.2.2) FU (r7, (0 : Int32), s24)) (fun e : (Int32 × Int32 × St) => nm e.1 fun x36 => nm e.2.1 fun x37 => nm e.2.2 fun s38 => ax a1 8 (if ((s38 5 (a1 : Int32).toNatClampNeg) : Int32) = (0 : Int32) then (some ((1 : Int32), s38)) else (some ((0 : Int32), s38)))))))))))) else (some ((-5 : Int32), σ)))) else (some ((-2 : Int32), σ))))))
abbrev rmX1_ask : Room := { frames := 4, cells := 0, slots := 0, locals := 106 }
set_option maxHeartbeats 4000000 in
set_option maxRecDepth 100000 in
theorem kX1_ask (l : Launch) (dC : Nat → ClassId) (dI : Nat → Nat → Nat) (cA : Nat → ClassId) (h : Nat) (ad : Nat → Nat) (a1 : Int32) (a2 : Int32) (a3 : Int32) (a4 : Int32) (a5 : Int32) (σ : St) (R0 : Int32) (σ' : St) (h0 : fX1_ask a1 a2 a3 a4 a5 σ = some (R0, σ')) : CI l yX1_ask wsX1_ask rmX1_ask (dC, dI) vwCl (tysW cA) [.ref h, .int a1, .int a2, .int a3, .int a4, .int a5] (wL cA h ad σ) R0 (wL cA h ad σ') := by
  refine CGI_of (cc := cX1_ask) (nL := 8) (ret := (some .int)) (by decide) rfl (Nat.le_of_ble_eq_true rfl) ?_
  intro p e s m av below meth c A ls H locs hC hl
  obtain ⟨hC, hr, hlocks, hV, hN, hK, hP, hD, hS, hA⟩ := hC
  have hC : CallFix p m c cX1_ask 8 s _ wsX1_ask RX1 := hC
  obtain ⟨hx, hb, hml, hown, hts⟩ := id hC
  have hin0 : ∀ w ∈ u_ws RX1 TX1 16, w ∈ wsX1_ask := fun _ h => (List.mem_cons_of_mem _ (List.mem_append_right _ h))
  have hl : lv_has ls 8 [(0, .ref h), (1, .int a1), (2, .int a2), (3, .int a3), (4, .int a4), (5, .int a5)] := hl
  unfold fX1_ask at h0
  refine lv_iload_n hx hb dX1_ask_0 rfl (lv_at hl 1 rfl) ?_
  obtain ⟨r1, hf1, h0⟩ := bnd_some h0
  refine x_SNI (As := [.int a1]) (rest := []) hC (kX3_isOwner l dC dI cA a1 r1 hf1) ⟨va_cnB 1 hts gX1_ask_X3_isOwner_n69 rfl rfl rfl (hN _ (List.mem_of_getElem? (i := 5) rfl)) (hts (.initialized RX3) (List.mem_of_getElem? (i := 6) rfl)) ⟨by decide +kernel, by decide +kernel, by decide +kernel⟩ ⟨Nat.le_of_ble_eq_true rfl, Nat.le_of_ble_eq_true rfl⟩, (hts (.static yX3_isOwner) (List.mem_of_getElem? (i := 5) rfl)), trivial⟩ hV hN hK hP hD hS hA rfl hl.1 rfl (Nat.le_of_ble_eq_true rfl) ⟨Nat.zero_le _, Nat.zero_le _⟩ dX1_ask_1 (fun H locs hP hD hS => ?_)
  refine lv_if_ne (tgt := 9) hx hb dX1_ask_4 (by decide) (fun hc => ?_) (fun hc => ?_)
  · have h0 := it_f h0 hc
    refine lv_iload_n hx hb dX1_ask_9 rfl (lv_at hl 2 rfl) ?_
    obtain ⟨r2, hf2, h0⟩ := bnd_some h0
    refine x_SNI (As := [.int a2]) (rest := []) hC (kX3_isLock l dC dI cA a2 r2 hf2) ⟨va_cnB 1 hts gX1_ask_X3_isLock_n73 rfl rfl rfl (hN _ (List.mem_of_getElem? (i := 6) rfl)) (hts (.initialized RX3) (List.mem_of_getElem? (i := 6) rfl)) ⟨by decide +kernel, by decide +kernel, by decide +kernel⟩ ⟨Nat.le_of_ble_eq_true rfl, Nat.le_of_ble_eq_true rfl⟩, (hts (.static yX3_isLock) (List.mem_of_getElem? (i := 8) rfl)), trivial⟩ hV hN hK hP hD hS hA rfl hl.1 rfl (Nat.le_of_ble_eq_true rfl) ⟨Nat.zero_le _, Nat.zero_le _⟩ dX1_ask_10 (fun H locs hP hD hS => ?_)
    refine lv_if_eq (tgt := 36) hx hb dX1_ask_13 (by decide) (fun hc => ?_) (fun hc => ?_)
    · have h0 := it_t h0 hc
      refine lv_bipush (v := (-2 : Int32)) hx hb dX1_ask_36 (by decide) ?_
      obtain ⟨e1, e2⟩ := Prod.mk.inj (Option.some.inj h0)
      exact x_retI hC hr hlocks rfl hP hD hS dX1_ask_38 ⟨e1, by rw [← e2]⟩
    · have h0 := it_f h0 hc
      refine lv_iload_n hx hb dX1_ask_16 rfl (lv_at hl 3 rfl) ?_
      refine lv_iload hx hb dX1_ask_17 (lv_at hl 4 rfl) ?_
      obtain ⟨r3, hf3, h0⟩ := bnd_some h0
      refine x_SNI (As := [.int a3, .int a4]) (rest := []) hC (kX3_isRange l dC dI cA a3 a4 r3 hf3) ⟨va_cnB 2 hts gX1_ask_X3_isRange_n76 rfl rfl rfl (hN _ (List.mem_of_getElem? (i := 7) rfl)) (hts (.initialized RX3) (List.mem_of_getElem? (i := 6) rfl)) ⟨by decide +kernel, by decide +kernel, by decide +kernel⟩ ⟨Nat.le_of_ble_eq_true rfl, Nat.le_of_ble_eq_true rfl⟩, (hts (.static yX3_isRange) (List.mem_of_getElem? (i := 10) rfl)), trivial⟩ hV hN hK hP hD hS hA rfl hl.1 rfl (Nat.le_of_ble_eq_true rfl) ⟨Nat.zero_le _, Nat.zero_le _⟩ dX1_ask_19 (fun H locs hP hD hS => ?_)
      refine lv_if_eq (tgt := 36) hx hb dX1_ask_22 (by decide) (fun hc => ?_) (fun hc => ?_)
      · have h0 := it_t h0 hc
        refine lv_bipush (v := (-2 : Int32)) hx hb dX1_ask_36 (by decide) ?_
        obtain ⟨e1, e2⟩ := Prod.mk.inj (Option.some.inj h0)
        exact x_retI hC hr hlocks rfl hP hD hS dX1_ask_38 ⟨e1, by rw [← e2]⟩
      · have h0 := it_f h0 hc
        refine lv_iload hx hb dX1_ask_25 (lv_at hl 5 rfl) ?_
        refine lv_if_lt (tgt := 36) hx hb dX1_ask_27 (by decide) (fun hc => ?_) (fun hc => ?_)
        · have h0 := it_t h0 hc
          refine lv_bipush (v := (-2 : Int32)) hx hb dX1_ask_36 (by decide) ?_
          obtain ⟨e1, e2⟩ := Prod.mk.inj (Option.some.inj h0)
          exact x_retI hC hr hlocks rfl hP hD hS dX1_ask_38 ⟨e1, by rw [← e2]⟩
        · have h0 := it_f h0 hc
          refine lv_iload hx hb dX1_ask_30 (lv_at hl 5 rfl) ?_
          refine lv_iconst (v := (1 : Int32)) hx hb dX1_ask_32 (by decide) ?_
          refine lv_icmp_le (tgt := 39) hx hb dX1_ask_33 (by decide) (fun hc => ?_) (fun hc => ?_)
          · have h0 := it_t h0 hc
            refine lv_aload_n hx hb dX1_ask_39 rfl (lv_at hl 0 rfl) ?_
            refine va_get (D := (dC, dI)) (ci := 1) (v := .ref (ad 5)) (C := RX1) (T := TX1) (N := 16) hx hb hts hin0 hown hK hP 0 rfl rfl 5 (by decide) (hts (.fieldLink RX1 23 "MeanLocks$Locks" "wanted" "[I") (List.mem_of_getElem? (i := 1) rfl)) (fun _ h9 => h9) rfl dX1_ask_40 ?_
            refine lv_iload_n hx hb dX1_ask_43 rfl (lv_at hl 1 rfl) ?_
            obtain ⟨hi, h0⟩ := ax_some h0
            refine va_iald hx hb hK hP 4 0 rfl rfl hi dX1_ask_44 ?_
            refine lv_if_eq (tgt := 51) hx hb dX1_ask_45 (by decide) (fun hc => ?_) (fun hc => ?_)
            · have h0 := it_t h0 hc
              refine lv_aload_n hx hb dX1_ask_51 rfl (lv_at hl 0 rfl) ?_
              refine lv_iload_n hx hb dX1_ask_52 rfl (lv_at hl 1 rfl) ?_
              refine lv_iload_n hx hb dX1_ask_53 rfl (lv_at hl 2 rfl) ?_
              refine lv_iload_n hx hb dX1_ask_54 rfl (lv_at hl 3 rfl) ?_
              refine lv_iload hx hb dX1_ask_55 (lv_at hl 4 rfl) ?_
              refine lv_aload_n hx hb dX1_ask_57 rfl (lv_at hl 0 rfl) ?_
              refine va_get (D := (dC, dI)) (ci := 1) (v := .int (σ 4 0)) (C := RX1) (T := TX1) (N := 16) hx hb hts hin0 hown hK hP 0 rfl rfl 4 (by decide) (hts (.fieldLink RX1 54 "MeanLocks$Locks" "waiting" "I") (List.mem_of_getElem? (i := 2) rfl)) (fun _ h9 => h9) rfl dX1_ask_58 ?_
              obtain ⟨r4, hf4, h0⟩ := bnd_some h0
              refine x_VI (As := [.int a1, .int a2, .int a3, .int a4, .int (σ 4 0)]) (rest := []) hC (kX1_inWay l dC dI cA h ad a1 a2 a3 a4 (σ 4 0) σ r4  hf4) (cwV 5 hts gX1_ask_X1_inWay rfl rfl rfl (by decide +kernel) ⟨Nat.le_of_ble_eq_true rfl, Nat.le_of_ble_eq_true rfl⟩) 0 1 hV hN hK hP hD hS hA rfl rfl rfl rfl hl.1 rfl (Nat.le_of_ble_eq_true rfl) ⟨Nat.zero_le _, Nat.zero_le _⟩ dX1_ask_61 (fun H locs hP hD hS => ?_)
              refine lv_if_ne (tgt := 83) hx hb dX1_ask_64 (by decide) (fun hc => ?_) (fun hc => ?_)
              · have h0 := it_f h0 hc
                refine lv_iload hx hb dX1_ask_83 (lv_at hl 5 rfl) ?_
                refine lv_if_ne (tgt := 91) hx hb dX1_ask_85 (by decide) (fun hc => ?_) (fun hc => ?_)
                · have h0 := it_f h0 hc
                  refine lv_aload_n hx hb dX1_ask_91 rfl (lv_at hl 0 rfl) ?_
                  refine lv_iload_n hx hb dX1_ask_92 rfl (lv_at hl 1 rfl) ?_
                  refine lv_iload_n hx hb dX1_ask_93 rfl (lv_at hl 2 rfl) ?_
                  refine lv_iload_n hx hb dX1_ask_94 rfl (lv_at hl 3 rfl) ?_
                  refine lv_iload hx hb dX1_ask_95 (lv_at hl 4 rfl) ?_
                  obtain ⟨s6, hf5, h0⟩ := bnd_some h0
                  refine x_VV (As := [.int a1, .int a2, .int a3, .int a4]) (rest := []) hC (kX1_join l dC dI cA h ad a1 a2 a3 a4 σ s6 hf5) (cwV 4 hts gX1_ask_X1_join rfl rfl rfl (by decide +kernel) ⟨Nat.le_of_ble_eq_true rfl, Nat.le_of_ble_eq_true rfl⟩) 0 1 hV hN hK hP hD hS hA rfl rfl rfl rfl hl.1 rfl (Nat.le_of_ble_eq_true rfl) ⟨Nat.zero_le _, Nat.zero_le _⟩ dX1_ask_97 (fun H locs hP hD hS => ?_)
                  refine lv_aload_n hx hb dX1_ask_100 rfl (lv_at hl 0 rfl) ?_
                  refine lv_iload_n hx hb dX1_ask_101 rfl (lv_at hl 1 rfl) ?_
                  obtain ⟨r7, s8, hf6, h0⟩ := bn2_some h0
                  refine x_VI (As := [.int a1]) (rest := []) hC (kX1_ringOf l dC dI cA h ad a1 s6 r7 s8 hf6) (cwV 1 hts gX1_ask_X1_ringOf rfl rfl rfl (by decide +kernel) ⟨Nat.le_of_ble_eq_true rfl, Nat.le_of_ble_eq_true rfl⟩) 0 1 hV hN hK hP hD hS hA rfl rfl rfl rfl hl.1 rfl (Nat.le_of_ble_eq_true rfl) ⟨Nat.zero_le _, Nat.zero_le _⟩ dX1_ask_102 (fun H locs hP hD hS => ?_)
                  refine lv_istore (lv' := [(6, .int r7), (0, .ref h), (1, .int a1), (2, .int a2), (3, .int a3), (4, .int a4), (5, .int a5)]) hx hb dX1_ask_105 hl (by decide) rfl (fun ls hl => ?_)
                  refine lv_iload hx hb dX1_ask_107 (lv_at hl 0 rfl) ?_
                  refine lv_if_eq (tgt := 129) hx hb dX1_ask_109 (by decide) (fun hc => ?_) (fun hc => ?_)
                  · have h0 := it_t h0 hc
                    refine lv_aload_n hx hb dX1_ask_129 rfl (lv_at hl 1 rfl) ?_
                    refine va_get (D := (dC, dI)) (ci := 1) (v := .ref (ad 10)) (C := RX1) (T := TX1) (N := 16) hx hb hts hin0 hown hK hP 0 rfl rfl 10 (by decide) (hts (.fieldLink RX1 38 "MeanLocks$Locks" "begun" "[I") (List.mem_of_getElem? (i := 4) rfl)) (fun _ h9 => h9) rfl dX1_ask_130 ?_
                    refine lv_iload_n hx hb dX1_ask_133 rfl (lv_at hl 2 rfl) ?_
                    refine lv_dup2_11 hx hb dX1_ask_134 rfl rfl ?_
                    obtain ⟨hi, h0⟩ := ax_some h0
                    refine va_iald hx hb hK hP 9 0 rfl rfl hi dX1_ask_135 ?_
                    refine lv_iconst (v := (1 : Int32)) hx hb dX1_ask_136 (by decide) ?_
                    refine lv_iadd hx hb dX1_ask_137 ?_
                    obtain ⟨hi, h0⟩ := ax_some h0
                    obtain ⟨s9, es9, h0⟩ := nm_some h0
                    refine x_iast (ws' := wL cA h ad s9) hC hK hP hD hS 9 0 rfl rfl (by rw [es9]; exact wL_s10 _ _ _ _ _) hi dX1_ask_138 (fun H locs hP hD hS => ?_)
                    refine lv_iconst (v := (0 : Int32)) hx hb dX1_ask_139 (by decide) ?_
                    refine lv_istore (lv' := [(7, .int (0 : Int32)), (6, .int r7), (0, .ref h), (1, .int a1), (2, .int a2), (3, .int a3), (4, .int a4), (5, .int a5)]) hx hb dX1_ask_140 hl (by decide) rfl (fun ls hl => ?_)
                    obtain ⟨ε7, hl7, h0⟩ := bnd_some h0
                    have KN7 : ∀ (x21 : Int32) (x22 : Int32) (s23 : St), ε7 = (x21, x22, s23) → ∀ (H : Heap) (locs : List Loc), va_P (dC, dI) vwCl (wL cA h ad s23) H → va_D A (wL cA h ad s23) → va_S A s.heap H locs → ∀ (ls : Array Slot), lv_has ls 8 [(7, .int x22), (6, .int x21), (0, .ref h), (1, .int a1), (2, .int a2), (3, .int a3), (4, .int a4), (5, .int a5)] → W p l e (headSpec wsX1_ask rmX1_ask).room s m av below meth c H locs 0 0 (MQ below (qI (dC, dI) A R0 (wL cA h ad σ')) av s 0 0 A) (F0 m 185 ls []) := by
                      intro x21 x22 s23 hε H locs hP hD hS ls hl
                      rw [hε] at h0
                      have h0 := nm_at (z := x21) rfl h0
                      have h0 := nm_at (z := x22) rfl h0
                      have h0 := nm_at (z := s23) rfl h0
                      refine lv_aload_n hx hb dX1_ask_185 rfl (lv_at hl 2 rfl) ?_
                      refine va_get (D := (dC, dI)) (ci := 1) (v := .ref (ad 5)) (C := RX1) (T := TX1) (N := 16) hx hb hts hin0 hown hK hP 0 rfl rfl 5 (by decide) (hts (.fieldLink RX1 23 "MeanLocks$Locks" "wanted" "[I") (List.mem_of_getElem? (i := 1) rfl)) (fun _ h9 => h9) rfl dX1_ask_186 ?_
                      refine lv_iload_n hx hb dX1_ask_189 rfl (lv_at hl 3 rfl) ?_
                      obtain ⟨hi, h0⟩ := ax_some h0
                      refine va_iald hx hb hK hP 4 0 rfl rfl hi dX1_ask_190 ?_
                      refine lv_if_ne (tgt := 198) hx hb dX1_ask_191 (by decide) (fun hc => ?_) (fun hc => ?_)
                      · have h0 := it_f h0 hc
                        refine lv_iconst (v := (0 : Int32)) hx hb dX1_ask_198 (by decide) ?_
                        obtain ⟨e1, e2⟩ := Prod.mk.inj (Option.some.inj h0)
                        exact x_retI hC hr hlocks rfl hP hD hS dX1_ask_199 ⟨e1, by rw [← e2]⟩
                      · have h0 := it_t h0 hc
                        refine lv_iconst (v := (1 : Int32)) hx hb dX1_ask_194 (by decide) ?_
                        refine lv_goto (tgt := 199) hx hb dX1_ask_195 (by decide) ?_
                        obtain ⟨e1, e2⟩ := Prod.mk.inj (Option.some.inj h0)
                        exact x_retI hC hr hlocks rfl hP hD hS dX1_ask_199 ⟨e1, by rw [← e2]⟩
                    have LP7 : ∀ (n : Nat) (x11 : Int32) (x10 : Int32) (s12 : St), lp (fun t : (Int32 × Int32 × St) => bX1_ask_142 a1 t.1 t.2.1 t.2.2) n (x11, x10, s12) = some ε7 → ∀ (H : Heap) (locs : List Loc), va_P (dC, dI) vwCl (wL cA h ad s12) H → va_D A (wL cA h ad s12) → va_S A s.heap H locs → ∀ (ls : Array Slot), lv_has ls 8 [(7, .int x10), (6, .int x11), (0, .ref h), (1, .int a1), (2, .int a2), (3, .int a3), (4, .int a4), (5, .int a5)] → W p l e (headSpec wsX1_ask rmX1_ask).room s m av below meth c H locs 0 0 (MQ below (qI (dC, dI) A R0 (wL cA h ad σ')) av s 0 0 A) (F0 m 142 ls []) := by
                      intro n
                      induction n with
                      | zero => intro x11 x10 s12 hl0; exact (lp_0 hl0).elim
                      | succ n ih7 =>
                        intro x11 x10 s12 hl0 H locs hP hD hS ls hl
                        obtain ⟨z7, h1, hz7⟩ := lp_s hl0
                        have h1 : bX1_ask_142 a1 x11 x10 s12 = some z7 := h1
                        unfold bX1_ask_142 at h1
                        refine lv_iload hx hb dX1_ask_142 (lv_at hl 0 rfl) ?_
                        refine lv_sipush (v := (4800 : Int32)) hx hb dX1_ask_144 (by decide) ?_
                        refine lv_icmp_ge (tgt := 185) hx hb dX1_ask_147 (by decide) (fun hc => ?_) (fun hc => ?_)
                        · have h1 := it_t h1 hc
                          have he := lp_r h1 hz7
                          exact KN7 x11 x10 s12 he _ _ hP hD hS ls (lv_sub hl [0, 1, 2, 3, 4, 5, 6, 7] rfl)
                        · have h1 := it_f h1 hc
                          refine lv_iload hx hb dX1_ask_150 (lv_at hl 1 rfl) ?_
                          refine lv_if_eq (tgt := 185) hx hb dX1_ask_152 (by decide) (fun hc => ?_) (fun hc => ?_)
                          · have h1 := it_t h1 hc
                            have he := lp_r h1 hz7
                            exact KN7 x11 x10 s12 he _ _ hP hD hS ls (lv_sub hl [0, 1, 2, 3, 4, 5, 6, 7] rfl)
                          · have h1 := it_f h1 hc
                            refine lv_aload_n hx hb dX1_ask_155 rfl (lv_at hl 2 rfl) ?_
                            refine lv_aload_n hx hb dX1_ask_156 rfl (lv_at hl 2 rfl) ?_
                            refine lv_iload hx hb dX1_ask_157 (lv_at hl 1 rfl) ?_
                            obtain ⟨r13, hf8, h1⟩ := bnd_some h1
                            refine x_VI (As := [.int x11]) (rest := [.ref h]) hC (kX1_leastHarmed l dC dI cA h ad x11 s12 r13  hf8) (cwV 1 hts gX1_ask_X1_leastHarmed rfl rfl rfl (by decide +kernel) ⟨Nat.le_of_ble_eq_true rfl, Nat.le_of_ble_eq_true rfl⟩) 0 1 hV hN hK hP hD hS hA rfl rfl rfl rfl hl.1 rfl (Nat.le_of_ble_eq_true rfl) ⟨Nat.zero_le _, Nat.zero_le _⟩ dX1_ask_159 (fun H locs hP hD hS => ?_)
                            refine lv_iload hx hb dX1_ask_162 (lv_at hl 1 rfl) ?_
                            obtain ⟨s15, hf9, h1⟩ := bnd_some h1
                            refine x_VV (As := [.int r13, .int x11]) (rest := []) hC (kX1_giveUp l dC dI cA h ad r13 x11 s12 s15 hf9) (cwV 2 hts gX1_ask_X1_giveUp rfl rfl rfl (by decide +kernel) ⟨Nat.le_of_ble_eq_true rfl, Nat.le_of_ble_eq_true rfl⟩) 0 1 hV hN hK hP hD hS hA rfl rfl rfl rfl hl.1 rfl (Nat.le_of_ble_eq_true rfl) ⟨Nat.zero_le _, Nat.zero_le _⟩ dX1_ask_164 (fun H locs hP hD hS => ?_)
                            refine lv_aload_n hx hb dX1_ask_167 rfl (lv_at hl 2 rfl) ?_
                            obtain ⟨r16, s17, hf10, h1⟩ := bn2_some h1
                            refine x_VI (As := []) (rest := []) hC (kX1_goThroughRow l dC dI cA h ad s15 r16 s17 hf10) (cwV 0 hts gX1_ask_X1_goThroughRow rfl rfl rfl (by decide +kernel) ⟨Nat.le_of_ble_eq_true rfl, Nat.le_of_ble_eq_true rfl⟩) 0 1 hV hN hK hP hD hS hA rfl rfl rfl rfl hl.1 rfl (Nat.le_of_ble_eq_true rfl) ⟨Nat.zero_le _, Nat.zero_le _⟩ dX1_ask_168 (fun H locs hP hD hS => ?_)
                            refine lv_pop hx hb dX1_ask_171 rfl ?_
                            refine lv_aload_n hx hb dX1_ask_172 rfl (lv_at hl 2 rfl) ?_
                            refine lv_iload_n hx hb dX1_ask_173 rfl (lv_at hl 3 rfl) ?_
                            obtain ⟨r18, s19, hf11, h1⟩ := bn2_some h1
                            refine x_VI (As := [.int a1]) (rest := []) hC (kX1_ringOf l dC dI cA h ad a1 s17 r18 s19 hf11) (cwV 1 hts gX1_ask_X1_ringOf rfl rfl rfl (by decide +kernel) ⟨Nat.le_of_ble_eq_true rfl, Nat.le_of_ble_eq_true rfl⟩) 0 1 hV hN hK hP hD hS hA rfl rfl rfl rfl hl.1 rfl (Nat.le_of_ble_eq_true rfl) ⟨Nat.zero_le _, Nat.zero_le _⟩ dX1_ask_174 (fun H locs hP hD hS => ?_)
                            refine lv_istore (lv' := [(6, .int r18), (7, .int x10), (0, .ref h), (1, .int a1), (2, .int a2), (3, .int a3), (4, .int a4), (5, .int a5)]) hx hb dX1_ask_177 hl (by decide) rfl (fun ls hl => ?_)
                            obtain ⟨v20, ev20, h1⟩ := nm_some h1
                            refine lv_iinc (v := v20) (lv' := [(7, .int v20), (6, .int r18), (0, .ref h), (1, .int a1), (2, .int a2), (3, .int a3), (4, .int a4), (5, .int a5)]) hx hb dX1_ask_179 hl (k := 1) rfl (by rw [ev20]; rfl) (by decide) rfl (fun ls hl => ?_)
                            refine lv_goto (tgt := 142) hx hb dX1_ask_182 (by decide) ?_
                            have hc := lp_l h1 hz7
                            exact ih7 r18 v20 s19 hc _ _ hP hD hS ls (lv_sub hl [0, 1, 2, 3, 4, 5, 6, 7] rfl)
                    exact LP7 FU r7 (0 : Int32) s9 hl7 _ _ hP hD hS ls hl
                  · have h0 := it_f h0 hc
                    refine lv_aload_n hx hb dX1_ask_112 rfl (lv_at hl 1 rfl) ?_
                    refine va_get (D := (dC, dI)) (ci := 1) (v := .ref (ad 0)) (C := RX1) (T := TX1) (N := 16) hx hb hts hin0 hown hK hP 0 rfl rfl 0 (by decide) (hts (.fieldLink RX1 9 "MeanLocks$Locks" "settings" "[I") (List.mem_of_getElem? (i := 3) rfl)) (fun _ h9 => h9) rfl dX1_ask_113 ?_
                    refine lv_iconst (v := (1 : Int32)) hx hb dX1_ask_116 (by decide) ?_
                    obtain ⟨hi, h0⟩ := ax_some h0
                    refine va_iald hx hb hK hP 1 0 rfl rfl hi dX1_ask_117 ?_
                    refine lv_if_ne (tgt := 129) hx hb dX1_ask_118 (by decide) (fun hc => ?_) (fun hc => ?_)
                    · have h0 := it_f h0 hc
                      refine lv_aload_n hx hb dX1_ask_129 rfl (lv_at hl 1 rfl) ?_
                      refine va_get (D := (dC, dI)) (ci := 1) (v := .ref (ad 10)) (C := RX1) (T := TX1) (N := 16) hx hb hts hin0 hown hK hP 0 rfl rfl 10 (by decide) (hts (.fieldLink RX1 38 "MeanLocks$Locks" "begun" "[I") (List.mem_of_getElem? (i := 4) rfl)) (fun _ h9 => h9) rfl dX1_ask_130 ?_
                      refine lv_iload_n hx hb dX1_ask_133 rfl (lv_at hl 2 rfl) ?_
                      refine lv_dup2_11 hx hb dX1_ask_134 rfl rfl ?_
                      obtain ⟨hi, h0⟩ := ax_some h0
                      refine va_iald hx hb hK hP 9 0 rfl rfl hi dX1_ask_135 ?_
                      refine lv_iconst (v := (1 : Int32)) hx hb dX1_ask_136 (by decide) ?_
                      refine lv_iadd hx hb dX1_ask_137 ?_
                      obtain ⟨hi, h0⟩ := ax_some h0
                      obtain ⟨s24, es24, h0⟩ := nm_some h0
                      refine x_iast (ws' := wL cA h ad s24) hC hK hP hD hS 9 0 rfl rfl (by rw [es24]; exact wL_s10 _ _ _ _ _) hi dX1_ask_138 (fun H locs hP hD hS => ?_)
                      refine lv_iconst (v := (0 : Int32)) hx hb dX1_ask_139 (by decide) ?_
                      refine lv_istore (lv' := [(7, .int (0 : Int32)), (6, .int r7), (0, .ref h), (1, .int a1), (2, .int a2), (3, .int a3), (4, .int a4), (5, .int a5)]) hx hb dX1_ask_140 hl (by decide) rfl (fun ls hl => ?_)
                      obtain ⟨ε12, hl12, h0⟩ := bnd_some h0
                      have KN12 : ∀ (x36 : Int32) (x37 : Int32) (s38 : St), ε12 = (x36, x37, s38) → ∀ (H : Heap) (locs : List Loc), va_P (dC, dI) vwCl (wL cA h ad s38) H → va_D A (wL cA h ad s38) → va_S A s.heap H locs → ∀ (ls : Array Slot), lv_has ls 8 [(7, .int x37), (6, .int x36), (0, .ref h), (1, .int a1), (2, .int a2), (3, .int a3), (4, .int a4), (5, .int a5)] → W p l e (headSpec wsX1_ask rmX1_ask).room s m av below meth c H locs 0 0 (MQ below (qI (dC, dI) A R0 (wL cA h ad σ')) av s 0 0 A) (F0 m 185 ls []) := by
                        intro x36 x37 s38 hε H locs hP hD hS ls hl
                        rw [hε] at h0
                        have h0 := nm_at (z := x36) rfl h0
                        have h0 := nm_at (z := x37) rfl h0
                        have h0 := nm_at (z := s38) rfl h0
                        refine lv_aload_n hx hb dX1_ask_185 rfl (lv_at hl 2 rfl) ?_
                        refine va_get (D := (dC, dI)) (ci := 1) (v := .ref (ad 5)) (C := RX1) (T := TX1) (N := 16) hx hb hts hin0 hown hK hP 0 rfl rfl 5 (by decide) (hts (.fieldLink RX1 23 "MeanLocks$Locks" "wanted" "[I") (List.mem_of_getElem? (i := 1) rfl)) (fun _ h9 => h9) rfl dX1_ask_186 ?_
                        refine lv_iload_n hx hb dX1_ask_189 rfl (lv_at hl 3 rfl) ?_
                        obtain ⟨hi, h0⟩ := ax_some h0
                        refine va_iald hx hb hK hP 4 0 rfl rfl hi dX1_ask_190 ?_
                        refine lv_if_ne (tgt := 198) hx hb dX1_ask_191 (by decide) (fun hc => ?_) (fun hc => ?_)
                        · have h0 := it_f h0 hc
                          refine lv_iconst (v := (0 : Int32)) hx hb dX1_ask_198 (by decide) ?_
                          obtain ⟨e1, e2⟩ := Prod.mk.inj (Option.some.inj h0)
                          exact x_retI hC hr hlocks rfl hP hD hS dX1_ask_199 ⟨e1, by rw [← e2]⟩
                        · have h0 := it_t h0 hc
                          refine lv_iconst (v := (1 : Int32)) hx hb dX1_ask_194 (by decide) ?_
                          refine lv_goto (tgt := 199) hx hb dX1_ask_195 (by decide) ?_
                          obtain ⟨e1, e2⟩ := Prod.mk.inj (Option.some.inj h0)
                          exact x_retI hC hr hlocks rfl hP hD hS dX1_ask_199 ⟨e1, by rw [← e2]⟩
                      have LP12 : ∀ (n : Nat) (x26 : Int32) (x25 : Int32) (s27 : St), lp (fun t : (Int32 × Int32 × St) => bX1_ask_142_2 a1 t.1 t.2.1 t.2.2) n (x26, x25, s27) = some ε12 → ∀ (H : Heap) (locs : List Loc), va_P (dC, dI) vwCl (wL cA h ad s27) H → va_D A (wL cA h ad s27) → va_S A s.heap H locs → ∀ (ls : Array Slot), lv_has ls 8 [(7, .int x25), (6, .int x26), (0, .ref h), (1, .int a1), (2, .int a2), (3, .int a3), (4, .int a4), (5, .int a5)] → W p l e (headSpec wsX1_ask rmX1_ask).room s m av below meth c H locs 0 0 (MQ below (qI (dC, dI) A R0 (wL cA h ad σ')) av s 0 0 A) (F0 m 142 ls []) := by
                        intro n
                        induction n with
                        | zero => intro x26 x25 s27 hl0; exact (lp_0 hl0).elim
                        | succ n ih12 =>
                          intro x26 x25 s27 hl0 H locs hP hD hS ls hl
                          obtain ⟨z12, h1, hz12⟩ := lp_s hl0
                          have h1 : bX1_ask_142_2 a1 x26 x25 s27 = some z12 := h1
                          unfold bX1_ask_142_2 at h1
                          refine lv_iload hx hb dX1_ask_142 (lv_at hl 0 rfl) ?_
                          refine lv_sipush (v := (4800 : Int32)) hx hb dX1_ask_144 (by decide) ?_
                          refine lv_icmp_ge (tgt := 185) hx hb dX1_ask_147 (by decide) (fun hc => ?_) (fun hc => ?_)
                          · have h1 := it_t h1 hc
                            have he := lp_r h1 hz12
                            exact KN12 x26 x25 s27 he _ _ hP hD hS ls (lv_sub hl [0, 1, 2, 3, 4, 5, 6, 7] rfl)
                          · have h1 := it_f h1 hc
                            refine lv_iload hx hb dX1_ask_150 (lv_at hl 1 rfl) ?_
                            refine lv_if_eq (tgt := 185) hx hb dX1_ask_152 (by decide) (fun hc => ?_) (fun hc => ?_)
                            · have h1 := it_t h1 hc
                              have he := lp_r h1 hz12
                              exact KN12 x26 x25 s27 he _ _ hP hD hS ls (lv_sub hl [0, 1, 2, 3, 4, 5, 6, 7] rfl)
                            · have h1 := it_f h1 hc
                              refine lv_aload_n hx hb dX1_ask_155 rfl (lv_at hl 2 rfl) ?_
                              refine lv_aload_n hx hb dX1_ask_156 rfl (lv_at hl 2 rfl) ?_
                              refine lv_iload hx hb dX1_ask_157 (lv_at hl 1 rfl) ?_
                              obtain ⟨r28, hf13, h1⟩ := bnd_some h1
                              refine x_VI (As := [.int x26]) (rest := [.ref h]) hC (kX1_leastHarmed l dC dI cA h ad x26 s27 r28  hf13) (cwV 1 hts gX1_ask_X1_leastHarmed rfl rfl rfl (by decide +kernel) ⟨Nat.le_of_ble_eq_true rfl, Nat.le_of_ble_eq_true rfl⟩) 0 1 hV hN hK hP hD hS hA rfl rfl rfl rfl hl.1 rfl (Nat.le_of_ble_eq_true rfl) ⟨Nat.zero_le _, Nat.zero_le _⟩ dX1_ask_159 (fun H locs hP hD hS => ?_)
                              refine lv_iload hx hb dX1_ask_162 (lv_at hl 1 rfl) ?_
                              obtain ⟨s30, hf14, h1⟩ := bnd_some h1
                              refine x_VV (As := [.int r28, .int x26]) (rest := []) hC (kX1_giveUp l dC dI cA h ad r28 x26 s27 s30 hf14) (cwV 2 hts gX1_ask_X1_giveUp rfl rfl rfl (by decide +kernel) ⟨Nat.le_of_ble_eq_true rfl, Nat.le_of_ble_eq_true rfl⟩) 0 1 hV hN hK hP hD hS hA rfl rfl rfl rfl hl.1 rfl (Nat.le_of_ble_eq_true rfl) ⟨Nat.zero_le _, Nat.zero_le _⟩ dX1_ask_164 (fun H locs hP hD hS => ?_)
                              refine lv_aload_n hx hb dX1_ask_167 rfl (lv_at hl 2 rfl) ?_
                              obtain ⟨r31, s32, hf15, h1⟩ := bn2_some h1
                              refine x_VI (As := []) (rest := []) hC (kX1_goThroughRow l dC dI cA h ad s30 r31 s32 hf15) (cwV 0 hts gX1_ask_X1_goThroughRow rfl rfl rfl (by decide +kernel) ⟨Nat.le_of_ble_eq_true rfl, Nat.le_of_ble_eq_true rfl⟩) 0 1 hV hN hK hP hD hS hA rfl rfl rfl rfl hl.1 rfl (Nat.le_of_ble_eq_true rfl) ⟨Nat.zero_le _, Nat.zero_le _⟩ dX1_ask_168 (fun H locs hP hD hS => ?_)
                              refine lv_pop hx hb dX1_ask_171 rfl ?_
                              refine lv_aload_n hx hb dX1_ask_172 rfl (lv_at hl 2 rfl) ?_
                              refine lv_iload_n hx hb dX1_ask_173 rfl (lv_at hl 3 rfl) ?_
                              obtain ⟨r33, s34, hf16, h1⟩ := bn2_some h1
                              refine x_VI (As := [.int a1]) (rest := []) hC (kX1_ringOf l dC dI cA h ad a1 s32 r33 s34 hf16) (cwV 1 hts gX1_ask_X1_ringOf rfl rfl rfl (by decide +kernel) ⟨Nat.le_of_ble_eq_true rfl, Nat.le_of_ble_eq_true rfl⟩) 0 1 hV hN hK hP hD hS hA rfl rfl rfl rfl hl.1 rfl (Nat.le_of_ble_eq_true rfl) ⟨Nat.zero_le _, Nat.zero_le _⟩ dX1_ask_174 (fun H locs hP hD hS => ?_)
                              refine lv_istore (lv' := [(6, .int r33), (7, .int x25), (0, .ref h), (1, .int a1), (2, .int a2), (3, .int a3), (4, .int a4), (5, .int a5)]) hx hb dX1_ask_177 hl (by decide) rfl (fun ls hl => ?_)
                              obtain ⟨v35, ev35, h1⟩ := nm_some h1
                              refine lv_iinc (v := v35) (lv' := [(7, .int v35), (6, .int r33), (0, .ref h), (1, .int a1), (2, .int a2), (3, .int a3), (4, .int a4), (5, .int a5)]) hx hb dX1_ask_179 hl (k := 1) rfl (by rw [ev35]; rfl) (by decide) rfl (fun ls hl => ?_)
                              refine lv_goto (tgt := 142) hx hb dX1_ask_182 (by decide) ?_
                              have hc := lp_l h1 hz12
                              exact ih12 r33 v35 s34 hc _ _ hP hD hS ls (lv_sub hl [0, 1, 2, 3, 4, 5, 6, 7] rfl)
                      exact LP12 FU r7 (0 : Int32) s24 hl12 _ _ hP hD hS ls hl
                    · have h0 := it_t h0 hc
                      refine lv_aload_n hx hb dX1_ask_121 rfl (lv_at hl 1 rfl) ?_
                      refine lv_iload_n hx hb dX1_ask_122 rfl (lv_at hl 2 rfl) ?_
                      obtain ⟨s40, hf17, h0⟩ := bnd_some h0
                      refine x_VV (As := [.int a1]) (rest := []) hC (kX1_quitRow l dC dI cA h ad a1 s8 s40 hf17) (cwV 1 hts gX1_ask_X1_quitRow rfl rfl rfl (by decide +kernel) ⟨Nat.le_of_ble_eq_true rfl, Nat.le_of_ble_eq_true rfl⟩) 0 1 hV hN hK hP hD hS hA rfl rfl rfl rfl hl.1 rfl (Nat.le_of_ble_eq_true rfl) ⟨Nat.zero_le _, Nat.zero_le _⟩ dX1_ask_123 (fun H locs hP hD hS => ?_)
                      refine lv_bipush (v := (-5 : Int32)) hx hb dX1_ask_126 (by decide) ?_
                      obtain ⟨e1, e2⟩ := Prod.mk.inj (Option.some.inj h0)
                      exact x_retI hC hr hlocks rfl hP hD hS dX1_ask_128 ⟨e1, by rw [← e2]⟩
                · have h0 := it_t h0 hc
                  refine lv_bipush (v := (-5 : Int32)) hx hb dX1_ask_88 (by decide) ?_
                  obtain ⟨e1, e2⟩ := Prod.mk.inj (Option.some.inj h0)
                  exact x_retI hC hr hlocks rfl hP hD hS dX1_ask_90 ⟨e1, by rw [← e2]⟩
              · have h0 := it_t h0 hc
                refine lv_aload_n hx hb dX1_ask_67 rfl (lv_at hl 0 rfl) ?_
                refine lv_iload_n hx hb dX1_ask_68 rfl (lv_at hl 1 rfl) ?_
                refine lv_iload_n hx hb dX1_ask_69 rfl (lv_at hl 2 rfl) ?_
                refine lv_iload_n hx hb dX1_ask_70 rfl (lv_at hl 3 rfl) ?_
                refine lv_iload hx hb dX1_ask_71 (lv_at hl 4 rfl) ?_
                obtain ⟨s42, hf18, h0⟩ := bnd_some h0
                refine x_VV (As := [.int a1, .int a2, .int a3, .int a4]) (rest := []) hC (kX1_give l dC dI cA h ad a1 a2 a3 a4 σ s42 hf18) (cwV 4 hts gX1_ask_X1_give rfl rfl rfl (by decide +kernel) ⟨Nat.le_of_ble_eq_true rfl, Nat.le_of_ble_eq_true rfl⟩) 0 1 hV hN hK hP hD hS hA rfl rfl rfl rfl hl.1 rfl (Nat.le_of_ble_eq_true rfl) ⟨Nat.zero_le _, Nat.zero_le _⟩ dX1_ask_73 (fun H locs hP hD hS => ?_)
                refine lv_aload_n hx hb dX1_ask_76 rfl (lv_at hl 0 rfl) ?_
                obtain ⟨r43, s44, hf19, h0⟩ := bn2_some h0
                refine x_VI (As := []) (rest := []) hC (kX1_goThroughRow l dC dI cA h ad s42 r43 s44 hf19) (cwV 0 hts gX1_ask_X1_goThroughRow rfl rfl rfl (by decide +kernel) ⟨Nat.le_of_ble_eq_true rfl, Nat.le_of_ble_eq_true rfl⟩) 0 1 hV hN hK hP hD hS hA rfl rfl rfl rfl hl.1 rfl (Nat.le_of_ble_eq_true rfl) ⟨Nat.zero_le _, Nat.zero_le _⟩ dX1_ask_77 (fun H locs hP hD hS => ?_)
                refine lv_pop hx hb dX1_ask_80 rfl ?_
                refine lv_iconst (v := (1 : Int32)) hx hb dX1_ask_81 (by decide) ?_
                obtain ⟨e1, e2⟩ := Prod.mk.inj (Option.some.inj h0)
                exact x_retI hC hr hlocks rfl hP hD hS dX1_ask_82 ⟨e1, by rw [← e2]⟩
            · have h0 := it_f h0 hc
              refine lv_bipush (v := (-5 : Int32)) hx hb dX1_ask_48 (by decide) ?_
              obtain ⟨e1, e2⟩ := Prod.mk.inj (Option.some.inj h0)
              exact x_retI hC hr hlocks rfl hP hD hS dX1_ask_50 ⟨e1, by rw [← e2]⟩
          · have h0 := it_f h0 hc
            refine lv_bipush (v := (-2 : Int32)) hx hb dX1_ask_36 (by decide) ?_
            obtain ⟨e1, e2⟩ := Prod.mk.inj (Option.some.inj h0)
            exact x_retI hC hr hlocks rfl hP hD hS dX1_ask_38 ⟨e1, by rw [← e2]⟩
  · have h0 := it_t h0 hc
    refine lv_iconst (v := (-1 : Int32)) hx hb dX1_ask_7 (by decide) ?_
    obtain ⟨e1, e2⟩ := Prod.mk.inj (Option.some.inj h0)
    exact x_retI hC hr hlocks rfl hP hD hS dX1_ask_8 ⟨e1, by rw [← e2]⟩
def fX1_change (a1 : Int32) (a2 : Int32) (σ : St) : Option (Int32 × St) := if (a1 : Int32) < (0 : Int32) then (some ((-2 : Int32), σ)) else (if (a1 : Int32) ≤ (2 : Int32) then (if (a1 : Int32) = (2 : Int32) then (if (a2 : Int32) < (0 : Int32) then (some ((-2 : Int32), σ)) else (if (a2 : Int32) ≤ (200 : Int32) then (if (a1 : Int32) = (0 : Int32) then (if ((σ 4 0) : Int32) ≤ (0 : Int32) then (ax a1 3 (nm (σ 0 (a1 : Int32).toNatClampNeg) fun v7 => ax a1 3 (nm (put σ 0 (upd (σ 0) (a1 : Int32).toNatClampNeg (a2))) fun s8 => some (v7, s8)))) else (some ((-5 : Int32), σ))) else (ax a1 3 (nm (σ 0 (a1 : Int32).toNatClampNeg) fun v5 => ax a1 3 (nm (put σ 0 (upd (σ 0) (a1 : Int32).toNatClampNeg (a2))) fun s6 => some (v5, s6))))) else (some ((-2 : Int32), σ)))) else (if (a2 : Int32) < (0 : Int32) then (some ((-2 : Int32), σ)) else (if (a2 : Int32) ≤ (1 : Int32) then (if (a1 : Int32) = (0 : Int32) then (if ((σ 4 0) : Int32) ≤ (0 : Int32) then (ax a1 3 (nm (σ 0 (a1 : Int32).toNatClampNeg) fun v3 => ax a1 3 (nm (put σ 0 (upd (σ 0) (a1 : Int32).toNatClampNeg (a2))) fun s4 => some (v3, s4)))) else (some ((-5 : Int32), σ))) else (ax a1 3 (nm (σ 0 (a1 : Int32).toNatClampNeg) fun v1 => ax a1 3 (nm (put σ 0 (upd (σ 0) (a1 : Int32).toNatClampNeg (a2))) fun s2 => some (v1, s2))))) else (some ((-2 : Int32), σ))))) else (some ((-2 : Int32), σ)))
abbrev rmX1_change : Room := { frames := 0, cells := 0, slots := 0, locals := 0 }
set_option maxHeartbeats 4000000 in
set_option maxRecDepth 100000 in
theorem kX1_change (l : Launch) (dC : Nat → ClassId) (dI : Nat → Nat → Nat) (cA : Nat → ClassId) (h : Nat) (ad : Nat → Nat) (a1 : Int32) (a2 : Int32) (σ : St) (R0 : Int32) (σ' : St) (h0 : fX1_change a1 a2 σ = some (R0, σ')) : CI l yX1_change wsX1_change rmX1_change (dC, dI) vwCl (tysW cA) [.ref h, .int a1, .int a2] (wL cA h ad σ) R0 (wL cA h ad σ') := by
  refine CGI_of (cc := cX1_change) (nL := 5) (ret := (some .int)) (by decide) rfl (Nat.le_of_ble_eq_true rfl) ?_
  intro p e s m av below meth c A ls H locs hC hl
  obtain ⟨hC, hr, hlocks, hV, hN, hK, hP, hD, hS, hA⟩ := hC
  have hC : CallFix p m c cX1_change 5 s _ wsX1_change RX1 := hC
  obtain ⟨hx, hb, hml, hown, hts⟩ := id hC
  have hin0 : ∀ w ∈ u_ws RX1 TX1 16, w ∈ wsX1_change := fun _ h => (List.mem_cons_of_mem _ (List.mem_append_right _ h))
  have hl : lv_has ls 5 [(0, .ref h), (1, .int a1), (2, .int a2)] := hl
  unfold fX1_change at h0
  refine lv_iload_n hx hb dX1_change_0 rfl (lv_at hl 1 rfl) ?_
  refine lv_if_lt (tgt := 9) hx hb dX1_change_1 (by decide) (fun hc => ?_) (fun hc => ?_)
  · have h0 := it_t h0 hc
    refine lv_bipush (v := (-2 : Int32)) hx hb dX1_change_9 (by decide) ?_
    obtain ⟨e1, e2⟩ := Prod.mk.inj (Option.some.inj h0)
    exact x_retI hC hr hlocks rfl hP hD hS dX1_change_11 ⟨e1, by rw [← e2]⟩
  · have h0 := it_f h0 hc
    refine lv_iload_n hx hb dX1_change_4 rfl (lv_at hl 1 rfl) ?_
    refine lv_iconst (v := (2 : Int32)) hx hb dX1_change_5 (by decide) ?_
    refine lv_icmp_le (tgt := 12) hx hb dX1_change_6 (by decide) (fun hc => ?_) (fun hc => ?_)
    · have h0 := it_t h0 hc
      refine lv_iload_n hx hb dX1_change_12 rfl (lv_at hl 1 rfl) ?_
      refine lv_iconst (v := (2 : Int32)) hx hb dX1_change_13 (by decide) ?_
      refine lv_icmp_ne (tgt := 23) hx hb dX1_change_14 (by decide) (fun hc => ?_) (fun hc => ?_)
      · have h0 := it_f h0 hc
        refine lv_iconst (v := (1 : Int32)) hx hb dX1_change_23 (by decide) ?_
        refine lv_istore_n (lv' := [(3, .int (1 : Int32)), (0, .ref h), (1, .int a1), (2, .int a2)]) hx hb dX1_change_24 rfl hl (by decide) rfl (fun ls hl => ?_)
        refine lv_iload_n hx hb dX1_change_25 rfl (lv_at hl 3 rfl) ?_
        refine lv_if_lt (tgt := 34) hx hb dX1_change_26 (by decide) (fun hc => ?_) (fun hc => ?_)
        · have h0 := it_t h0 hc
          refine lv_bipush (v := (-2 : Int32)) hx hb dX1_change_34 (by decide) ?_
          obtain ⟨e1, e2⟩ := Prod.mk.inj (Option.some.inj h0)
          exact x_retI hC hr hlocks rfl hP hD hS dX1_change_36 ⟨e1, by rw [← e2]⟩
        · have h0 := it_f h0 hc
          refine lv_iload_n hx hb dX1_change_29 rfl (lv_at hl 3 rfl) ?_
          refine lv_iload_n hx hb dX1_change_30 rfl (lv_at hl 0 rfl) ?_
          refine lv_icmp_le (tgt := 37) hx hb dX1_change_31 (by decide) (fun hc => ?_) (fun hc => ?_)
          · have h0 := it_t h0 hc
            refine lv_iload_n hx hb dX1_change_37 rfl (lv_at hl 2 rfl) ?_
            refine lv_if_ne (tgt := 51) hx hb dX1_change_38 (by decide) (fun hc => ?_) (fun hc => ?_)
            · have h0 := it_f h0 hc
              refine lv_aload_n hx hb dX1_change_51 rfl (lv_at hl 1 rfl) ?_
              refine va_get (D := (dC, dI)) (ci := 1) (v := .ref (ad 0)) (C := RX1) (T := TX1) (N := 16) hx hb hts hin0 hown hK hP 0 rfl rfl 0 (by decide) (hts (.fieldLink RX1 9 "MeanLocks$Locks" "settings" "[I") (List.mem_of_getElem? (i := 2) rfl)) (fun _ h9 => h9) rfl dX1_change_52 ?_
              refine lv_iload_n hx hb dX1_change_55 rfl (lv_at hl 2 rfl) ?_
              obtain ⟨hi, h0⟩ := ax_some h0
              refine va_iald hx hb hK hP 1 0 rfl rfl hi dX1_change_56 ?_
              refine lv_topi (fun v1 ev1 => ?_)
              have h0 := nm_at ev1 h0
              refine lv_istore (lv' := [(4, .int v1), (3, .int (1 : Int32)), (0, .ref h), (1, .int a1), (2, .int a2)]) hx hb dX1_change_57 hl (by decide) rfl (fun ls hl => ?_)
              refine lv_aload_n hx hb dX1_change_59 rfl (lv_at hl 2 rfl) ?_
              refine va_get (D := (dC, dI)) (ci := 1) (v := .ref (ad 0)) (C := RX1) (T := TX1) (N := 16) hx hb hts hin0 hown hK hP 0 rfl rfl 0 (by decide) (hts (.fieldLink RX1 9 "MeanLocks$Locks" "settings" "[I") (List.mem_of_getElem? (i := 2) rfl)) (fun _ h9 => h9) rfl dX1_change_60 ?_
              refine lv_iload_n hx hb dX1_change_63 rfl (lv_at hl 3 rfl) ?_
              refine lv_iload_n hx hb dX1_change_64 rfl (lv_at hl 4 rfl) ?_
              obtain ⟨hi, h0⟩ := ax_some h0
              obtain ⟨s2, es2, h0⟩ := nm_some h0
              refine x_iast (ws' := wL cA h ad s2) hC hK hP hD hS 1 0 rfl rfl (by rw [es2]; exact wL_s0 _ _ _ _ _) hi dX1_change_65 (fun H locs hP hD hS => ?_)
              refine lv_iload hx hb dX1_change_66 (lv_at hl 0 rfl) ?_
              obtain ⟨e1, e2⟩ := Prod.mk.inj (Option.some.inj h0)
              exact x_retI hC hr hlocks rfl hP hD hS dX1_change_68 ⟨e1, by rw [← e2]⟩
            · have h0 := it_t h0 hc
              refine lv_aload_n hx hb dX1_change_41 rfl (lv_at hl 1 rfl) ?_
              refine va_get (D := (dC, dI)) (ci := 1) (v := .int (σ 4 0)) (C := RX1) (T := TX1) (N := 16) hx hb hts hin0 hown hK hP 0 rfl rfl 4 (by decide) (hts (.fieldLink RX1 54 "MeanLocks$Locks" "waiting" "I") (List.mem_of_getElem? (i := 1) rfl)) (fun _ h9 => h9) rfl dX1_change_42 ?_
              refine lv_if_le (tgt := 51) hx hb dX1_change_45 (by decide) (fun hc => ?_) (fun hc => ?_)
              · have h0 := it_t h0 hc
                refine lv_aload_n hx hb dX1_change_51 rfl (lv_at hl 1 rfl) ?_
                refine va_get (D := (dC, dI)) (ci := 1) (v := .ref (ad 0)) (C := RX1) (T := TX1) (N := 16) hx hb hts hin0 hown hK hP 0 rfl rfl 0 (by decide) (hts (.fieldLink RX1 9 "MeanLocks$Locks" "settings" "[I") (List.mem_of_getElem? (i := 2) rfl)) (fun _ h9 => h9) rfl dX1_change_52 ?_
                refine lv_iload_n hx hb dX1_change_55 rfl (lv_at hl 2 rfl) ?_
                obtain ⟨hi, h0⟩ := ax_some h0
                refine va_iald hx hb hK hP 1 0 rfl rfl hi dX1_change_56 ?_
                refine lv_topi (fun v3 ev3 => ?_)
                have h0 := nm_at ev3 h0
                refine lv_istore (lv' := [(4, .int v3), (3, .int (1 : Int32)), (0, .ref h), (1, .int a1), (2, .int a2)]) hx hb dX1_change_57 hl (by decide) rfl (fun ls hl => ?_)
                refine lv_aload_n hx hb dX1_change_59 rfl (lv_at hl 2 rfl) ?_
                refine va_get (D := (dC, dI)) (ci := 1) (v := .ref (ad 0)) (C := RX1) (T := TX1) (N := 16) hx hb hts hin0 hown hK hP 0 rfl rfl 0 (by decide) (hts (.fieldLink RX1 9 "MeanLocks$Locks" "settings" "[I") (List.mem_of_getElem? (i := 2) rfl)) (fun _ h9 => h9) rfl dX1_change_60 ?_
                refine lv_iload_n hx hb dX1_change_63 rfl (lv_at hl 3 rfl) ?_
                refine lv_iload_n hx hb dX1_change_64 rfl (lv_at hl 4 rfl) ?_
                obtain ⟨hi, h0⟩ := ax_some h0
                obtain ⟨s4, es4, h0⟩ := nm_some h0
                refine x_iast (ws' := wL cA h ad s4) hC hK hP hD hS 1 0 rfl rfl (by rw [es4]; exact wL_s0 _ _ _ _ _) hi dX1_change_65 (fun H locs hP hD hS => ?_)
                refine lv_iload hx hb dX1_change_66 (lv_at hl 0 rfl) ?_
                obtain ⟨e1, e2⟩ := Prod.mk.inj (Option.some.inj h0)
                exact x_retI hC hr hlocks rfl hP hD hS dX1_change_68 ⟨e1, by rw [← e2]⟩
              · have h0 := it_f h0 hc
                refine lv_bipush (v := (-5 : Int32)) hx hb dX1_change_48 (by decide) ?_
                obtain ⟨e1, e2⟩ := Prod.mk.inj (Option.some.inj h0)
                exact x_retI hC hr hlocks rfl hP hD hS dX1_change_50 ⟨e1, by rw [← e2]⟩
          · have h0 := it_f h0 hc
            refine lv_bipush (v := (-2 : Int32)) hx hb dX1_change_34 (by decide) ?_
            obtain ⟨e1, e2⟩ := Prod.mk.inj (Option.some.inj h0)
            exact x_retI hC hr hlocks rfl hP hD hS dX1_change_36 ⟨e1, by rw [← e2]⟩
      · have h0 := it_t h0 hc
        refine lv_sipush (v := (200 : Int32)) hx hb dX1_change_17 (by decide) ?_
        refine lv_goto (tgt := 24) hx hb dX1_change_20 (by decide) ?_
        refine lv_istore_n (lv' := [(3, .int (200 : Int32)), (0, .ref h), (1, .int a1), (2, .int a2)]) hx hb dX1_change_24 rfl hl (by decide) rfl (fun ls hl => ?_)
        refine lv_iload_n hx hb dX1_change_25 rfl (lv_at hl 3 rfl) ?_
        refine lv_if_lt (tgt := 34) hx hb dX1_change_26 (by decide) (fun hc => ?_) (fun hc => ?_)
        · have h0 := it_t h0 hc
          refine lv_bipush (v := (-2 : Int32)) hx hb dX1_change_34 (by decide) ?_
          obtain ⟨e1, e2⟩ := Prod.mk.inj (Option.some.inj h0)
          exact x_retI hC hr hlocks rfl hP hD hS dX1_change_36 ⟨e1, by rw [← e2]⟩
        · have h0 := it_f h0 hc
          refine lv_iload_n hx hb dX1_change_29 rfl (lv_at hl 3 rfl) ?_
          refine lv_iload_n hx hb dX1_change_30 rfl (lv_at hl 0 rfl) ?_
          refine lv_icmp_le (tgt := 37) hx hb dX1_change_31 (by decide) (fun hc => ?_) (fun hc => ?_)
          · have h0 := it_t h0 hc
            refine lv_iload_n hx hb dX1_change_37 rfl (lv_at hl 2 rfl) ?_
            refine lv_if_ne (tgt := 51) hx hb dX1_change_38 (by decide) (fun hc => ?_) (fun hc => ?_)
            · have h0 := it_f h0 hc
              refine lv_aload_n hx hb dX1_change_51 rfl (lv_at hl 1 rfl) ?_
              refine va_get (D := (dC, dI)) (ci := 1) (v := .ref (ad 0)) (C := RX1) (T := TX1) (N := 16) hx hb hts hin0 hown hK hP 0 rfl rfl 0 (by decide) (hts (.fieldLink RX1 9 "MeanLocks$Locks" "settings" "[I") (List.mem_of_getElem? (i := 2) rfl)) (fun _ h9 => h9) rfl dX1_change_52 ?_
              refine lv_iload_n hx hb dX1_change_55 rfl (lv_at hl 2 rfl) ?_
              obtain ⟨hi, h0⟩ := ax_some h0
              refine va_iald hx hb hK hP 1 0 rfl rfl hi dX1_change_56 ?_
              refine lv_topi (fun v5 ev5 => ?_)
              have h0 := nm_at ev5 h0
              refine lv_istore (lv' := [(4, .int v5), (3, .int (200 : Int32)), (0, .ref h), (1, .int a1), (2, .int a2)]) hx hb dX1_change_57 hl (by decide) rfl (fun ls hl => ?_)
              refine lv_aload_n hx hb dX1_change_59 rfl (lv_at hl 2 rfl) ?_
              refine va_get (D := (dC, dI)) (ci := 1) (v := .ref (ad 0)) (C := RX1) (T := TX1) (N := 16) hx hb hts hin0 hown hK hP 0 rfl rfl 0 (by decide) (hts (.fieldLink RX1 9 "MeanLocks$Locks" "settings" "[I") (List.mem_of_getElem? (i := 2) rfl)) (fun _ h9 => h9) rfl dX1_change_60 ?_
              refine lv_iload_n hx hb dX1_change_63 rfl (lv_at hl 3 rfl) ?_
              refine lv_iload_n hx hb dX1_change_64 rfl (lv_at hl 4 rfl) ?_
              obtain ⟨hi, h0⟩ := ax_some h0
              obtain ⟨s6, es6, h0⟩ := nm_some h0
              refine x_iast (ws' := wL cA h ad s6) hC hK hP hD hS 1 0 rfl rfl (by rw [es6]; exact wL_s0 _ _ _ _ _) hi dX1_change_65 (fun H locs hP hD hS => ?_)
              refine lv_iload hx hb dX1_change_66 (lv_at hl 0 rfl) ?_
              obtain ⟨e1, e2⟩ := Prod.mk.inj (Option.some.inj h0)
              exact x_retI hC hr hlocks rfl hP hD hS dX1_change_68 ⟨e1, by rw [← e2]⟩
            · have h0 := it_t h0 hc
              refine lv_aload_n hx hb dX1_change_41 rfl (lv_at hl 1 rfl) ?_
              refine va_get (D := (dC, dI)) (ci := 1) (v := .int (σ 4 0)) (C := RX1) (T := TX1) (N := 16) hx hb hts hin0 hown hK hP 0 rfl rfl 4 (by decide) (hts (.fieldLink RX1 54 "MeanLocks$Locks" "waiting" "I") (List.mem_of_getElem? (i := 1) rfl)) (fun _ h9 => h9) rfl dX1_change_42 ?_
              refine lv_if_le (tgt := 51) hx hb dX1_change_45 (by decide) (fun hc => ?_) (fun hc => ?_)
              · have h0 := it_t h0 hc
                refine lv_aload_n hx hb dX1_change_51 rfl (lv_at hl 1 rfl) ?_
                refine va_get (D := (dC, dI)) (ci := 1) (v := .ref (ad 0)) (C := RX1) (T := TX1) (N := 16) hx hb hts hin0 hown hK hP 0 rfl rfl 0 (by decide) (hts (.fieldLink RX1 9 "MeanLocks$Locks" "settings" "[I") (List.mem_of_getElem? (i := 2) rfl)) (fun _ h9 => h9) rfl dX1_change_52 ?_
                refine lv_iload_n hx hb dX1_change_55 rfl (lv_at hl 2 rfl) ?_
                obtain ⟨hi, h0⟩ := ax_some h0
                refine va_iald hx hb hK hP 1 0 rfl rfl hi dX1_change_56 ?_
                refine lv_topi (fun v7 ev7 => ?_)
                have h0 := nm_at ev7 h0
                refine lv_istore (lv' := [(4, .int v7), (3, .int (200 : Int32)), (0, .ref h), (1, .int a1), (2, .int a2)]) hx hb dX1_change_57 hl (by decide) rfl (fun ls hl => ?_)
                refine lv_aload_n hx hb dX1_change_59 rfl (lv_at hl 2 rfl) ?_
                refine va_get (D := (dC, dI)) (ci := 1) (v := .ref (ad 0)) (C := RX1) (T := TX1) (N := 16) hx hb hts hin0 hown hK hP 0 rfl rfl 0 (by decide) (hts (.fieldLink RX1 9 "MeanLocks$Locks" "settings" "[I") (List.mem_of_getElem? (i := 2) rfl)) (fun _ h9 => h9) rfl dX1_change_60 ?_
                refine lv_iload_n hx hb dX1_change_63 rfl (lv_at hl 3 rfl) ?_
                refine lv_iload_n hx hb dX1_change_64 rfl (lv_at hl 4 rfl) ?_
                obtain ⟨hi, h0⟩ := ax_some h0
                obtain ⟨s8, es8, h0⟩ := nm_some h0
                refine x_iast (ws' := wL cA h ad s8) hC hK hP hD hS 1 0 rfl rfl (by rw [es8]; exact wL_s0 _ _ _ _ _) hi dX1_change_65 (fun H locs hP hD hS => ?_)
                refine lv_iload hx hb dX1_change_66 (lv_at hl 0 rfl) ?_
                obtain ⟨e1, e2⟩ := Prod.mk.inj (Option.some.inj h0)
                exact x_retI hC hr hlocks rfl hP hD hS dX1_change_68 ⟨e1, by rw [← e2]⟩
              · have h0 := it_f h0 hc
                refine lv_bipush (v := (-5 : Int32)) hx hb dX1_change_48 (by decide) ?_
                obtain ⟨e1, e2⟩ := Prod.mk.inj (Option.some.inj h0)
                exact x_retI hC hr hlocks rfl hP hD hS dX1_change_50 ⟨e1, by rw [← e2]⟩
          · have h0 := it_f h0 hc
            refine lv_bipush (v := (-2 : Int32)) hx hb dX1_change_34 (by decide) ?_
            obtain ⟨e1, e2⟩ := Prod.mk.inj (Option.some.inj h0)
            exact x_retI hC hr hlocks rfl hP hD hS dX1_change_36 ⟨e1, by rw [← e2]⟩
    · have h0 := it_f h0 hc
      refine lv_bipush (v := (-2 : Int32)) hx hb dX1_change_9 (by decide) ?_
      obtain ⟨e1, e2⟩ := Prod.mk.inj (Option.some.inj h0)
      exact x_retI hC hr hlocks rfl hP hD hS dX1_change_11 ⟨e1, by rw [← e2]⟩
def bX1_freeRange_6 (a1 : Int32) (a3 : Int32) (x2 : Int32) (x1 : Int32) (s3 : St) : Option ((Int32 × Int32 × St) ⊕ (Int32 × Int32 × St)) := if a3 ≤ x1 then (some (.inr (x2, x1, s3))) else (bnd (fX1_kindAt a1 x1 s3) fun r4 => if (r4 : Int32) = (0 : Int32) then (nm (x1 + (1 : Int32)) fun v5 => some (.inl (x2, v5, s3))) else (bnd (fX1_lock a1 x1 (0 : Int32) s3) fun s7 => nm (x2 + (1 : Int32)) fun v8 => nm (x1 + (1 : Int32)) fun v9 => some (.inl (v8, v9, s7))))
def fX1_freeRange (a1 : Int32) (a2 : Int32) (a3 : Int32) (σ : St) : Option (Int32 × St) := bnd (lp (fun t : (Int32 × Int32 × St) => bX1_freeRange_6 a1 a3 t.1 t.2.1 t.2.2) FU ((0 : Int32), a2, σ)) (fun e : (Int32 × Int32 × St) => nm e.1 fun x10 => nm e.2.1 fun x11 => nm e.2.2 fun s12 => some (x10, s12))
abbrev rmX1_freeRange : Room := { frames := 1, cells := 0, slots := 0, locals := 25 }
set_option maxHeartbeats 4000000 in
set_option maxRecDepth 100000 in
theorem kX1_freeRange (l : Launch) (dC : Nat → ClassId) (dI : Nat → Nat → Nat) (cA : Nat → ClassId) (h : Nat) (ad : Nat → Nat) (a1 : Int32) (a2 : Int32) (a3 : Int32) (σ : St) (R0 : Int32) (σ' : St) (h0 : fX1_freeRange a1 a2 a3 σ = some (R0, σ')) : CI l yX1_freeRange wsX1_freeRange rmX1_freeRange (dC, dI) vwCl (tysW cA) [.ref h, .int a1, .int a2, .int a3] (wL cA h ad σ) R0 (wL cA h ad σ') := by
  refine CGI_of (cc := cX1_freeRange) (nL := 6) (ret := (some .int)) (by decide) rfl (Nat.le_of_ble_eq_true rfl) ?_
  intro p e s m av below meth c A ls H locs hC hl
  obtain ⟨hC, hr, hlocks, hV, hN, hK, hP, hD, hS, hA⟩ := hC
  have hC : CallFix p m c cX1_freeRange 6 s _ wsX1_freeRange RX1 := hC
  obtain ⟨hx, hb, hml, hown, hts⟩ := id hC
  have hin0 : ∀ w ∈ u_ws RX1 TX1 16, w ∈ wsX1_freeRange := fun _ h => (List.mem_cons_of_mem _ (List.mem_append_right _ h))
  have hl : lv_has ls 6 [(0, .ref h), (1, .int a1), (2, .int a2), (3, .int a3)] := hl
  unfold fX1_freeRange at h0
  refine lv_iconst (v := (0 : Int32)) hx hb dX1_freeRange_0 (by decide) ?_
  refine lv_istore (lv' := [(4, .int (0 : Int32)), (0, .ref h), (1, .int a1), (2, .int a2), (3, .int a3)]) hx hb dX1_freeRange_1 hl (by decide) rfl (fun ls hl => ?_)
  refine lv_iload_n hx hb dX1_freeRange_3 rfl (lv_at hl 3 rfl) ?_
  refine lv_istore (lv' := [(5, .int a2), (4, .int (0 : Int32)), (0, .ref h), (1, .int a1), (2, .int a2), (3, .int a3)]) hx hb dX1_freeRange_4 hl (by decide) rfl (fun ls hl => ?_)
  obtain ⟨ε1, hl1, h0⟩ := bnd_some h0
  have KN1 : ∀ (x10 : Int32) (x11 : Int32) (s12 : St), ε1 = (x10, x11, s12) → ∀ (H : Heap) (locs : List Loc), va_P (dC, dI) vwCl (wL cA h ad s12) H → va_D A (wL cA h ad s12) → va_S A s.heap H locs → ∀ (ls : Array Slot), lv_has ls 6 [(5, .int x11), (4, .int x10), (0, .ref h), (1, .int a1), (2, .int a2), (3, .int a3)] → W p l e (headSpec wsX1_freeRange rmX1_freeRange).room s m av below meth c H locs 0 0 (MQ below (qI (dC, dI) A R0 (wL cA h ad σ')) av s 0 0 A) (F0 m 39 ls []) := by
    intro x10 x11 s12 hε H locs hP hD hS ls hl
    rw [hε] at h0
    have h0 := nm_at (z := x10) rfl h0
    have h0 := nm_at (z := x11) rfl h0
    have h0 := nm_at (z := s12) rfl h0
    refine lv_iload hx hb dX1_freeRange_39 (lv_at hl 1 rfl) ?_
    obtain ⟨e1, e2⟩ := Prod.mk.inj (Option.some.inj h0)
    exact x_retI hC hr hlocks rfl hP hD hS dX1_freeRange_41 ⟨e1, by rw [← e2]⟩
  have LP1 : ∀ (n : Nat) (x2 : Int32) (x1 : Int32) (s3 : St), lp (fun t : (Int32 × Int32 × St) => bX1_freeRange_6 a1 a3 t.1 t.2.1 t.2.2) n (x2, x1, s3) = some ε1 → ∀ (H : Heap) (locs : List Loc), va_P (dC, dI) vwCl (wL cA h ad s3) H → va_D A (wL cA h ad s3) → va_S A s.heap H locs → ∀ (ls : Array Slot), lv_has ls 6 [(5, .int x1), (4, .int x2), (0, .ref h), (1, .int a1), (2, .int a2), (3, .int a3)] → W p l e (headSpec wsX1_freeRange rmX1_freeRange).room s m av below meth c H locs 0 0 (MQ below (qI (dC, dI) A R0 (wL cA h ad σ')) av s 0 0 A) (F0 m 6 ls []) := by
    intro n
    induction n with
    | zero => intro x2 x1 s3 hl0; exact (lp_0 hl0).elim
    | succ n ih1 =>
      intro x2 x1 s3 hl0 H locs hP hD hS ls hl
      obtain ⟨z1, h1, hz1⟩ := lp_s hl0
      have h1 : bX1_freeRange_6 a1 a3 x2 x1 s3 = some z1 := h1
      unfold bX1_freeRange_6 at h1
      refine lv_iload hx hb dX1_freeRange_6 (lv_at hl 0 rfl) ?_
      refine lv_iload_n hx hb dX1_freeRange_8 rfl (lv_at hl 5 rfl) ?_
      refine lv_icmp_ge (tgt := 39) hx hb dX1_freeRange_9 (by decide) (fun hc => ?_) (fun hc => ?_)
      · have h1 := it_t h1 hc
        have he := lp_r h1 hz1
        exact KN1 x2 x1 s3 he _ _ hP hD hS ls (lv_sub hl [0, 1, 2, 3, 4, 5] rfl)
      · have h1 := it_f h1 hc
        refine lv_aload_n hx hb dX1_freeRange_12 rfl (lv_at hl 2 rfl) ?_
        refine lv_iload_n hx hb dX1_freeRange_13 rfl (lv_at hl 3 rfl) ?_
        refine lv_iload hx hb dX1_freeRange_14 (lv_at hl 0 rfl) ?_
        obtain ⟨r4, hf2, h1⟩ := bnd_some h1
        refine x_VI (As := [.int a1, .int x1]) (rest := []) hC (kX1_kindAt l dC dI cA h ad a1 x1 s3 r4  hf2) (cwV 2 hts gX1_freeRange_X1_kindAt rfl rfl rfl (by decide +kernel) ⟨Nat.le_of_ble_eq_true rfl, Nat.le_of_ble_eq_true rfl⟩) 0 1 hV hN hK hP hD hS hA rfl rfl rfl rfl hl.1 rfl (Nat.le_of_ble_eq_true rfl) ⟨Nat.zero_le _, Nat.zero_le _⟩ dX1_freeRange_16 (fun H locs hP hD hS => ?_)
        refine lv_if_eq (tgt := 33) hx hb dX1_freeRange_19 (by decide) (fun hc => ?_) (fun hc => ?_)
        · have h1 := it_t h1 hc
          obtain ⟨v5, ev5, h1⟩ := nm_some h1
          refine lv_iinc (v := v5) (lv' := [(5, .int v5), (4, .int x2), (0, .ref h), (1, .int a1), (2, .int a2), (3, .int a3)]) hx hb dX1_freeRange_33 hl (k := 0) rfl (by rw [ev5]; rfl) (by decide) rfl (fun ls hl => ?_)
          refine lv_goto (tgt := 6) hx hb dX1_freeRange_36 (by decide) ?_
          have hc := lp_l h1 hz1
          exact ih1 x2 v5 s3 hc _ _ hP hD hS ls (lv_sub hl [0, 1, 2, 3, 4, 5] rfl)
        · have h1 := it_f h1 hc
          refine lv_aload_n hx hb dX1_freeRange_22 rfl (lv_at hl 2 rfl) ?_
          refine lv_iload_n hx hb dX1_freeRange_23 rfl (lv_at hl 3 rfl) ?_
          refine lv_iload hx hb dX1_freeRange_24 (lv_at hl 0 rfl) ?_
          refine lv_iconst (v := (0 : Int32)) hx hb dX1_freeRange_26 (by decide) ?_
          obtain ⟨s7, hf3, h1⟩ := bnd_some h1
          refine x_VV (As := [.int a1, .int x1, .int (0 : Int32)]) (rest := []) hC (kX1_lock l dC dI cA h ad a1 x1 (0 : Int32) s3 s7 hf3) (cwV 3 hts gX1_freeRange_X1_lock rfl rfl rfl (by decide +kernel) ⟨Nat.le_of_ble_eq_true rfl, Nat.le_of_ble_eq_true rfl⟩) 0 1 hV hN hK hP hD hS hA rfl rfl rfl rfl hl.1 rfl (Nat.le_of_ble_eq_true rfl) ⟨Nat.zero_le _, Nat.zero_le _⟩ dX1_freeRange_27 (fun H locs hP hD hS => ?_)
          obtain ⟨v8, ev8, h1⟩ := nm_some h1
          refine lv_iinc (v := v8) (lv' := [(4, .int v8), (5, .int x1), (0, .ref h), (1, .int a1), (2, .int a2), (3, .int a3)]) hx hb dX1_freeRange_30 hl (k := 1) rfl (by rw [ev8]; rfl) (by decide) rfl (fun ls hl => ?_)
          obtain ⟨v9, ev9, h1⟩ := nm_some h1
          refine lv_iinc (v := v9) (lv' := [(5, .int v9), (4, .int v8), (0, .ref h), (1, .int a1), (2, .int a2), (3, .int a3)]) hx hb dX1_freeRange_33 hl (k := 1) rfl (by rw [ev9]; rfl) (by decide) rfl (fun ls hl => ?_)
          refine lv_goto (tgt := 6) hx hb dX1_freeRange_36 (by decide) ?_
          have hc := lp_l h1 hz1
          exact ih1 v8 v9 s7 hc _ _ hP hD hS ls (lv_sub hl [0, 1, 2, 3, 4, 5] rfl)
  exact LP1 FU (0 : Int32) a2 σ hl1 _ _ hP hD hS ls hl
def fX1_strip (a1 : Int32) (σ : St) : Option (Int32 × St) := bnd (fX1_quitRow a1 σ) fun s2 => bn2 (fX1_freeRange a1 (0 : Int32) (300 : Int32) s2) fun r3 s4 => some (r3, s4)
abbrev rmX1_strip : Room := { frames := 2, cells := 0, slots := 0, locals := 50 }
set_option maxHeartbeats 4000000 in
set_option maxRecDepth 100000 in
theorem kX1_strip (l : Launch) (dC : Nat → ClassId) (dI : Nat → Nat → Nat) (cA : Nat → ClassId) (h : Nat) (ad : Nat → Nat) (a1 : Int32) (σ : St) (R0 : Int32) (σ' : St) (h0 : fX1_strip a1 σ = some (R0, σ')) : CI l yX1_strip wsX1_strip rmX1_strip (dC, dI) vwCl (tysW cA) [.ref h, .int a1] (wL cA h ad σ) R0 (wL cA h ad σ') := by
  refine CGI_of (cc := cX1_strip) (nL := 2) (ret := (some .int)) (by decide) rfl (Nat.le_of_ble_eq_true rfl) ?_
  intro p e s m av below meth c A ls H locs hC hl
  obtain ⟨hC, hr, hlocks, hV, hN, hK, hP, hD, hS, hA⟩ := hC
  have hC : CallFix p m c cX1_strip 2 s _ wsX1_strip RX1 := hC
  obtain ⟨hx, hb, hml, hown, hts⟩ := id hC
  have hin0 : ∀ w ∈ u_ws RX1 TX1 16, w ∈ wsX1_strip := fun _ h => (List.mem_cons_of_mem _ (List.mem_append_right _ h))
  have hl : lv_has ls 2 [(0, .ref h), (1, .int a1)] := hl
  unfold fX1_strip at h0
  refine lv_aload_n hx hb dX1_strip_0 rfl (lv_at hl 0 rfl) ?_
  refine lv_iload_n hx hb dX1_strip_1 rfl (lv_at hl 1 rfl) ?_
  obtain ⟨s2, hf1, h0⟩ := bnd_some h0
  refine x_VV (As := [.int a1]) (rest := []) hC (kX1_quitRow l dC dI cA h ad a1 σ s2 hf1) (cwV 1 hts gX1_strip_X1_quitRow rfl rfl rfl (by decide +kernel) ⟨Nat.le_of_ble_eq_true rfl, Nat.le_of_ble_eq_true rfl⟩) 0 1 hV hN hK hP hD hS hA rfl rfl rfl rfl hl.1 rfl (Nat.le_of_ble_eq_true rfl) ⟨Nat.zero_le _, Nat.zero_le _⟩ dX1_strip_2 (fun H locs hP hD hS => ?_)
  refine lv_aload_n hx hb dX1_strip_5 rfl (lv_at hl 0 rfl) ?_
  refine lv_iload_n hx hb dX1_strip_6 rfl (lv_at hl 1 rfl) ?_
  refine lv_iconst (v := (0 : Int32)) hx hb dX1_strip_7 (by decide) ?_
  refine lv_sipush (v := (300 : Int32)) hx hb dX1_strip_8 (by decide) ?_
  obtain ⟨r3, s4, hf2, h0⟩ := bn2_some h0
  refine x_VI (As := [.int a1, .int (0 : Int32), .int (300 : Int32)]) (rest := []) hC (kX1_freeRange l dC dI cA h ad a1 (0 : Int32) (300 : Int32) s2 r3 s4 hf2) (cwV 3 hts gX1_strip_X1_freeRange rfl rfl rfl (by decide +kernel) ⟨Nat.le_of_ble_eq_true rfl, Nat.le_of_ble_eq_true rfl⟩) 0 1 hV hN hK hP hD hS hA rfl rfl rfl rfl hl.1 rfl (Nat.le_of_ble_eq_true rfl) ⟨Nat.zero_le _, Nat.zero_le _⟩ dX1_strip_11 (fun H locs hP hD hS => ?_)
  obtain ⟨e1, e2⟩ := Prod.mk.inj (Option.some.inj h0)
  exact x_retI hC hr hlocks rfl hP hD hS dX1_strip_14 ⟨e1, by rw [← e2]⟩
def fX1_depart (a1 : Int32) (σ : St) : Option (Int32 × St) := bnd (fX3_isOwner a1) fun r1 => if (r1 : Int32) = (0 : Int32) then (some ((-1 : Int32), σ)) else (bn2 (fX1_strip a1 σ) fun r2 s3 => bn2 (fX1_goThroughRow  s3) fun r4 s5 => some (r2, s5))
abbrev rmX1_depart : Room := { frames := 4, cells := 0, slots := 0, locals := 106 }
set_option maxHeartbeats 4000000 in
set_option maxRecDepth 100000 in
theorem kX1_depart (l : Launch) (dC : Nat → ClassId) (dI : Nat → Nat → Nat) (cA : Nat → ClassId) (h : Nat) (ad : Nat → Nat) (a1 : Int32) (σ : St) (R0 : Int32) (σ' : St) (h0 : fX1_depart a1 σ = some (R0, σ')) : CI l yX1_depart wsX1_depart rmX1_depart (dC, dI) vwCl (tysW cA) [.ref h, .int a1] (wL cA h ad σ) R0 (wL cA h ad σ') := by
  refine CGI_of (cc := cX1_depart) (nL := 3) (ret := (some .int)) (by decide) rfl (Nat.le_of_ble_eq_true rfl) ?_
  intro p e s m av below meth c A ls H locs hC hl
  obtain ⟨hC, hr, hlocks, hV, hN, hK, hP, hD, hS, hA⟩ := hC
  have hC : CallFix p m c cX1_depart 3 s _ wsX1_depart RX1 := hC
  obtain ⟨hx, hb, hml, hown, hts⟩ := id hC
  have hin0 : ∀ w ∈ u_ws RX1 TX1 16, w ∈ wsX1_depart := fun _ h => (List.mem_cons_of_mem _ (List.mem_append_right _ h))
  have hl : lv_has ls 3 [(0, .ref h), (1, .int a1)] := hl
  unfold fX1_depart at h0
  refine lv_iload_n hx hb dX1_depart_0 rfl (lv_at hl 1 rfl) ?_
  obtain ⟨r1, hf1, h0⟩ := bnd_some h0
  refine x_SNI (As := [.int a1]) (rest := []) hC (kX3_isOwner l dC dI cA a1 r1 hf1) ⟨va_cnB 1 hts gX1_depart_X3_isOwner_n69 rfl rfl rfl (hN _ (List.mem_of_getElem? (i := 5) rfl)) (hts (.initialized RX3) (List.mem_of_getElem? (i := 2) rfl)) ⟨by decide +kernel, by decide +kernel, by decide +kernel⟩ ⟨Nat.le_of_ble_eq_true rfl, Nat.le_of_ble_eq_true rfl⟩, (hts (.static yX3_isOwner) (List.mem_of_getElem? (i := 1) rfl)), trivial⟩ hV hN hK hP hD hS hA rfl hl.1 rfl (Nat.le_of_ble_eq_true rfl) ⟨Nat.zero_le _, Nat.zero_le _⟩ dX1_depart_1 (fun H locs hP hD hS => ?_)
  refine lv_if_ne (tgt := 9) hx hb dX1_depart_4 (by decide) (fun hc => ?_) (fun hc => ?_)
  · have h0 := it_f h0 hc
    refine lv_aload_n hx hb dX1_depart_9 rfl (lv_at hl 0 rfl) ?_
    refine lv_iload_n hx hb dX1_depart_10 rfl (lv_at hl 1 rfl) ?_
    obtain ⟨r2, s3, hf2, h0⟩ := bn2_some h0
    refine x_VI (As := [.int a1]) (rest := []) hC (kX1_strip l dC dI cA h ad a1 σ r2 s3 hf2) (cwV 1 hts gX1_depart_X1_strip rfl rfl rfl (by decide +kernel) ⟨Nat.le_of_ble_eq_true rfl, Nat.le_of_ble_eq_true rfl⟩) 0 1 hV hN hK hP hD hS hA rfl rfl rfl rfl hl.1 rfl (Nat.le_of_ble_eq_true rfl) ⟨Nat.zero_le _, Nat.zero_le _⟩ dX1_depart_11 (fun H locs hP hD hS => ?_)
    refine lv_istore_n (lv' := [(2, .int r2), (0, .ref h), (1, .int a1)]) hx hb dX1_depart_14 rfl hl (by decide) rfl (fun ls hl => ?_)
    refine lv_aload_n hx hb dX1_depart_15 rfl (lv_at hl 1 rfl) ?_
    obtain ⟨r4, s5, hf3, h0⟩ := bn2_some h0
    refine x_VI (As := []) (rest := []) hC (kX1_goThroughRow l dC dI cA h ad s3 r4 s5 hf3) (cwV 0 hts gX1_depart_X1_goThroughRow rfl rfl rfl (by decide +kernel) ⟨Nat.le_of_ble_eq_true rfl, Nat.le_of_ble_eq_true rfl⟩) 0 1 hV hN hK hP hD hS hA rfl rfl rfl rfl hl.1 rfl (Nat.le_of_ble_eq_true rfl) ⟨Nat.zero_le _, Nat.zero_le _⟩ dX1_depart_16 (fun H locs hP hD hS => ?_)
    refine lv_pop hx hb dX1_depart_19 rfl ?_
    refine lv_iload_n hx hb dX1_depart_20 rfl (lv_at hl 0 rfl) ?_
    obtain ⟨e1, e2⟩ := Prod.mk.inj (Option.some.inj h0)
    exact x_retI hC hr hlocks rfl hP hD hS dX1_depart_21 ⟨e1, by rw [← e2]⟩
  · have h0 := it_t h0 hc
    refine lv_iconst (v := (-1 : Int32)) hx hb dX1_depart_7 (by decide) ?_
    obtain ⟨e1, e2⟩ := Prod.mk.inj (Option.some.inj h0)
    exact x_retI hC hr hlocks rfl hP hD hS dX1_depart_8 ⟨e1, by rw [← e2]⟩
def bX1_endPatience_16 (v1 : Int32) (x4 : Int32) (s5 : St) : Option ((Int32 × St) ⊕ (Int32 × St)) := if (x4 : Int32) < (0 : Int32) then (some (.inr (x4, s5))) else (ax x4 8 (nm (s5 3 (x4 : Int32).toNatClampNeg) fun v6 => ax v6 8 (ax v6 8 (nm (put s5 8 (upd (s5 8) (v6 : Int32).toNatClampNeg ((s5 8 (v6 : Int32).toNatClampNeg) + (1 : Int32)))) fun s7 => if (v1 : Int32) ≤ (0 : Int32) then (nm (x4 + (-1 : Int32)) fun v8 => some (.inl (v8, s7))) else (ax v6 8 (if ((s7 8 (v6 : Int32).toNatClampNeg) : Int32) < v1 then (nm (x4 + (-1 : Int32)) fun v9 => some (.inl (v9, s7))) else (bnd (fX1_quitRow v6 s7) fun s11 => nm (x4 + (-1 : Int32)) fun v12 => some (.inl (v12, s11)))))))))
def fX1_endPatience (σ : St) : Option (Int32 × St) := ax (2 : Int32) 3 (nm (σ 0 ((2 : Int32) : Int32).toNatClampNeg) fun v1 => nm (σ 4 0) fun v2 => nm (v2 - (1 : Int32)) fun v3 => bnd (lp (fun t : (Int32 × St) => bX1_endPatience_16 v1 t.1 t.2) FU (v3, σ)) (fun e : (Int32 × St) => nm e.1 fun x13 => nm e.2 fun s14 => nm (put s14 13 (fun _ => (s14 13 0) + (v2 - (s14 4 0)))) fun s15 => if v2 ≤ (s15 4 0) then (some ((0 : Int32), s15)) else (some ((1 : Int32), s15))))
abbrev rmX1_endPatience : Room := { frames := 2, cells := 0, slots := 0, locals := 45 }
set_option maxHeartbeats 4000000 in
set_option maxRecDepth 100000 in
theorem kX1_endPatience (l : Launch) (dC : Nat → ClassId) (dI : Nat → Nat → Nat) (cA : Nat → ClassId) (h : Nat) (ad : Nat → Nat) (σ : St) (R0 : Int32) (σ' : St) (h0 : fX1_endPatience σ = some (R0, σ')) : CI l yX1_endPatience wsX1_endPatience rmX1_endPatience (dC, dI) vwCl (tysW cA) [.ref h] (wL cA h ad σ) R0 (wL cA h ad σ') := by
  refine CGI_of (cc := cX1_endPatience) (nL := 5) (ret := (some .boolean)) (by decide) rfl (Nat.le_of_ble_eq_true rfl) ?_
  intro p e s m av below meth c A ls H locs hC hl
  obtain ⟨hC, hr, hlocks, hV, hN, hK, hP, hD, hS, hA⟩ := hC
  have hC : CallFix p m c cX1_endPatience 5 s _ wsX1_endPatience RX1 := hC
  obtain ⟨hx, hb, hml, hown, hts⟩ := id hC
  have hin0 : ∀ w ∈ u_ws RX1 TX1 16, w ∈ wsX1_endPatience := fun _ h => (List.mem_cons_of_mem _ (List.mem_append_right _ h))
  have hl : lv_has ls 5 [(0, .ref h)] := hl
  unfold fX1_endPatience at h0
  refine lv_aload_n hx hb dX1_endPatience_0 rfl (lv_at hl 0 rfl) ?_
  refine va_get (D := (dC, dI)) (ci := 1) (v := .ref (ad 0)) (C := RX1) (T := TX1) (N := 16) hx hb hts hin0 hown hK hP 0 rfl rfl 0 (by decide) (hts (.fieldLink RX1 9 "MeanLocks$Locks" "settings" "[I") (List.mem_of_getElem? (i := 1) rfl)) (fun _ h9 => h9) rfl dX1_endPatience_1 ?_
  refine lv_iconst (v := (2 : Int32)) hx hb dX1_endPatience_4 (by decide) ?_
  obtain ⟨hi, h0⟩ := ax_some h0
  refine va_iald hx hb hK hP 1 0 rfl rfl hi dX1_endPatience_5 ?_
  refine lv_topi (fun v1 ev1 => ?_)
  have h0 := nm_at ev1 h0
  refine lv_istore_n (lv' := [(1, .int v1), (0, .ref h)]) hx hb dX1_endPatience_6 rfl hl (by decide) rfl (fun ls hl => ?_)
  refine lv_aload_n hx hb dX1_endPatience_7 rfl (lv_at hl 1 rfl) ?_
  refine va_get (D := (dC, dI)) (ci := 1) (v := .int (σ 4 0)) (C := RX1) (T := TX1) (N := 16) hx hb hts hin0 hown hK hP 0 rfl rfl 4 (by decide) (hts (.fieldLink RX1 54 "MeanLocks$Locks" "waiting" "I") (List.mem_of_getElem? (i := 2) rfl)) (fun _ h9 => h9) rfl dX1_endPatience_8 ?_
  refine lv_topi (fun v2 ev2 => ?_)
  have h0 := nm_at ev2 h0
  refine lv_istore_n (lv' := [(2, .int v2), (1, .int v1), (0, .ref h)]) hx hb dX1_endPatience_11 rfl hl (by decide) rfl (fun ls hl => ?_)
  refine lv_iload_n hx hb dX1_endPatience_12 rfl (lv_at hl 0 rfl) ?_
  refine lv_iconst (v := (1 : Int32)) hx hb dX1_endPatience_13 (by decide) ?_
  refine lv_isub hx hb dX1_endPatience_14 ?_
  refine lv_topi (fun v3 ev3 => ?_)
  have h0 := nm_at ev3 h0
  refine lv_istore_n (lv' := [(3, .int v3), (2, .int v2), (1, .int v1), (0, .ref h)]) hx hb dX1_endPatience_15 rfl hl (by decide) rfl (fun ls hl => ?_)
  obtain ⟨ε1, hl1, h0⟩ := bnd_some h0
  have KN1 : ∀ (x13 : Int32) (s14 : St), ε1 = (x13, s14) → ∀ (H : Heap) (locs : List Loc), va_P (dC, dI) vwCl (wL cA h ad s14) H → va_D A (wL cA h ad s14) → va_S A s.heap H locs → ∀ (ls : Array Slot), lv_has ls 5 [(3, .int x13), (2, .int v2), (1, .int v1), (0, .ref h)] → W p l e (headSpec wsX1_endPatience rmX1_endPatience).room s m av below meth c H locs 0 0 (MQ below (qI (dC, dI) A R0 (wL cA h ad σ')) av s 0 0 A) (F0 m 66 ls []) := by
    intro x13 s14 hε H locs hP hD hS ls hl
    rw [hε] at h0
    have h0 := nm_at (z := x13) rfl h0
    have h0 := nm_at (z := s14) rfl h0
    refine lv_aload_n hx hb dX1_endPatience_66 rfl (lv_at hl 3 rfl) ?_
    refine lv_dup hx hb dX1_endPatience_67 rfl ?_
    refine va_get (D := (dC, dI)) (ci := 1) (v := .int (s14 13 0)) (C := RX1) (T := TX1) (N := 16) hx hb hts hin0 hown hK hP 0 rfl rfl 13 (by decide) (hts (.fieldLink RX1 57 "MeanLocks$Locks" "gone" "I") (List.mem_of_getElem? (i := 5) rfl)) (fun _ h9 => h9) rfl dX1_endPatience_68 ?_
    refine lv_iload_n hx hb dX1_endPatience_71 rfl (lv_at hl 1 rfl) ?_
    refine lv_aload_n hx hb dX1_endPatience_72 rfl (lv_at hl 3 rfl) ?_
    refine va_get (D := (dC, dI)) (ci := 1) (v := .int (s14 4 0)) (C := RX1) (T := TX1) (N := 16) hx hb hts hin0 hown hK hP 0 rfl rfl 4 (by decide) (hts (.fieldLink RX1 54 "MeanLocks$Locks" "waiting" "I") (List.mem_of_getElem? (i := 2) rfl)) (fun _ h9 => h9) rfl dX1_endPatience_73 ?_
    refine lv_isub hx hb dX1_endPatience_76 ?_
    refine lv_iadd hx hb dX1_endPatience_77 ?_
    obtain ⟨s15, es15, h0⟩ := nm_some h0
    refine x_put (D := (dC, dI)) (ws' := wL cA h ad s15) (ci := 1) (fs := [.ref (ad 0), .int (s14 1 0), .ref (ad 2), .ref (ad 3), .int (s14 4 0), .ref (ad 5), .ref (ad 6), .ref (ad 7), .ref (ad 8), .ref (ad 9), .ref (ad 10), .ref (ad 11), .ref (ad 12), .int (s14 13 0), .int (s14 14 0), .ref (ad 15)]) (v := .int ((s14 13 0) + (v2 - (s14 4 0)))) (ty := .int) (C := RX1) (T := TX1) (N := 16) hC hin0 tyX1 tyX1_ok nmX1 hK hP hD hS 0 rfl rfl 13 (by decide) (hts (.fieldLink RX1 57 "MeanLocks$Locks" "gone" "I") (List.mem_of_getElem? (i := 5) rfl)) rfl rfl rfl rfl (by decide +kernel) (Nat.le_of_ble_eq_true rfl) (by rw [es15]; exact wL_s13 _ _ _ _ _) dX1_endPatience_78 (fun H locs hP hD hS => ?_)
    refine lv_aload_n hx hb dX1_endPatience_81 rfl (lv_at hl 3 rfl) ?_
    refine va_get (D := (dC, dI)) (ci := 1) (v := .int (s15 4 0)) (C := RX1) (T := TX1) (N := 16) hx hb hts hin0 hown hK hP 0 rfl rfl 4 (by decide) (hts (.fieldLink RX1 54 "MeanLocks$Locks" "waiting" "I") (List.mem_of_getElem? (i := 2) rfl)) (fun _ h9 => h9) rfl dX1_endPatience_82 ?_
    refine lv_iload_n hx hb dX1_endPatience_85 rfl (lv_at hl 1 rfl) ?_
    refine lv_icmp_ge (tgt := 93) hx hb dX1_endPatience_86 (by decide) (fun hc => ?_) (fun hc => ?_)
    · have h0 := it_t h0 hc
      refine lv_iconst (v := (0 : Int32)) hx hb dX1_endPatience_93 (by decide) ?_
      obtain ⟨e1, e2⟩ := Prod.mk.inj (Option.some.inj h0)
      exact x_retI hC hr hlocks rfl hP hD hS dX1_endPatience_94 ⟨e1, by rw [← e2]⟩
    · have h0 := it_f h0 hc
      refine lv_iconst (v := (1 : Int32)) hx hb dX1_endPatience_89 (by decide) ?_
      refine lv_goto (tgt := 94) hx hb dX1_endPatience_90 (by decide) ?_
      obtain ⟨e1, e2⟩ := Prod.mk.inj (Option.some.inj h0)
      exact x_retI hC hr hlocks rfl hP hD hS dX1_endPatience_94 ⟨e1, by rw [← e2]⟩
  have LP1 : ∀ (n : Nat) (x4 : Int32) (s5 : St), lp (fun t : (Int32 × St) => bX1_endPatience_16 v1 t.1 t.2) n (x4, s5) = some ε1 → ∀ (H : Heap) (locs : List Loc), va_P (dC, dI) vwCl (wL cA h ad s5) H → va_D A (wL cA h ad s5) → va_S A s.heap H locs → ∀ (ls : Array Slot), lv_has ls 5 [(3, .int x4), (2, .int v2), (1, .int v1), (0, .ref h)] → W p l e (headSpec wsX1_endPatience rmX1_endPatience).room s m av below meth c H locs 0 0 (MQ below (qI (dC, dI) A R0 (wL cA h ad σ')) av s 0 0 A) (F0 m 16 ls []) := by
    intro n
    induction n with
    | zero => intro x4 s5 hl0; exact (lp_0 hl0).elim
    | succ n ih1 =>
      intro x4 s5 hl0 H locs hP hD hS ls hl
      obtain ⟨z1, h1, hz1⟩ := lp_s hl0
      have h1 : bX1_endPatience_16 v1 x4 s5 = some z1 := h1
      unfold bX1_endPatience_16 at h1
      refine lv_iload_n hx hb dX1_endPatience_16 rfl (lv_at hl 0 rfl) ?_
      refine lv_if_lt (tgt := 66) hx hb dX1_endPatience_17 (by decide) (fun hc => ?_) (fun hc => ?_)
      · have h1 := it_t h1 hc
        have he := lp_r h1 hz1
        exact KN1 x4 s5 he _ _ hP hD hS ls (lv_sub hl [0, 1, 2, 3] rfl)
      · have h1 := it_f h1 hc
        refine lv_aload_n hx hb dX1_endPatience_20 rfl (lv_at hl 3 rfl) ?_
        refine va_get (D := (dC, dI)) (ci := 1) (v := .ref (ad 3)) (C := RX1) (T := TX1) (N := 16) hx hb hts hin0 hown hK hP 0 rfl rfl 3 (by decide) (hts (.fieldLink RX1 20 "MeanLocks$Locks" "row" "[I") (List.mem_of_getElem? (i := 3) rfl)) (fun _ h9 => h9) rfl dX1_endPatience_21 ?_
        refine lv_iload_n hx hb dX1_endPatience_24 rfl (lv_at hl 0 rfl) ?_
        obtain ⟨hi, h1⟩ := ax_some h1
        refine va_iald hx hb hK hP 3 0 rfl rfl hi dX1_endPatience_25 ?_
        refine lv_topi (fun v6 ev6 => ?_)
        have h1 := nm_at ev6 h1
        refine lv_istore (lv' := [(4, .int v6), (3, .int x4), (2, .int v2), (1, .int v1), (0, .ref h)]) hx hb dX1_endPatience_26 hl (by decide) rfl (fun ls hl => ?_)
        refine lv_aload_n hx hb dX1_endPatience_28 rfl (lv_at hl 4 rfl) ?_
        refine va_get (D := (dC, dI)) (ci := 1) (v := .ref (ad 8)) (C := RX1) (T := TX1) (N := 16) hx hb hts hin0 hown hK hP 0 rfl rfl 8 (by decide) (hts (.fieldLink RX1 32 "MeanLocks$Locks" "waited" "[I") (List.mem_of_getElem? (i := 4) rfl)) (fun _ h9 => h9) rfl dX1_endPatience_29 ?_
        refine lv_iload hx hb dX1_endPatience_32 (lv_at hl 0 rfl) ?_
        refine lv_dup2_11 hx hb dX1_endPatience_34 rfl rfl ?_
        obtain ⟨hi, h1⟩ := ax_some h1
        refine va_iald hx hb hK hP 7 0 rfl rfl hi dX1_endPatience_35 ?_
        refine lv_iconst (v := (1 : Int32)) hx hb dX1_endPatience_36 (by decide) ?_
        refine lv_iadd hx hb dX1_endPatience_37 ?_
        obtain ⟨hi, h1⟩ := ax_some h1
        obtain ⟨s7, es7, h1⟩ := nm_some h1
        refine x_iast (ws' := wL cA h ad s7) hC hK hP hD hS 7 0 rfl rfl (by rw [es7]; exact wL_s8 _ _ _ _ _) hi dX1_endPatience_38 (fun H locs hP hD hS => ?_)
        refine lv_iload_n hx hb dX1_endPatience_39 rfl (lv_at hl 3 rfl) ?_
        refine lv_if_le (tgt := 60) hx hb dX1_endPatience_40 (by decide) (fun hc => ?_) (fun hc => ?_)
        · have h1 := it_t h1 hc
          obtain ⟨v8, ev8, h1⟩ := nm_some h1
          refine lv_iinc (v := v8) (lv' := [(3, .int v8), (4, .int v6), (2, .int v2), (1, .int v1), (0, .ref h)]) hx hb dX1_endPatience_60 hl (k := 1) rfl (by rw [ev8]; rfl) (by decide) rfl (fun ls hl => ?_)
          refine lv_goto (tgt := 16) hx hb dX1_endPatience_63 (by decide) ?_
          have hc := lp_l h1 hz1
          exact ih1 v8 s7 hc _ _ hP hD hS ls (lv_sub hl [0, 2, 3, 4] rfl)
        · have h1 := it_f h1 hc
          refine lv_aload_n hx hb dX1_endPatience_43 rfl (lv_at hl 4 rfl) ?_
          refine va_get (D := (dC, dI)) (ci := 1) (v := .ref (ad 8)) (C := RX1) (T := TX1) (N := 16) hx hb hts hin0 hown hK hP 0 rfl rfl 8 (by decide) (hts (.fieldLink RX1 32 "MeanLocks$Locks" "waited" "[I") (List.mem_of_getElem? (i := 4) rfl)) (fun _ h9 => h9) rfl dX1_endPatience_44 ?_
          refine lv_iload hx hb dX1_endPatience_47 (lv_at hl 0 rfl) ?_
          obtain ⟨hi, h1⟩ := ax_some h1
          refine va_iald hx hb hK hP 7 0 rfl rfl hi dX1_endPatience_49 ?_
          refine lv_iload_n hx hb dX1_endPatience_50 rfl (lv_at hl 3 rfl) ?_
          refine lv_icmp_lt (tgt := 60) hx hb dX1_endPatience_51 (by decide) (fun hc => ?_) (fun hc => ?_)
          · have h1 := it_t h1 hc
            obtain ⟨v9, ev9, h1⟩ := nm_some h1
            refine lv_iinc (v := v9) (lv' := [(3, .int v9), (4, .int v6), (2, .int v2), (1, .int v1), (0, .ref h)]) hx hb dX1_endPatience_60 hl (k := 1) rfl (by rw [ev9]; rfl) (by decide) rfl (fun ls hl => ?_)
            refine lv_goto (tgt := 16) hx hb dX1_endPatience_63 (by decide) ?_
            have hc := lp_l h1 hz1
            exact ih1 v9 s7 hc _ _ hP hD hS ls (lv_sub hl [0, 2, 3, 4] rfl)
          · have h1 := it_f h1 hc
            refine lv_aload_n hx hb dX1_endPatience_54 rfl (lv_at hl 4 rfl) ?_
            refine lv_iload hx hb dX1_endPatience_55 (lv_at hl 0 rfl) ?_
            obtain ⟨s11, hf2, h1⟩ := bnd_some h1
            refine x_VV (As := [.int v6]) (rest := []) hC (kX1_quitRow l dC dI cA h ad v6 s7 s11 hf2) (cwV 1 hts gX1_endPatience_X1_quitRow rfl rfl rfl (by decide +kernel) ⟨Nat.le_of_ble_eq_true rfl, Nat.le_of_ble_eq_true rfl⟩) 0 1 hV hN hK hP hD hS hA rfl rfl rfl rfl hl.1 rfl (Nat.le_of_ble_eq_true rfl) ⟨Nat.zero_le _, Nat.zero_le _⟩ dX1_endPatience_57 (fun H locs hP hD hS => ?_)
            obtain ⟨v12, ev12, h1⟩ := nm_some h1
            refine lv_iinc (v := v12) (lv' := [(3, .int v12), (4, .int v6), (2, .int v2), (1, .int v1), (0, .ref h)]) hx hb dX1_endPatience_60 hl (k := 1) rfl (by rw [ev12]; rfl) (by decide) rfl (fun ls hl => ?_)
            refine lv_goto (tgt := 16) hx hb dX1_endPatience_63 (by decide) ?_
            have hc := lp_l h1 hz1
            exact ih1 v12 s11 hc _ _ hP hD hS ls (lv_sub hl [0, 2, 3, 4] rfl)
  exact LP1 FU v3 σ hl1 _ _ hP hD hS ls hl
def fX1_isStart (a1 : Int32) (a2 : Int32) (σ : St) : Option Int32 := bnd (fX1_kindAt a1 a2 σ) fun r1 => if (r1 : Int32) = (0 : Int32) then (some (0 : Int32)) else (if (a2 : Int32) = (0 : Int32) then (some (1 : Int32)) else (bnd (fX1_kindAt a1 (a2 - (1 : Int32)) σ) fun r2 => if (r2 : Int32) = r1 then (some (0 : Int32)) else (some (1 : Int32))))
abbrev rmX1_isStart : Room := { frames := 1, cells := 0, slots := 0, locals := 23 }
set_option maxHeartbeats 4000000 in
set_option maxRecDepth 100000 in
theorem kX1_isStart (l : Launch) (dC : Nat → ClassId) (dI : Nat → Nat → Nat) (cA : Nat → ClassId) (h : Nat) (ad : Nat → Nat) (a1 : Int32) (a2 : Int32) (σ : St) (R0 : Int32) (h0 : fX1_isStart a1 a2 σ = some R0) : CI l yX1_isStart wsX1_isStart rmX1_isStart (dC, dI) vwCl (tysW cA) [.ref h, .int a1, .int a2] (wL cA h ad σ) R0 (wL cA h ad σ) := by
  refine CGI_of (cc := cX1_isStart) (nL := 4) (ret := (some .boolean)) (by decide) rfl (Nat.le_of_ble_eq_true rfl) ?_
  intro p e s m av below meth c A ls H locs hC hl
  obtain ⟨hC, hr, hlocks, hV, hN, hK, hP, hD, hS, hA⟩ := hC
  have hC : CallFix p m c cX1_isStart 4 s _ wsX1_isStart RX1 := hC
  obtain ⟨hx, hb, hml, hown, hts⟩ := id hC
  have hin0 : ∀ w ∈ u_ws RX1 TX1 16, w ∈ wsX1_isStart := fun _ h => (List.mem_cons_of_mem _ (List.mem_append_right _ h))
  have hl : lv_has ls 4 [(0, .ref h), (1, .int a1), (2, .int a2)] := hl
  unfold fX1_isStart at h0
  refine lv_aload_n hx hb dX1_isStart_0 rfl (lv_at hl 0 rfl) ?_
  refine lv_iload_n hx hb dX1_isStart_1 rfl (lv_at hl 1 rfl) ?_
  refine lv_iload_n hx hb dX1_isStart_2 rfl (lv_at hl 2 rfl) ?_
  obtain ⟨r1, hf1, h0⟩ := bnd_some h0
  refine x_VI (As := [.int a1, .int a2]) (rest := []) hC (kX1_kindAt l dC dI cA h ad a1 a2 σ r1  hf1) (cwV 2 hts gX1_isStart_X1_kindAt rfl rfl rfl (by decide +kernel) ⟨Nat.le_of_ble_eq_true rfl, Nat.le_of_ble_eq_true rfl⟩) 0 1 hV hN hK hP hD hS hA rfl rfl rfl rfl hl.1 rfl (Nat.le_of_ble_eq_true rfl) ⟨Nat.zero_le _, Nat.zero_le _⟩ dX1_isStart_3 (fun H locs hP hD hS => ?_)
  refine lv_istore_n (lv' := [(3, .int r1), (0, .ref h), (1, .int a1), (2, .int a2)]) hx hb dX1_isStart_6 rfl hl (by decide) rfl (fun ls hl => ?_)
  refine lv_iload_n hx hb dX1_isStart_7 rfl (lv_at hl 0 rfl) ?_
  refine lv_if_eq (tgt := 31) hx hb dX1_isStart_8 (by decide) (fun hc => ?_) (fun hc => ?_)
  · have h0 := it_t h0 hc
    refine lv_iconst (v := (0 : Int32)) hx hb dX1_isStart_31 (by decide) ?_
    have e1 := Option.some.inj h0
    exact x_retI hC hr hlocks rfl hP hD hS dX1_isStart_32 ⟨e1, rfl⟩
  · have h0 := it_f h0 hc
    refine lv_iload_n hx hb dX1_isStart_11 rfl (lv_at hl 3 rfl) ?_
    refine lv_if_eq (tgt := 27) hx hb dX1_isStart_12 (by decide) (fun hc => ?_) (fun hc => ?_)
    · have h0 := it_t h0 hc
      refine lv_iconst (v := (1 : Int32)) hx hb dX1_isStart_27 (by decide) ?_
      refine lv_goto (tgt := 32) hx hb dX1_isStart_28 (by decide) ?_
      have e1 := Option.some.inj h0
      exact x_retI hC hr hlocks rfl hP hD hS dX1_isStart_32 ⟨e1, rfl⟩
    · have h0 := it_f h0 hc
      refine lv_aload_n hx hb dX1_isStart_15 rfl (lv_at hl 1 rfl) ?_
      refine lv_iload_n hx hb dX1_isStart_16 rfl (lv_at hl 2 rfl) ?_
      refine lv_iload_n hx hb dX1_isStart_17 rfl (lv_at hl 3 rfl) ?_
      refine lv_iconst (v := (1 : Int32)) hx hb dX1_isStart_18 (by decide) ?_
      refine lv_isub hx hb dX1_isStart_19 ?_
      obtain ⟨r2, hf2, h0⟩ := bnd_some h0
      refine x_VI (As := [.int a1, .int (a2 - (1 : Int32))]) (rest := []) hC (kX1_kindAt l dC dI cA h ad a1 (a2 - (1 : Int32)) σ r2  hf2) (cwV 2 hts gX1_isStart_X1_kindAt rfl rfl rfl (by decide +kernel) ⟨Nat.le_of_ble_eq_true rfl, Nat.le_of_ble_eq_true rfl⟩) 0 1 hV hN hK hP hD hS hA rfl rfl rfl rfl hl.1 rfl (Nat.le_of_ble_eq_true rfl) ⟨Nat.zero_le _, Nat.zero_le _⟩ dX1_isStart_20 (fun H locs hP hD hS => ?_)
      refine lv_iload_n hx hb dX1_isStart_23 rfl (lv_at hl 0 rfl) ?_
      refine lv_icmp_eq (tgt := 31) hx hb dX1_isStart_24 (by decide) (fun hc => ?_) (fun hc => ?_)
      · have h0 := it_t h0 hc
        refine lv_iconst (v := (0 : Int32)) hx hb dX1_isStart_31 (by decide) ?_
        have e1 := Option.some.inj h0
        exact x_retI hC hr hlocks rfl hP hD hS dX1_isStart_32 ⟨e1, rfl⟩
      · have h0 := it_f h0 hc
        refine lv_iconst (v := (1 : Int32)) hx hb dX1_isStart_27 (by decide) ?_
        refine lv_goto (tgt := 32) hx hb dX1_isStart_28 (by decide) ?_
        have e1 := Option.some.inj h0
        exact x_retI hC hr hlocks rfl hP hD hS dX1_isStart_32 ⟨e1, rfl⟩
def bX1_lengthOfStretch_12 (a1 : Int32) (σ : St) (r1 : Int32) (x3 : Int32) : Option (Int32 ⊕ Int32) := if (300 : Int32) ≤ x3 then (some (.inr x3)) else (bnd (fX1_kindAt a1 x3 σ) fun r4 => if (r4 : Int32) = r1 then (nm (x3 + (1 : Int32)) fun v5 => some (.inl v5)) else (some (.inr x3)))
def fX1_lengthOfStretch (a1 : Int32) (a2 : Int32) (σ : St) : Option Int32 := bnd (fX1_kindAt a1 a2 σ) fun r1 => nm (a2 + (1 : Int32)) fun v2 => bnd (lp (fun t : Int32 => bX1_lengthOfStretch_12 a1 σ r1 t) FU v2) (fun e : Int32 => nm e fun x6 => some (x6 - a2))
abbrev rmX1_lengthOfStretch : Room := { frames := 1, cells := 0, slots := 0, locals := 23 }
set_option maxHeartbeats 4000000 in
set_option maxRecDepth 100000 in
theorem kX1_lengthOfStretch (l : Launch) (dC : Nat → ClassId) (dI : Nat → Nat → Nat) (cA : Nat → ClassId) (h : Nat) (ad : Nat → Nat) (a1 : Int32) (a2 : Int32) (σ : St) (R0 : Int32) (h0 : fX1_lengthOfStretch a1 a2 σ = some R0) : CI l yX1_lengthOfStretch wsX1_lengthOfStretch rmX1_lengthOfStretch (dC, dI) vwCl (tysW cA) [.ref h, .int a1, .int a2] (wL cA h ad σ) R0 (wL cA h ad σ) := by
  refine CGI_of (cc := cX1_lengthOfStretch) (nL := 5) (ret := (some .int)) (by decide) rfl (Nat.le_of_ble_eq_true rfl) ?_
  intro p e s m av below meth c A ls H locs hC hl
  obtain ⟨hC, hr, hlocks, hV, hN, hK, hP, hD, hS, hA⟩ := hC
  have hC : CallFix p m c cX1_lengthOfStretch 5 s _ wsX1_lengthOfStretch RX1 := hC
  obtain ⟨hx, hb, hml, hown, hts⟩ := id hC
  have hin0 : ∀ w ∈ u_ws RX1 TX1 16, w ∈ wsX1_lengthOfStretch := fun _ h => (List.mem_cons_of_mem _ (List.mem_append_right _ h))
  have hl : lv_has ls 5 [(0, .ref h), (1, .int a1), (2, .int a2)] := hl
  unfold fX1_lengthOfStretch at h0
  refine lv_aload_n hx hb dX1_lengthOfStretch_0 rfl (lv_at hl 0 rfl) ?_
  refine lv_iload_n hx hb dX1_lengthOfStretch_1 rfl (lv_at hl 1 rfl) ?_
  refine lv_iload_n hx hb dX1_lengthOfStretch_2 rfl (lv_at hl 2 rfl) ?_
  obtain ⟨r1, hf1, h0⟩ := bnd_some h0
  refine x_VI (As := [.int a1, .int a2]) (rest := []) hC (kX1_kindAt l dC dI cA h ad a1 a2 σ r1  hf1) (cwV 2 hts gX1_lengthOfStretch_X1_kindAt rfl rfl rfl (by decide +kernel) ⟨Nat.le_of_ble_eq_true rfl, Nat.le_of_ble_eq_true rfl⟩) 0 1 hV hN hK hP hD hS hA rfl rfl rfl rfl hl.1 rfl (Nat.le_of_ble_eq_true rfl) ⟨Nat.zero_le _, Nat.zero_le _⟩ dX1_lengthOfStretch_3 (fun H locs hP hD hS => ?_)
  refine lv_istore_n (lv' := [(3, .int r1), (0, .ref h), (1, .int a1), (2, .int a2)]) hx hb dX1_lengthOfStretch_6 rfl hl (by decide) rfl (fun ls hl => ?_)
  refine lv_iload_n hx hb dX1_lengthOfStretch_7 rfl (lv_at hl 3 rfl) ?_
  refine lv_iconst (v := (1 : Int32)) hx hb dX1_lengthOfStretch_8 (by decide) ?_
  refine lv_iadd hx hb dX1_lengthOfStretch_9 ?_
  refine lv_topi (fun v2 ev2 => ?_)
  have h0 := nm_at ev2 h0
  refine lv_istore (lv' := [(4, .int v2), (3, .int r1), (0, .ref h), (1, .int a1), (2, .int a2)]) hx hb dX1_lengthOfStretch_10 hl (by decide) rfl (fun ls hl => ?_)
  obtain ⟨ε2, hl2, h0⟩ := bnd_some h0
  have KN2 : ∀ (x6 : Int32), ε2 = x6 → ∀ (H : Heap) (locs : List Loc), va_P (dC, dI) vwCl (wL cA h ad σ) H → va_D A (wL cA h ad σ) → va_S A s.heap H locs → ∀ (ls : Array Slot), lv_has ls 5 [(4, .int x6), (3, .int r1), (0, .ref h), (1, .int a1), (2, .int a2)] → W p l e (headSpec wsX1_lengthOfStretch rmX1_lengthOfStretch).room s m av below meth c H locs 0 0 (MQ below (qI (dC, dI) A R0 (wL cA h ad σ)) av s 0 0 A) (F0 m 37 ls []) := by
    intro x6 hε H locs hP hD hS ls hl
    rw [hε] at h0
    have h0 := nm_at (z := x6) rfl h0
    refine lv_iload hx hb dX1_lengthOfStretch_37 (lv_at hl 0 rfl) ?_
    refine lv_iload_n hx hb dX1_lengthOfStretch_39 rfl (lv_at hl 4 rfl) ?_
    refine lv_isub hx hb dX1_lengthOfStretch_40 ?_
    have e1 := Option.some.inj h0
    exact x_retI hC hr hlocks rfl hP hD hS dX1_lengthOfStretch_41 ⟨e1, rfl⟩
  have LP2 : ∀ (n : Nat) (x3 : Int32), lp (fun t : Int32 => bX1_lengthOfStretch_12 a1 σ r1 t) n x3 = some ε2 → ∀ (H : Heap) (locs : List Loc), va_P (dC, dI) vwCl (wL cA h ad σ) H → va_D A (wL cA h ad σ) → va_S A s.heap H locs → ∀ (ls : Array Slot), lv_has ls 5 [(4, .int x3), (3, .int r1), (0, .ref h), (1, .int a1), (2, .int a2)] → W p l e (headSpec wsX1_lengthOfStretch rmX1_lengthOfStretch).room s m av below meth c H locs 0 0 (MQ below (qI (dC, dI) A R0 (wL cA h ad σ)) av s 0 0 A) (F0 m 12 ls []) := by
    intro n
    induction n with
    | zero => intro x3 hl0; exact (lp_0 hl0).elim
    | succ n ih2 =>
      intro x3 hl0 H locs hP hD hS ls hl
      obtain ⟨z2, h1, hz2⟩ := lp_s hl0
      have h1 : bX1_lengthOfStretch_12 a1 σ r1 x3 = some z2 := h1
      unfold bX1_lengthOfStretch_12 at h1
      refine lv_iload hx hb dX1_lengthOfStretch_12 (lv_at hl 0 rfl) ?_
      refine lv_sipush (v := (300 : Int32)) hx hb dX1_lengthOfStretch_14 (by decide) ?_
      refine lv_icmp_ge (tgt := 37) hx hb dX1_lengthOfStretch_17 (by decide) (fun hc => ?_) (fun hc => ?_)
      · have h1 := it_t h1 hc
        have he := lp_r h1 hz2
        exact KN2 x3 he _ _ hP hD hS ls (lv_sub hl [0, 1, 2, 3, 4] rfl)
      · have h1 := it_f h1 hc
        refine lv_aload_n hx hb dX1_lengthOfStretch_20 rfl (lv_at hl 2 rfl) ?_
        refine lv_iload_n hx hb dX1_lengthOfStretch_21 rfl (lv_at hl 3 rfl) ?_
        refine lv_iload hx hb dX1_lengthOfStretch_22 (lv_at hl 0 rfl) ?_
        obtain ⟨r4, hf3, h1⟩ := bnd_some h1
        refine x_VI (As := [.int a1, .int x3]) (rest := []) hC (kX1_kindAt l dC dI cA h ad a1 x3 σ r4  hf3) (cwV 2 hts gX1_lengthOfStretch_X1_kindAt rfl rfl rfl (by decide +kernel) ⟨Nat.le_of_ble_eq_true rfl, Nat.le_of_ble_eq_true rfl⟩) 0 1 hV hN hK hP hD hS hA rfl rfl rfl rfl hl.1 rfl (Nat.le_of_ble_eq_true rfl) ⟨Nat.zero_le _, Nat.zero_le _⟩ dX1_lengthOfStretch_24 (fun H locs hP hD hS => ?_)
        refine lv_iload_n hx hb dX1_lengthOfStretch_27 rfl (lv_at hl 1 rfl) ?_
        refine lv_icmp_ne (tgt := 37) hx hb dX1_lengthOfStretch_28 (by decide) (fun hc => ?_) (fun hc => ?_)
        · have h1 := it_f h1 hc
          have he := lp_r h1 hz2
          exact KN2 x3 he _ _ hP hD hS ls (lv_sub hl [0, 1, 2, 3, 4] rfl)
        · have h1 := it_t h1 hc
          obtain ⟨v5, ev5, h1⟩ := nm_some h1
          refine lv_iinc (v := v5) (lv' := [(4, .int v5), (3, .int r1), (0, .ref h), (1, .int a1), (2, .int a2)]) hx hb dX1_lengthOfStretch_31 hl (k := 0) rfl (by rw [ev5]; rfl) (by decide) rfl (fun ls hl => ?_)
          refine lv_goto (tgt := 12) hx hb dX1_lengthOfStretch_34 (by decide) ?_
          have hc := lp_l h1 hz2
          exact ih2 v5 hc _ _ hP hD hS ls (lv_sub hl [0, 1, 2, 3, 4] rfl)
  exact LP2 FU v2 hl2 _ _ hP hD hS ls hl
def bX1_pass_22 (a1 : Int32) (x2 : Int32) (s3 : St) : Option ((Int32 × St) ⊕ (Int32 × St)) := if a1 ≤ x2 then (some (.inr (x2, s3))) else (bn2 (fX1_endPatience  s3) fun r4 s5 => if (r4 : Int32) = (0 : Int32) then (nm (put s5 1 (fun _ => (s5 1 0) + (1 : Int32))) fun s6 => nm (x2 + (1 : Int32)) fun v7 => some (.inl (v7, s6))) else (bn2 (fX1_goThroughRow  s5) fun r8 s9 => nm (put s9 1 (fun _ => (s9 1 0) + (1 : Int32))) fun s10 => nm (x2 + (1 : Int32)) fun v11 => some (.inl (v11, s10))))
def fX1_pass (a1 : Int32) (σ : St) : Option (Int32 × St) := if (a1 : Int32) < (1 : Int32) then (some ((-2 : Int32), σ)) else (if (a1 : Int32) ≤ (300 : Int32) then (nm (σ 13 0) fun v1 => bnd (lp (fun t : (Int32 × St) => bX1_pass_22 a1 t.1 t.2) FU ((0 : Int32), σ)) (fun e : (Int32 × St) => nm e.1 fun x12 => nm e.2 fun s13 => some ((s13 13 0) - v1, s13))) else (some ((-2 : Int32), σ)))
abbrev rmX1_pass : Room := { frames := 4, cells := 0, slots := 0, locals := 106 }
set_option maxHeartbeats 4000000 in
set_option maxRecDepth 100000 in
theorem kX1_pass (l : Launch) (dC : Nat → ClassId) (dI : Nat → Nat → Nat) (cA : Nat → ClassId) (h : Nat) (ad : Nat → Nat) (a1 : Int32) (σ : St) (R0 : Int32) (σ' : St) (h0 : fX1_pass a1 σ = some (R0, σ')) : CI l yX1_pass wsX1_pass rmX1_pass (dC, dI) vwCl (tysW cA) [.ref h, .int a1] (wL cA h ad σ) R0 (wL cA h ad σ') := by
  refine CGI_of (cc := cX1_pass) (nL := 4) (ret := (some .int)) (by decide) rfl (Nat.le_of_ble_eq_true rfl) ?_
  intro p e s m av below meth c A ls H locs hC hl
  obtain ⟨hC, hr, hlocks, hV, hN, hK, hP, hD, hS, hA⟩ := hC
  have hC : CallFix p m c cX1_pass 4 s _ wsX1_pass RX1 := hC
  obtain ⟨hx, hb, hml, hown, hts⟩ := id hC
  have hin0 : ∀ w ∈ u_ws RX1 TX1 16, w ∈ wsX1_pass := fun _ h => (List.mem_cons_of_mem _ (List.mem_append_right _ h))
  have hl : lv_has ls 4 [(0, .ref h), (1, .int a1)] := hl
  unfold fX1_pass at h0
  refine lv_iload_n hx hb dX1_pass_0 rfl (lv_at hl 1 rfl) ?_
  refine lv_iconst (v := (1 : Int32)) hx hb dX1_pass_1 (by decide) ?_
  refine lv_icmp_lt (tgt := 12) hx hb dX1_pass_2 (by decide) (fun hc => ?_) (fun hc => ?_)
  · have h0 := it_t h0 hc
    refine lv_bipush (v := (-2 : Int32)) hx hb dX1_pass_12 (by decide) ?_
    obtain ⟨e1, e2⟩ := Prod.mk.inj (Option.some.inj h0)
    exact x_retI hC hr hlocks rfl hP hD hS dX1_pass_14 ⟨e1, by rw [← e2]⟩
  · have h0 := it_f h0 hc
    refine lv_iload_n hx hb dX1_pass_5 rfl (lv_at hl 1 rfl) ?_
    refine lv_sipush (v := (300 : Int32)) hx hb dX1_pass_6 (by decide) ?_
    refine lv_icmp_le (tgt := 15) hx hb dX1_pass_9 (by decide) (fun hc => ?_) (fun hc => ?_)
    · have h0 := it_t h0 hc
      refine lv_aload_n hx hb dX1_pass_15 rfl (lv_at hl 0 rfl) ?_
      refine va_get (D := (dC, dI)) (ci := 1) (v := .int (σ 13 0)) (C := RX1) (T := TX1) (N := 16) hx hb hts hin0 hown hK hP 0 rfl rfl 13 (by decide) (hts (.fieldLink RX1 57 "MeanLocks$Locks" "gone" "I") (List.mem_of_getElem? (i := 1) rfl)) (fun _ h9 => h9) rfl dX1_pass_16 ?_
      refine lv_topi (fun v1 ev1 => ?_)
      have h0 := nm_at ev1 h0
      refine lv_istore_n (lv' := [(2, .int v1), (0, .ref h), (1, .int a1)]) hx hb dX1_pass_19 rfl hl (by decide) rfl (fun ls hl => ?_)
      refine lv_iconst (v := (0 : Int32)) hx hb dX1_pass_20 (by decide) ?_
      refine lv_istore_n (lv' := [(3, .int (0 : Int32)), (2, .int v1), (0, .ref h), (1, .int a1)]) hx hb dX1_pass_21 rfl hl (by decide) rfl (fun ls hl => ?_)
      obtain ⟨ε1, hl1, h0⟩ := bnd_some h0
      have KN1 : ∀ (x12 : Int32) (s13 : St), ε1 = (x12, s13) → ∀ (H : Heap) (locs : List Loc), va_P (dC, dI) vwCl (wL cA h ad s13) H → va_D A (wL cA h ad s13) → va_S A s.heap H locs → ∀ (ls : Array Slot), lv_has ls 4 [(3, .int x12), (2, .int v1), (0, .ref h), (1, .int a1)] → W p l e (headSpec wsX1_pass rmX1_pass).room s m av below meth c H locs 0 0 (MQ below (qI (dC, dI) A R0 (wL cA h ad σ')) av s 0 0 A) (F0 m 55 ls []) := by
        intro x12 s13 hε H locs hP hD hS ls hl
        rw [hε] at h0
        have h0 := nm_at (z := x12) rfl h0
        have h0 := nm_at (z := s13) rfl h0
        refine lv_aload_n hx hb dX1_pass_55 rfl (lv_at hl 2 rfl) ?_
        refine va_get (D := (dC, dI)) (ci := 1) (v := .int (s13 13 0)) (C := RX1) (T := TX1) (N := 16) hx hb hts hin0 hown hK hP 0 rfl rfl 13 (by decide) (hts (.fieldLink RX1 57 "MeanLocks$Locks" "gone" "I") (List.mem_of_getElem? (i := 1) rfl)) (fun _ h9 => h9) rfl dX1_pass_56 ?_
        refine lv_iload_n hx hb dX1_pass_59 rfl (lv_at hl 1 rfl) ?_
        refine lv_isub hx hb dX1_pass_60 ?_
        obtain ⟨e1, e2⟩ := Prod.mk.inj (Option.some.inj h0)
        exact x_retI hC hr hlocks rfl hP hD hS dX1_pass_61 ⟨e1, by rw [← e2]⟩
      have LP1 : ∀ (n : Nat) (x2 : Int32) (s3 : St), lp (fun t : (Int32 × St) => bX1_pass_22 a1 t.1 t.2) n (x2, s3) = some ε1 → ∀ (H : Heap) (locs : List Loc), va_P (dC, dI) vwCl (wL cA h ad s3) H → va_D A (wL cA h ad s3) → va_S A s.heap H locs → ∀ (ls : Array Slot), lv_has ls 4 [(3, .int x2), (2, .int v1), (0, .ref h), (1, .int a1)] → W p l e (headSpec wsX1_pass rmX1_pass).room s m av below meth c H locs 0 0 (MQ below (qI (dC, dI) A R0 (wL cA h ad σ')) av s 0 0 A) (F0 m 22 ls []) := by
        intro n
        induction n with
        | zero => intro x2 s3 hl0; exact (lp_0 hl0).elim
        | succ n ih1 =>
          intro x2 s3 hl0 H locs hP hD hS ls hl
          obtain ⟨z1, h1, hz1⟩ := lp_s hl0
          have h1 : bX1_pass_22 a1 x2 s3 = some z1 := h1
          unfold bX1_pass_22 at h1
          refine lv_iload_n hx hb dX1_pass_22 rfl (lv_at hl 0 rfl) ?_
          refine lv_iload_n hx hb dX1_pass_23 rfl (lv_at hl 3 rfl) ?_
          refine lv_icmp_ge (tgt := 55) hx hb dX1_pass_24 (by decide) (fun hc => ?_) (fun hc => ?_)
          · have h1 := it_t h1 hc
            have he := lp_r h1 hz1
            exact KN1 x2 s3 he _ _ hP hD hS ls (lv_sub hl [0, 1, 2, 3] rfl)
          · have h1 := it_f h1 hc
            refine lv_aload_n hx hb dX1_pass_27 rfl (lv_at hl 2 rfl) ?_
            obtain ⟨r4, s5, hf2, h1⟩ := bn2_some h1
            refine x_VI (As := []) (rest := []) hC (kX1_endPatience l dC dI cA h ad s3 r4 s5 hf2) (cwV 0 hts gX1_pass_X1_endPatience rfl rfl rfl (by decide +kernel) ⟨Nat.le_of_ble_eq_true rfl, Nat.le_of_ble_eq_true rfl⟩) 0 1 hV hN hK hP hD hS hA rfl rfl rfl rfl hl.1 rfl (Nat.le_of_ble_eq_true rfl) ⟨Nat.zero_le _, Nat.zero_le _⟩ dX1_pass_28 (fun H locs hP hD hS => ?_)
            refine lv_if_eq (tgt := 39) hx hb dX1_pass_31 (by decide) (fun hc => ?_) (fun hc => ?_)
            · have h1 := it_t h1 hc
              refine lv_aload_n hx hb dX1_pass_39 rfl (lv_at hl 2 rfl) ?_
              refine lv_dup hx hb dX1_pass_40 rfl ?_
              refine va_get (D := (dC, dI)) (ci := 1) (v := .int (s5 1 0)) (C := RX1) (T := TX1) (N := 16) hx hb hts hin0 hown hK hP 0 rfl rfl 1 (by decide) (hts (.fieldLink RX1 50 "MeanLocks$Locks" "tick" "I") (List.mem_of_getElem? (i := 2) rfl)) (fun _ h9 => h9) rfl dX1_pass_41 ?_
              refine lv_iconst (v := (1 : Int32)) hx hb dX1_pass_44 (by decide) ?_
              refine lv_iadd hx hb dX1_pass_45 ?_
              obtain ⟨s6, es6, h1⟩ := nm_some h1
              refine x_put (D := (dC, dI)) (ws' := wL cA h ad s6) (ci := 1) (fs := [.ref (ad 0), .int (s5 1 0), .ref (ad 2), .ref (ad 3), .int (s5 4 0), .ref (ad 5), .ref (ad 6), .ref (ad 7), .ref (ad 8), .ref (ad 9), .ref (ad 10), .ref (ad 11), .ref (ad 12), .int (s5 13 0), .int (s5 14 0), .ref (ad 15)]) (v := .int ((s5 1 0) + (1 : Int32))) (ty := .int) (C := RX1) (T := TX1) (N := 16) hC hin0 tyX1 tyX1_ok nmX1 hK hP hD hS 0 rfl rfl 1 (by decide) (hts (.fieldLink RX1 50 "MeanLocks$Locks" "tick" "I") (List.mem_of_getElem? (i := 2) rfl)) rfl rfl rfl rfl (by decide +kernel) (Nat.le_of_ble_eq_true rfl) (by rw [es6]; exact wL_s1 _ _ _ _ _) dX1_pass_46 (fun H locs hP hD hS => ?_)
              obtain ⟨v7, ev7, h1⟩ := nm_some h1
              refine lv_iinc (v := v7) (lv' := [(3, .int v7), (2, .int v1), (0, .ref h), (1, .int a1)]) hx hb dX1_pass_49 hl (k := 0) rfl (by rw [ev7]; rfl) (by decide) rfl (fun ls hl => ?_)
              refine lv_goto (tgt := 22) hx hb dX1_pass_52 (by decide) ?_
              have hc := lp_l h1 hz1
              exact ih1 v7 s6 hc _ _ hP hD hS ls (lv_sub hl [0, 1, 2, 3] rfl)
            · have h1 := it_f h1 hc
              refine lv_aload_n hx hb dX1_pass_34 rfl (lv_at hl 2 rfl) ?_
              obtain ⟨r8, s9, hf3, h1⟩ := bn2_some h1
              refine x_VI (As := []) (rest := []) hC (kX1_goThroughRow l dC dI cA h ad s5 r8 s9 hf3) (cwV 0 hts gX1_pass_X1_goThroughRow rfl rfl rfl (by decide +kernel) ⟨Nat.le_of_ble_eq_true rfl, Nat.le_of_ble_eq_true rfl⟩) 0 1 hV hN hK hP hD hS hA rfl rfl rfl rfl hl.1 rfl (Nat.le_of_ble_eq_true rfl) ⟨Nat.zero_le _, Nat.zero_le _⟩ dX1_pass_35 (fun H locs hP hD hS => ?_)
              refine lv_pop hx hb dX1_pass_38 rfl ?_
              refine lv_aload_n hx hb dX1_pass_39 rfl (lv_at hl 2 rfl) ?_
              refine lv_dup hx hb dX1_pass_40 rfl ?_
              refine va_get (D := (dC, dI)) (ci := 1) (v := .int (s9 1 0)) (C := RX1) (T := TX1) (N := 16) hx hb hts hin0 hown hK hP 0 rfl rfl 1 (by decide) (hts (.fieldLink RX1 50 "MeanLocks$Locks" "tick" "I") (List.mem_of_getElem? (i := 2) rfl)) (fun _ h9 => h9) rfl dX1_pass_41 ?_
              refine lv_iconst (v := (1 : Int32)) hx hb dX1_pass_44 (by decide) ?_
              refine lv_iadd hx hb dX1_pass_45 ?_
              obtain ⟨s10, es10, h1⟩ := nm_some h1
              refine x_put (D := (dC, dI)) (ws' := wL cA h ad s10) (ci := 1) (fs := [.ref (ad 0), .int (s9 1 0), .ref (ad 2), .ref (ad 3), .int (s9 4 0), .ref (ad 5), .ref (ad 6), .ref (ad 7), .ref (ad 8), .ref (ad 9), .ref (ad 10), .ref (ad 11), .ref (ad 12), .int (s9 13 0), .int (s9 14 0), .ref (ad 15)]) (v := .int ((s9 1 0) + (1 : Int32))) (ty := .int) (C := RX1) (T := TX1) (N := 16) hC hin0 tyX1 tyX1_ok nmX1 hK hP hD hS 0 rfl rfl 1 (by decide) (hts (.fieldLink RX1 50 "MeanLocks$Locks" "tick" "I") (List.mem_of_getElem? (i := 2) rfl)) rfl rfl rfl rfl (by decide +kernel) (Nat.le_of_ble_eq_true rfl) (by rw [es10]; exact wL_s1 _ _ _ _ _) dX1_pass_46 (fun H locs hP hD hS => ?_)
              obtain ⟨v11, ev11, h1⟩ := nm_some h1
              refine lv_iinc (v := v11) (lv' := [(3, .int v11), (2, .int v1), (0, .ref h), (1, .int a1)]) hx hb dX1_pass_49 hl (k := 0) rfl (by rw [ev11]; rfl) (by decide) rfl (fun ls hl => ?_)
              refine lv_goto (tgt := 22) hx hb dX1_pass_52 (by decide) ?_
              have hc := lp_l h1 hz1
              exact ih1 v11 s10 hc _ _ hP hD hS ls (lv_sub hl [0, 1, 2, 3] rfl)
      exact LP1 FU (0 : Int32) σ hl1 _ _ hP hD hS ls hl
    · have h0 := it_f h0 hc
      refine lv_bipush (v := (-2 : Int32)) hx hb dX1_pass_12 (by decide) ?_
      obtain ⟨e1, e2⟩ := Prod.mk.inj (Option.some.inj h0)
      exact x_retI hC hr hlocks rfl hP hD hS dX1_pass_14 ⟨e1, by rw [← e2]⟩
def bX1_placesLocked_4 (σ : St) (x2 : Int32) (x1 : Int32) : Option ((Int32 × Int32) ⊕ (Int32 × Int32)) := if (300 : Int32) ≤ x1 then (some (.inr (x2, x1))) else (ax (1 : Int32) 4 (ax x1 300 (if ((σ (16 + ((1 : Int32) : Int32).toNatClampNeg) (x1 : Int32).toNatClampNeg) : Int32) = (0 : Int32) then (nm (x1 + (1 : Int32)) fun v3 => some (.inl (x2, v3))) else (nm (x2 + (1 : Int32)) fun v4 => nm (x1 + (1 : Int32)) fun v5 => some (.inl (v4, v5))))))
def fX1_placesLocked (σ : St) : Option Int32 := bnd (lp (fun t : (Int32 × Int32) => bX1_placesLocked_4 σ t.1 t.2) FU ((0 : Int32), (0 : Int32))) (fun e : (Int32 × Int32) => nm e.1 fun x6 => nm e.2 fun x7 => some x6)
abbrev rmX1_placesLocked : Room := { frames := 0, cells := 0, slots := 0, locals := 0 }
set_option maxHeartbeats 4000000 in
set_option maxRecDepth 100000 in
theorem kX1_placesLocked (l : Launch) (dC : Nat → ClassId) (dI : Nat → Nat → Nat) (cA : Nat → ClassId) (h : Nat) (ad : Nat → Nat) (σ : St) (R0 : Int32) (h0 : fX1_placesLocked σ = some R0) : CI l yX1_placesLocked wsX1_placesLocked rmX1_placesLocked (dC, dI) vwCl (tysW cA) [.ref h] (wL cA h ad σ) R0 (wL cA h ad σ) := by
  refine CGI_of (cc := cX1_placesLocked) (nL := 3) (ret := (some .int)) (by decide) rfl (Nat.le_of_ble_eq_true rfl) ?_
  intro p e s m av below meth c A ls H locs hC hl
  obtain ⟨hC, hr, hlocks, hV, hN, hK, hP, hD, hS, hA⟩ := hC
  have hC : CallFix p m c cX1_placesLocked 3 s _ wsX1_placesLocked RX1 := hC
  obtain ⟨hx, hb, hml, hown, hts⟩ := id hC
  have hin0 : ∀ w ∈ u_ws RX1 TX1 16, w ∈ wsX1_placesLocked := fun _ h => (List.mem_cons_of_mem _ (List.mem_append_right _ h))
  have hl : lv_has ls 3 [(0, .ref h)] := hl
  unfold fX1_placesLocked at h0
  refine lv_iconst (v := (0 : Int32)) hx hb dX1_placesLocked_0 (by decide) ?_
  refine lv_istore_n (lv' := [(1, .int (0 : Int32)), (0, .ref h)]) hx hb dX1_placesLocked_1 rfl hl (by decide) rfl (fun ls hl => ?_)
  refine lv_iconst (v := (0 : Int32)) hx hb dX1_placesLocked_2 (by decide) ?_
  refine lv_istore_n (lv' := [(2, .int (0 : Int32)), (1, .int (0 : Int32)), (0, .ref h)]) hx hb dX1_placesLocked_3 rfl hl (by decide) rfl (fun ls hl => ?_)
  obtain ⟨ε1, hl1, h0⟩ := bnd_some h0
  have KN1 : ∀ (x6 : Int32) (x7 : Int32), ε1 = (x6, x7) → ∀ (H : Heap) (locs : List Loc), va_P (dC, dI) vwCl (wL cA h ad σ) H → va_D A (wL cA h ad σ) → va_S A s.heap H locs → ∀ (ls : Array Slot), lv_has ls 3 [(2, .int x7), (1, .int x6), (0, .ref h)] → W p l e (headSpec wsX1_placesLocked rmX1_placesLocked).room s m av below meth c H locs 0 0 (MQ below (qI (dC, dI) A R0 (wL cA h ad σ)) av s 0 0 A) (F0 m 31 ls []) := by
    intro x6 x7 hε H locs hP hD hS ls hl
    rw [hε] at h0
    have h0 := nm_at (z := x6) rfl h0
    have h0 := nm_at (z := x7) rfl h0
    refine lv_iload_n hx hb dX1_placesLocked_31 rfl (lv_at hl 1 rfl) ?_
    have e1 := Option.some.inj h0
    exact x_retI hC hr hlocks rfl hP hD hS dX1_placesLocked_32 ⟨e1, rfl⟩
  have LP1 : ∀ (n : Nat) (x2 : Int32) (x1 : Int32), lp (fun t : (Int32 × Int32) => bX1_placesLocked_4 σ t.1 t.2) n (x2, x1) = some ε1 → ∀ (H : Heap) (locs : List Loc), va_P (dC, dI) vwCl (wL cA h ad σ) H → va_D A (wL cA h ad σ) → va_S A s.heap H locs → ∀ (ls : Array Slot), lv_has ls 3 [(2, .int x1), (1, .int x2), (0, .ref h)] → W p l e (headSpec wsX1_placesLocked rmX1_placesLocked).room s m av below meth c H locs 0 0 (MQ below (qI (dC, dI) A R0 (wL cA h ad σ)) av s 0 0 A) (F0 m 4 ls []) := by
    intro n
    induction n with
    | zero => intro x2 x1 hl0; exact (lp_0 hl0).elim
    | succ n ih1 =>
      intro x2 x1 hl0 H locs hP hD hS ls hl
      obtain ⟨z1, h1, hz1⟩ := lp_s hl0
      have h1 : bX1_placesLocked_4 σ x2 x1 = some z1 := h1
      unfold bX1_placesLocked_4 at h1
      refine lv_iload_n hx hb dX1_placesLocked_4 rfl (lv_at hl 0 rfl) ?_
      refine lv_sipush (v := (300 : Int32)) hx hb dX1_placesLocked_5 (by decide) ?_
      refine lv_icmp_ge (tgt := 31) hx hb dX1_placesLocked_8 (by decide) (fun hc => ?_) (fun hc => ?_)
      · have h1 := it_t h1 hc
        have he := lp_r h1 hz1
        exact KN1 x2 x1 he _ _ hP hD hS ls (lv_sub hl [0, 1, 2] rfl)
      · have h1 := it_f h1 hc
        refine lv_aload_n hx hb dX1_placesLocked_11 rfl (lv_at hl 2 rfl) ?_
        refine va_get (D := (dC, dI)) (ci := 1) (v := .ref (ad 2)) (C := RX1) (T := TX1) (N := 16) hx hb hts hin0 hown hK hP 0 rfl rfl 2 (by decide) (hts (.fieldLink RX1 17 "MeanLocks$Locks" "atLeast" "[[I") (List.mem_of_getElem? (i := 1) rfl)) (fun _ h9 => h9) rfl dX1_placesLocked_12 ?_
        refine lv_iconst (v := (1 : Int32)) hx hb dX1_placesLocked_15 (by decide) ?_
        obtain ⟨hi2, h1⟩ := ax_some h1
        refine x_aldA hx hb hK hP 2 4 rfl rfl hi2 rfl dX1_placesLocked_16 ?_
        refine lv_iload_n hx hb dX1_placesLocked_17 rfl (lv_at hl 0 rfl) ?_
        obtain ⟨hi, h1⟩ := ax_some h1
        refine va_iald hx hb hK hP (13 + ((1 : Int32) : Int32).toNatClampNeg) 0 (wL_rg cA h ad σ hi2) rfl hi dX1_placesLocked_18 ?_
        refine lv_if_eq (tgt := 25) hx hb dX1_placesLocked_19 (by decide) (fun hc => ?_) (fun hc => ?_)
        · have h1 := it_t h1 hc
          obtain ⟨v3, ev3, h1⟩ := nm_some h1
          refine lv_iinc (v := v3) (lv' := [(2, .int v3), (1, .int x2), (0, .ref h)]) hx hb dX1_placesLocked_25 hl (k := 0) rfl (by rw [ev3]; rfl) (by decide) rfl (fun ls hl => ?_)
          refine lv_goto (tgt := 4) hx hb dX1_placesLocked_28 (by decide) ?_
          have hc := lp_l h1 hz1
          exact ih1 x2 v3 hc _ _ hP hD hS ls (lv_sub hl [0, 1, 2] rfl)
        · have h1 := it_f h1 hc
          obtain ⟨v4, ev4, h1⟩ := nm_some h1
          refine lv_iinc (v := v4) (lv' := [(1, .int v4), (2, .int x1), (0, .ref h)]) hx hb dX1_placesLocked_22 hl (k := 1) rfl (by rw [ev4]; rfl) (by decide) rfl (fun ls hl => ?_)
          obtain ⟨v5, ev5, h1⟩ := nm_some h1
          refine lv_iinc (v := v5) (lv' := [(2, .int v5), (1, .int v4), (0, .ref h)]) hx hb dX1_placesLocked_25 hl (k := 1) rfl (by rw [ev5]; rfl) (by decide) rfl (fun ls hl => ?_)
          refine lv_goto (tgt := 4) hx hb dX1_placesLocked_28 (by decide) ?_
          have hc := lp_l h1 hz1
          exact ih1 v4 v5 hc _ _ hP hD hS ls (lv_sub hl [0, 1, 2] rfl)
  exact LP1 FU (0 : Int32) (0 : Int32) hl1 _ _ hP hD hS ls hl
def bX1_placesOf_5 (a1 : Int32) (a2 : Int32) (σ : St) (x2 : Int32) (x1 : Int32) : Option ((Int32 × Int32) ⊕ (Int32 × Int32)) := if (300 : Int32) ≤ x1 then (some (.inr (x2, x1))) else (bnd (fX1_kindAt a1 x1 σ) fun r3 => if (r3 : Int32) = a2 then (nm (x2 + (1 : Int32)) fun v5 => nm (x1 + (1 : Int32)) fun v6 => some (.inl (v5, v6))) else (nm (x1 + (1 : Int32)) fun v4 => some (.inl (x2, v4))))
def fX1_placesOf (a1 : Int32) (a2 : Int32) (σ : St) : Option Int32 := bnd (lp (fun t : (Int32 × Int32) => bX1_placesOf_5 a1 a2 σ t.1 t.2) FU ((0 : Int32), (0 : Int32))) (fun e : (Int32 × Int32) => nm e.1 fun x7 => nm e.2 fun x8 => some x7)
abbrev rmX1_placesOf : Room := { frames := 1, cells := 0, slots := 0, locals := 23 }
set_option maxHeartbeats 4000000 in
set_option maxRecDepth 100000 in
theorem kX1_placesOf (l : Launch) (dC : Nat → ClassId) (dI : Nat → Nat → Nat) (cA : Nat → ClassId) (h : Nat) (ad : Nat → Nat) (a1 : Int32) (a2 : Int32) (σ : St) (R0 : Int32) (h0 : fX1_placesOf a1 a2 σ = some R0) : CI l yX1_placesOf wsX1_placesOf rmX1_placesOf (dC, dI) vwCl (tysW cA) [.ref h, .int a1, .int a2] (wL cA h ad σ) R0 (wL cA h ad σ) := by
  refine CGI_of (cc := cX1_placesOf) (nL := 5) (ret := (some .int)) (by decide) rfl (Nat.le_of_ble_eq_true rfl) ?_
  intro p e s m av below meth c A ls H locs hC hl
  obtain ⟨hC, hr, hlocks, hV, hN, hK, hP, hD, hS, hA⟩ := hC
  have hC : CallFix p m c cX1_placesOf 5 s _ wsX1_placesOf RX1 := hC
  obtain ⟨hx, hb, hml, hown, hts⟩ := id hC
  have hin0 : ∀ w ∈ u_ws RX1 TX1 16, w ∈ wsX1_placesOf := fun _ h => (List.mem_cons_of_mem _ (List.mem_append_right _ h))
  have hl : lv_has ls 5 [(0, .ref h), (1, .int a1), (2, .int a2)] := hl
  unfold fX1_placesOf at h0
  refine lv_iconst (v := (0 : Int32)) hx hb dX1_placesOf_0 (by decide) ?_
  refine lv_istore_n (lv' := [(3, .int (0 : Int32)), (0, .ref h), (1, .int a1), (2, .int a2)]) hx hb dX1_placesOf_1 rfl hl (by decide) rfl (fun ls hl => ?_)
  refine lv_iconst (v := (0 : Int32)) hx hb dX1_placesOf_2 (by decide) ?_
  refine lv_istore (lv' := [(4, .int (0 : Int32)), (3, .int (0 : Int32)), (0, .ref h), (1, .int a1), (2, .int a2)]) hx hb dX1_placesOf_3 hl (by decide) rfl (fun ls hl => ?_)
  obtain ⟨ε1, hl1, h0⟩ := bnd_some h0
  have KN1 : ∀ (x7 : Int32) (x8 : Int32), ε1 = (x7, x8) → ∀ (H : Heap) (locs : List Loc), va_P (dC, dI) vwCl (wL cA h ad σ) H → va_D A (wL cA h ad σ) → va_S A s.heap H locs → ∀ (ls : Array Slot), lv_has ls 5 [(4, .int x8), (3, .int x7), (0, .ref h), (1, .int a1), (2, .int a2)] → W p l e (headSpec wsX1_placesOf rmX1_placesOf).room s m av below meth c H locs 0 0 (MQ below (qI (dC, dI) A R0 (wL cA h ad σ)) av s 0 0 A) (F0 m 33 ls []) := by
    intro x7 x8 hε H locs hP hD hS ls hl
    rw [hε] at h0
    have h0 := nm_at (z := x7) rfl h0
    have h0 := nm_at (z := x8) rfl h0
    refine lv_iload_n hx hb dX1_placesOf_33 rfl (lv_at hl 1 rfl) ?_
    have e1 := Option.some.inj h0
    exact x_retI hC hr hlocks rfl hP hD hS dX1_placesOf_34 ⟨e1, rfl⟩
  have LP1 : ∀ (n : Nat) (x2 : Int32) (x1 : Int32), lp (fun t : (Int32 × Int32) => bX1_placesOf_5 a1 a2 σ t.1 t.2) n (x2, x1) = some ε1 → ∀ (H : Heap) (locs : List Loc), va_P (dC, dI) vwCl (wL cA h ad σ) H → va_D A (wL cA h ad σ) → va_S A s.heap H locs → ∀ (ls : Array Slot), lv_has ls 5 [(4, .int x1), (3, .int x2), (0, .ref h), (1, .int a1), (2, .int a2)] → W p l e (headSpec wsX1_placesOf rmX1_placesOf).room s m av below meth c H locs 0 0 (MQ below (qI (dC, dI) A R0 (wL cA h ad σ)) av s 0 0 A) (F0 m 5 ls []) := by
    intro n
    induction n with
    | zero => intro x2 x1 hl0; exact (lp_0 hl0).elim
    | succ n ih1 =>
      intro x2 x1 hl0 H locs hP hD hS ls hl
      obtain ⟨z1, h1, hz1⟩ := lp_s hl0
      have h1 : bX1_placesOf_5 a1 a2 σ x2 x1 = some z1 := h1
      unfold bX1_placesOf_5 at h1
      refine lv_iload hx hb dX1_placesOf_5 (lv_at hl 0 rfl) ?_
      refine lv_sipush (v := (300 : Int32)) hx hb dX1_placesOf_7 (by decide) ?_
      refine lv_icmp_ge (tgt := 33) hx hb dX1_placesOf_10 (by decide) (fun hc => ?_) (fun hc => ?_)
      · have h1 := it_t h1 hc
        have he := lp_r h1 hz1
        exact KN1 x2 x1 he _ _ hP hD hS ls (lv_sub hl [0, 1, 2, 3, 4] rfl)
      · have h1 := it_f h1 hc
        refine lv_aload_n hx hb dX1_placesOf_13 rfl (lv_at hl 2 rfl) ?_
        refine lv_iload_n hx hb dX1_placesOf_14 rfl (lv_at hl 3 rfl) ?_
        refine lv_iload hx hb dX1_placesOf_15 (lv_at hl 0 rfl) ?_
        obtain ⟨r3, hf2, h1⟩ := bnd_some h1
        refine x_VI (As := [.int a1, .int x1]) (rest := []) hC (kX1_kindAt l dC dI cA h ad a1 x1 σ r3  hf2) (cwV 2 hts gX1_placesOf_X1_kindAt rfl rfl rfl (by decide +kernel) ⟨Nat.le_of_ble_eq_true rfl, Nat.le_of_ble_eq_true rfl⟩) 0 1 hV hN hK hP hD hS hA rfl rfl rfl rfl hl.1 rfl (Nat.le_of_ble_eq_true rfl) ⟨Nat.zero_le _, Nat.zero_le _⟩ dX1_placesOf_17 (fun H locs hP hD hS => ?_)
        refine lv_iload_n hx hb dX1_placesOf_20 rfl (lv_at hl 4 rfl) ?_
        refine lv_icmp_ne (tgt := 27) hx hb dX1_placesOf_21 (by decide) (fun hc => ?_) (fun hc => ?_)
        · have h1 := it_f h1 hc
          obtain ⟨v4, ev4, h1⟩ := nm_some h1
          refine lv_iinc (v := v4) (lv' := [(4, .int v4), (3, .int x2), (0, .ref h), (1, .int a1), (2, .int a2)]) hx hb dX1_placesOf_27 hl (k := 0) rfl (by rw [ev4]; rfl) (by decide) rfl (fun ls hl => ?_)
          refine lv_goto (tgt := 5) hx hb dX1_placesOf_30 (by decide) ?_
          have hc := lp_l h1 hz1
          exact ih1 x2 v4 hc _ _ hP hD hS ls (lv_sub hl [0, 1, 2, 3, 4] rfl)
        · have h1 := it_t h1 hc
          obtain ⟨v5, ev5, h1⟩ := nm_some h1
          refine lv_iinc (v := v5) (lv' := [(3, .int v5), (4, .int x1), (0, .ref h), (1, .int a1), (2, .int a2)]) hx hb dX1_placesOf_24 hl (k := 1) rfl (by rw [ev5]; rfl) (by decide) rfl (fun ls hl => ?_)
          obtain ⟨v6, ev6, h1⟩ := nm_some h1
          refine lv_iinc (v := v6) (lv' := [(4, .int v6), (3, .int v5), (0, .ref h), (1, .int a1), (2, .int a2)]) hx hb dX1_placesOf_27 hl (k := 1) rfl (by rw [ev6]; rfl) (by decide) rfl (fun ls hl => ?_)
          refine lv_goto (tgt := 5) hx hb dX1_placesOf_30 (by decide) ?_
          have hc := lp_l h1 hz1
          exact ih1 v5 v6 hc _ _ hP hD hS ls (lv_sub hl [0, 1, 2, 3, 4] rfl)
  exact LP1 FU (0 : Int32) (0 : Int32) hl1 _ _ hP hD hS ls hl
def fX1_release (a1 : Int32) (a2 : Int32) (a3 : Int32) (σ : St) : Option (Int32 × St) := bnd (fX3_isOwner a1) fun r1 => if (r1 : Int32) = (0 : Int32) then (some ((-1 : Int32), σ)) else (bnd (fX3_isRange a2 a3) fun r2 => if (r2 : Int32) = (0 : Int32) then (some ((-2 : Int32), σ)) else (bn2 (fX1_freeRange a1 a2 a3 σ) fun r3 s4 => bn2 (fX1_goThroughRow  s4) fun r5 s6 => some (r3, s6)))
abbrev rmX1_release : Room := { frames := 4, cells := 0, slots := 0, locals := 106 }
set_option maxHeartbeats 4000000 in
set_option maxRecDepth 100000 in
theorem kX1_release (l : Launch) (dC : Nat → ClassId) (dI : Nat → Nat → Nat) (cA : Nat → ClassId) (h : Nat) (ad : Nat → Nat) (a1 : Int32) (a2 : Int32) (a3 : Int32) (σ : St) (R0 : Int32) (σ' : St) (h0 : fX1_release a1 a2 a3 σ = some (R0, σ')) : CI l yX1_release wsX1_release rmX1_release (dC, dI) vwCl (tysW cA) [.ref h, .int a1, .int a2, .int a3] (wL cA h ad σ) R0 (wL cA h ad σ') := by
  refine CGI_of (cc := cX1_release) (nL := 5) (ret := (some .int)) (by decide) rfl (Nat.le_of_ble_eq_true rfl) ?_
  intro p e s m av below meth c A ls H locs hC hl
  obtain ⟨hC, hr, hlocks, hV, hN, hK, hP, hD, hS, hA⟩ := hC
  have hC : CallFix p m c cX1_release 5 s _ wsX1_release RX1 := hC
  obtain ⟨hx, hb, hml, hown, hts⟩ := id hC
  have hin0 : ∀ w ∈ u_ws RX1 TX1 16, w ∈ wsX1_release := fun _ h => (List.mem_cons_of_mem _ (List.mem_append_right _ h))
  have hl : lv_has ls 5 [(0, .ref h), (1, .int a1), (2, .int a2), (3, .int a3)] := hl
  unfold fX1_release at h0
  refine lv_iload_n hx hb dX1_release_0 rfl (lv_at hl 1 rfl) ?_
  obtain ⟨r1, hf1, h0⟩ := bnd_some h0
  refine x_SNI (As := [.int a1]) (rest := []) hC (kX3_isOwner l dC dI cA a1 r1 hf1) ⟨va_cnB 1 hts gX1_release_X3_isOwner_n69 rfl rfl rfl (hN _ (List.mem_of_getElem? (i := 5) rfl)) (hts (.initialized RX3) (List.mem_of_getElem? (i := 2) rfl)) ⟨by decide +kernel, by decide +kernel, by decide +kernel⟩ ⟨Nat.le_of_ble_eq_true rfl, Nat.le_of_ble_eq_true rfl⟩, (hts (.static yX3_isOwner) (List.mem_of_getElem? (i := 1) rfl)), trivial⟩ hV hN hK hP hD hS hA rfl hl.1 rfl (Nat.le_of_ble_eq_true rfl) ⟨Nat.zero_le _, Nat.zero_le _⟩ dX1_release_1 (fun H locs hP hD hS => ?_)
  refine lv_if_ne (tgt := 9) hx hb dX1_release_4 (by decide) (fun hc => ?_) (fun hc => ?_)
  · have h0 := it_f h0 hc
    refine lv_iload_n hx hb dX1_release_9 rfl (lv_at hl 2 rfl) ?_
    refine lv_iload_n hx hb dX1_release_10 rfl (lv_at hl 3 rfl) ?_
    obtain ⟨r2, hf2, h0⟩ := bnd_some h0
    refine x_SNI (As := [.int a2, .int a3]) (rest := []) hC (kX3_isRange l dC dI cA a2 a3 r2 hf2) ⟨va_cnB 2 hts gX1_release_X3_isRange_n76 rfl rfl rfl (hN _ (List.mem_of_getElem? (i := 7) rfl)) (hts (.initialized RX3) (List.mem_of_getElem? (i := 2) rfl)) ⟨by decide +kernel, by decide +kernel, by decide +kernel⟩ ⟨Nat.le_of_ble_eq_true rfl, Nat.le_of_ble_eq_true rfl⟩, (hts (.static yX3_isRange) (List.mem_of_getElem? (i := 4) rfl)), trivial⟩ hV hN hK hP hD hS hA rfl hl.1 rfl (Nat.le_of_ble_eq_true rfl) ⟨Nat.zero_le _, Nat.zero_le _⟩ dX1_release_11 (fun H locs hP hD hS => ?_)
    refine lv_if_ne (tgt := 20) hx hb dX1_release_14 (by decide) (fun hc => ?_) (fun hc => ?_)
    · have h0 := it_f h0 hc
      refine lv_aload_n hx hb dX1_release_20 rfl (lv_at hl 0 rfl) ?_
      refine lv_iload_n hx hb dX1_release_21 rfl (lv_at hl 1 rfl) ?_
      refine lv_iload_n hx hb dX1_release_22 rfl (lv_at hl 2 rfl) ?_
      refine lv_iload_n hx hb dX1_release_23 rfl (lv_at hl 3 rfl) ?_
      obtain ⟨r3, s4, hf3, h0⟩ := bn2_some h0
      refine x_VI (As := [.int a1, .int a2, .int a3]) (rest := []) hC (kX1_freeRange l dC dI cA h ad a1 a2 a3 σ r3 s4 hf3) (cwV 3 hts gX1_release_X1_freeRange rfl rfl rfl (by decide +kernel) ⟨Nat.le_of_ble_eq_true rfl, Nat.le_of_ble_eq_true rfl⟩) 0 1 hV hN hK hP hD hS hA rfl rfl rfl rfl hl.1 rfl (Nat.le_of_ble_eq_true rfl) ⟨Nat.zero_le _, Nat.zero_le _⟩ dX1_release_24 (fun H locs hP hD hS => ?_)
      refine lv_istore (lv' := [(4, .int r3), (0, .ref h), (1, .int a1), (2, .int a2), (3, .int a3)]) hx hb dX1_release_27 hl (by decide) rfl (fun ls hl => ?_)
      refine lv_aload_n hx hb dX1_release_29 rfl (lv_at hl 1 rfl) ?_
      obtain ⟨r5, s6, hf4, h0⟩ := bn2_some h0
      refine x_VI (As := []) (rest := []) hC (kX1_goThroughRow l dC dI cA h ad s4 r5 s6 hf4) (cwV 0 hts gX1_release_X1_goThroughRow rfl rfl rfl (by decide +kernel) ⟨Nat.le_of_ble_eq_true rfl, Nat.le_of_ble_eq_true rfl⟩) 0 1 hV hN hK hP hD hS hA rfl rfl rfl rfl hl.1 rfl (Nat.le_of_ble_eq_true rfl) ⟨Nat.zero_le _, Nat.zero_le _⟩ dX1_release_30 (fun H locs hP hD hS => ?_)
      refine lv_pop hx hb dX1_release_33 rfl ?_
      refine lv_iload hx hb dX1_release_34 (lv_at hl 0 rfl) ?_
      obtain ⟨e1, e2⟩ := Prod.mk.inj (Option.some.inj h0)
      exact x_retI hC hr hlocks rfl hP hD hS dX1_release_36 ⟨e1, by rw [← e2]⟩
    · have h0 := it_t h0 hc
      refine lv_bipush (v := (-2 : Int32)) hx hb dX1_release_17 (by decide) ?_
      obtain ⟨e1, e2⟩ := Prod.mk.inj (Option.some.inj h0)
      exact x_retI hC hr hlocks rfl hP hD hS dX1_release_19 ⟨e1, by rw [← e2]⟩
  · have h0 := it_t h0 hc
    refine lv_iconst (v := (-1 : Int32)) hx hb dX1_release_7 (by decide) ?_
    obtain ⟨e1, e2⟩ := Prod.mk.inj (Option.some.inj h0)
    exact x_retI hC hr hlocks rfl hP hD hS dX1_release_8 ⟨e1, by rw [← e2]⟩
def bX1_startOfStretch_5 (a1 : Int32) (a2 : Int32) (σ : St) (x2 : Int32) (x1 : Int32) : Option ((Int32 × Int32) ⊕ ((Int32 × Int32) ⊕ Int32)) := if (300 : Int32) ≤ x1 then (some (.inr (.inl (x2, x1)))) else (bnd (fX1_isStart a1 x1 σ) fun r3 => if (r3 : Int32) = (0 : Int32) then (nm (x1 + (1 : Int32)) fun v4 => some (.inl (x2, v4))) else (if (x2 : Int32) = a2 then (some (.inr (.inr x1))) else (nm (x2 + (1 : Int32)) fun v5 => nm (x1 + (1 : Int32)) fun v6 => some (.inl (v5, v6)))))
def fX1_startOfStretch (a1 : Int32) (a2 : Int32) (σ : St) : Option Int32 := bnd (lp (fun t : (Int32 × Int32) => bX1_startOfStretch_5 a1 a2 σ t.1 t.2) FU ((0 : Int32), (0 : Int32))) (fun e0 : ((Int32 × Int32) ⊕ Int32) => el e0 (fun e : (Int32 × Int32) => nm e.1 fun x7 => nm e.2 fun x8 => some (-1 : Int32)) (fun r : Int32 => some r))
abbrev rmX1_startOfStretch : Room := { frames := 2, cells := 0, slots := 0, locals := 46 }
set_option maxHeartbeats 4000000 in
set_option maxRecDepth 100000 in
theorem kX1_startOfStretch (l : Launch) (dC : Nat → ClassId) (dI : Nat → Nat → Nat) (cA : Nat → ClassId) (h : Nat) (ad : Nat → Nat) (a1 : Int32) (a2 : Int32) (σ : St) (R0 : Int32) (h0 : fX1_startOfStretch a1 a2 σ = some R0) : CI l yX1_startOfStretch wsX1_startOfStretch rmX1_startOfStretch (dC, dI) vwCl (tysW cA) [.ref h, .int a1, .int a2] (wL cA h ad σ) R0 (wL cA h ad σ) := by
  refine CGI_of (cc := cX1_startOfStretch) (nL := 5) (ret := (some .int)) (by decide) rfl (Nat.le_of_ble_eq_true rfl) ?_
  intro p e s m av below meth c A ls H locs hC hl
  obtain ⟨hC, hr, hlocks, hV, hN, hK, hP, hD, hS, hA⟩ := hC
  have hC : CallFix p m c cX1_startOfStretch 5 s _ wsX1_startOfStretch RX1 := hC
  obtain ⟨hx, hb, hml, hown, hts⟩ := id hC
  have hin0 : ∀ w ∈ u_ws RX1 TX1 16, w ∈ wsX1_startOfStretch := fun _ h => (List.mem_cons_of_mem _ (List.mem_append_right _ h))
  have hl : lv_has ls 5 [(0, .ref h), (1, .int a1), (2, .int a2)] := hl
  unfold fX1_startOfStretch at h0
  refine lv_iconst (v := (0 : Int32)) hx hb dX1_startOfStretch_0 (by decide) ?_
  refine lv_istore_n (lv' := [(3, .int (0 : Int32)), (0, .ref h), (1, .int a1), (2, .int a2)]) hx hb dX1_startOfStretch_1 rfl hl (by decide) rfl (fun ls hl => ?_)
  refine lv_iconst (v := (0 : Int32)) hx hb dX1_startOfStretch_2 (by decide) ?_
  refine lv_istore (lv' := [(4, .int (0 : Int32)), (3, .int (0 : Int32)), (0, .ref h), (1, .int a1), (2, .int a2)]) hx hb dX1_startOfStretch_3 hl (by decide) rfl (fun ls hl => ?_)
  obtain ⟨ε1, hl1, h0⟩ := bnd_some h0
  have KN1 : ∀ (x7 : Int32) (x8 : Int32), ε1 = .inl (x7, x8) → ∀ (H : Heap) (locs : List Loc), va_P (dC, dI) vwCl (wL cA h ad σ) H → va_D A (wL cA h ad σ) → va_S A s.heap H locs → ∀ (ls : Array Slot), lv_has ls 5 [(4, .int x8), (3, .int x7), (0, .ref h), (1, .int a1), (2, .int a2)] → W p l e (headSpec wsX1_startOfStretch rmX1_startOfStretch).room s m av below meth c H locs 0 0 (MQ below (qI (dC, dI) A R0 (wL cA h ad σ)) av s 0 0 A) (F0 m 40 ls []) := by
    intro x7 x8 hε H locs hP hD hS ls hl
    rw [hε] at h0
    have h0 := el_l h0
    have h0 := nm_at (z := x7) rfl h0
    have h0 := nm_at (z := x8) rfl h0
    refine lv_iconst (v := (-1 : Int32)) hx hb dX1_startOfStretch_40 (by decide) ?_
    have e1 := Option.some.inj h0
    exact x_retI hC hr hlocks rfl hP hD hS dX1_startOfStretch_41 ⟨e1, rfl⟩
  have LP1 : ∀ (n : Nat) (x2 : Int32) (x1 : Int32), lp (fun t : (Int32 × Int32) => bX1_startOfStretch_5 a1 a2 σ t.1 t.2) n (x2, x1) = some ε1 → ∀ (H : Heap) (locs : List Loc), va_P (dC, dI) vwCl (wL cA h ad σ) H → va_D A (wL cA h ad σ) → va_S A s.heap H locs → ∀ (ls : Array Slot), lv_has ls 5 [(4, .int x1), (3, .int x2), (0, .ref h), (1, .int a1), (2, .int a2)] → W p l e (headSpec wsX1_startOfStretch rmX1_startOfStretch).room s m av below meth c H locs 0 0 (MQ below (qI (dC, dI) A R0 (wL cA h ad σ)) av s 0 0 A) (F0 m 5 ls []) := by
    intro n
    induction n with
    | zero => intro x2 x1 hl0; exact (lp_0 hl0).elim
    | succ n ih1 =>
      intro x2 x1 hl0 H locs hP hD hS ls hl
      obtain ⟨z1, h1, hz1⟩ := lp_s hl0
      have h1 : bX1_startOfStretch_5 a1 a2 σ x2 x1 = some z1 := h1
      unfold bX1_startOfStretch_5 at h1
      refine lv_iload hx hb dX1_startOfStretch_5 (lv_at hl 0 rfl) ?_
      refine lv_sipush (v := (300 : Int32)) hx hb dX1_startOfStretch_7 (by decide) ?_
      refine lv_icmp_ge (tgt := 40) hx hb dX1_startOfStretch_10 (by decide) (fun hc => ?_) (fun hc => ?_)
      · have h1 := it_t h1 hc
        have he := lp_r h1 hz1
        exact KN1 x2 x1 he _ _ hP hD hS ls (lv_sub hl [0, 1, 2, 3, 4] rfl)
      · have h1 := it_f h1 hc
        refine lv_aload_n hx hb dX1_startOfStretch_13 rfl (lv_at hl 2 rfl) ?_
        refine lv_iload_n hx hb dX1_startOfStretch_14 rfl (lv_at hl 3 rfl) ?_
        refine lv_iload hx hb dX1_startOfStretch_15 (lv_at hl 0 rfl) ?_
        obtain ⟨r3, hf2, h1⟩ := bnd_some h1
        refine x_VI (As := [.int a1, .int x1]) (rest := []) hC (kX1_isStart l dC dI cA h ad a1 x1 σ r3  hf2) (cwV 2 hts gX1_startOfStretch_X1_isStart rfl rfl rfl (by decide +kernel) ⟨Nat.le_of_ble_eq_true rfl, Nat.le_of_ble_eq_true rfl⟩) 0 1 hV hN hK hP hD hS hA rfl rfl rfl rfl hl.1 rfl (Nat.le_of_ble_eq_true rfl) ⟨Nat.zero_le _, Nat.zero_le _⟩ dX1_startOfStretch_17 (fun H locs hP hD hS => ?_)
        refine lv_if_eq (tgt := 34) hx hb dX1_startOfStretch_20 (by decide) (fun hc => ?_) (fun hc => ?_)
        · have h1 := it_t h1 hc
          obtain ⟨v4, ev4, h1⟩ := nm_some h1
          refine lv_iinc (v := v4) (lv' := [(4, .int v4), (3, .int x2), (0, .ref h), (1, .int a1), (2, .int a2)]) hx hb dX1_startOfStretch_34 hl (k := 0) rfl (by rw [ev4]; rfl) (by decide) rfl (fun ls hl => ?_)
          refine lv_goto (tgt := 5) hx hb dX1_startOfStretch_37 (by decide) ?_
          have hc := lp_l h1 hz1
          exact ih1 x2 v4 hc _ _ hP hD hS ls (lv_sub hl [0, 1, 2, 3, 4] rfl)
        · have h1 := it_f h1 hc
          refine lv_iload_n hx hb dX1_startOfStretch_23 rfl (lv_at hl 1 rfl) ?_
          refine lv_iload_n hx hb dX1_startOfStretch_24 rfl (lv_at hl 4 rfl) ?_
          refine lv_icmp_ne (tgt := 31) hx hb dX1_startOfStretch_25 (by decide) (fun hc => ?_) (fun hc => ?_)
          · have h1 := it_f h1 hc
            obtain ⟨v5, ev5, h1⟩ := nm_some h1
            refine lv_iinc (v := v5) (lv' := [(3, .int v5), (4, .int x1), (0, .ref h), (1, .int a1), (2, .int a2)]) hx hb dX1_startOfStretch_31 hl (k := 1) rfl (by rw [ev5]; rfl) (by decide) rfl (fun ls hl => ?_)
            obtain ⟨v6, ev6, h1⟩ := nm_some h1
            refine lv_iinc (v := v6) (lv' := [(4, .int v6), (3, .int v5), (0, .ref h), (1, .int a1), (2, .int a2)]) hx hb dX1_startOfStretch_34 hl (k := 1) rfl (by rw [ev6]; rfl) (by decide) rfl (fun ls hl => ?_)
            refine lv_goto (tgt := 5) hx hb dX1_startOfStretch_37 (by decide) ?_
            have hc := lp_l h1 hz1
            exact ih1 v5 v6 hc _ _ hP hD hS ls (lv_sub hl [0, 1, 2, 3, 4] rfl)
          · have h1 := it_t h1 hc
            refine lv_iload hx hb dX1_startOfStretch_28 (lv_at hl 0 rfl) ?_
            have he := lp_r h1 hz1
            rw [he] at h0
            have h0 := el_r h0
            have e1 := Option.some.inj h0
            exact x_retI hC hr hlocks rfl hP hD hS dX1_startOfStretch_30 ⟨e1, rfl⟩
  exact LP1 FU (0 : Int32) (0 : Int32) hl1 _ _ hP hD hS ls hl
def bX1_stretchesOf_4 (a1 : Int32) (σ : St) (x2 : Int32) (x1 : Int32) : Option ((Int32 × Int32) ⊕ (Int32 × Int32)) := if (300 : Int32) ≤ x1 then (some (.inr (x2, x1))) else (bnd (fX1_isStart a1 x1 σ) fun r3 => if (r3 : Int32) = (0 : Int32) then (nm (x1 + (1 : Int32)) fun v4 => some (.inl (x2, v4))) else (nm (x2 + (1 : Int32)) fun v5 => nm (x1 + (1 : Int32)) fun v6 => some (.inl (v5, v6))))
def fX1_stretchesOf (a1 : Int32) (σ : St) : Option Int32 := bnd (lp (fun t : (Int32 × Int32) => bX1_stretchesOf_4 a1 σ t.1 t.2) FU ((0 : Int32), (0 : Int32))) (fun e : (Int32 × Int32) => nm e.1 fun x7 => nm e.2 fun x8 => some x7)
abbrev rmX1_stretchesOf : Room := { frames := 2, cells := 0, slots := 0, locals := 46 }
set_option maxHeartbeats 4000000 in
set_option maxRecDepth 100000 in
theorem kX1_stretchesOf (l : Launch) (dC : Nat → ClassId) (dI : Nat → Nat → Nat) (cA : Nat → ClassId) (h : Nat) (ad : Nat → Nat) (a1 : Int32) (σ : St) (R0 : Int32) (h0 : fX1_stretchesOf a1 σ = some R0) : CI l yX1_stretchesOf wsX1_stretchesOf rmX1_stretchesOf (dC, dI) vwCl (tysW cA) [.ref h, .int a1] (wL cA h ad σ) R0 (wL cA h ad σ) := by
  refine CGI_of (cc := cX1_stretchesOf) (nL := 4) (ret := (some .int)) (by decide) rfl (Nat.le_of_ble_eq_true rfl) ?_
  intro p e s m av below meth c A ls H locs hC hl
  obtain ⟨hC, hr, hlocks, hV, hN, hK, hP, hD, hS, hA⟩ := hC
  have hC : CallFix p m c cX1_stretchesOf 4 s _ wsX1_stretchesOf RX1 := hC
  obtain ⟨hx, hb, hml, hown, hts⟩ := id hC
  have hin0 : ∀ w ∈ u_ws RX1 TX1 16, w ∈ wsX1_stretchesOf := fun _ h => (List.mem_cons_of_mem _ (List.mem_append_right _ h))
  have hl : lv_has ls 4 [(0, .ref h), (1, .int a1)] := hl
  unfold fX1_stretchesOf at h0
  refine lv_iconst (v := (0 : Int32)) hx hb dX1_stretchesOf_0 (by decide) ?_
  refine lv_istore_n (lv' := [(2, .int (0 : Int32)), (0, .ref h), (1, .int a1)]) hx hb dX1_stretchesOf_1 rfl hl (by decide) rfl (fun ls hl => ?_)
  refine lv_iconst (v := (0 : Int32)) hx hb dX1_stretchesOf_2 (by decide) ?_
  refine lv_istore_n (lv' := [(3, .int (0 : Int32)), (2, .int (0 : Int32)), (0, .ref h), (1, .int a1)]) hx hb dX1_stretchesOf_3 rfl hl (by decide) rfl (fun ls hl => ?_)
  obtain ⟨ε1, hl1, h0⟩ := bnd_some h0
  have KN1 : ∀ (x7 : Int32) (x8 : Int32), ε1 = (x7, x8) → ∀ (H : Heap) (locs : List Loc), va_P (dC, dI) vwCl (wL cA h ad σ) H → va_D A (wL cA h ad σ) → va_S A s.heap H locs → ∀ (ls : Array Slot), lv_has ls 4 [(3, .int x8), (2, .int x7), (0, .ref h), (1, .int a1)] → W p l e (headSpec wsX1_stretchesOf rmX1_stretchesOf).room s m av below meth c H locs 0 0 (MQ below (qI (dC, dI) A R0 (wL cA h ad σ)) av s 0 0 A) (F0 m 29 ls []) := by
    intro x7 x8 hε H locs hP hD hS ls hl
    rw [hε] at h0
    have h0 := nm_at (z := x7) rfl h0
    have h0 := nm_at (z := x8) rfl h0
    refine lv_iload_n hx hb dX1_stretchesOf_29 rfl (lv_at hl 1 rfl) ?_
    have e1 := Option.some.inj h0
    exact x_retI hC hr hlocks rfl hP hD hS dX1_stretchesOf_30 ⟨e1, rfl⟩
  have LP1 : ∀ (n : Nat) (x2 : Int32) (x1 : Int32), lp (fun t : (Int32 × Int32) => bX1_stretchesOf_4 a1 σ t.1 t.2) n (x2, x1) = some ε1 → ∀ (H : Heap) (locs : List Loc), va_P (dC, dI) vwCl (wL cA h ad σ) H → va_D A (wL cA h ad σ) → va_S A s.heap H locs → ∀ (ls : Array Slot), lv_has ls 4 [(3, .int x1), (2, .int x2), (0, .ref h), (1, .int a1)] → W p l e (headSpec wsX1_stretchesOf rmX1_stretchesOf).room s m av below meth c H locs 0 0 (MQ below (qI (dC, dI) A R0 (wL cA h ad σ)) av s 0 0 A) (F0 m 4 ls []) := by
    intro n
    induction n with
    | zero => intro x2 x1 hl0; exact (lp_0 hl0).elim
    | succ n ih1 =>
      intro x2 x1 hl0 H locs hP hD hS ls hl
      obtain ⟨z1, h1, hz1⟩ := lp_s hl0
      have h1 : bX1_stretchesOf_4 a1 σ x2 x1 = some z1 := h1
      unfold bX1_stretchesOf_4 at h1
      refine lv_iload_n hx hb dX1_stretchesOf_4 rfl (lv_at hl 0 rfl) ?_
      refine lv_sipush (v := (300 : Int32)) hx hb dX1_stretchesOf_5 (by decide) ?_
      refine lv_icmp_ge (tgt := 29) hx hb dX1_stretchesOf_8 (by decide) (fun hc => ?_) (fun hc => ?_)
      · have h1 := it_t h1 hc
        have he := lp_r h1 hz1
        exact KN1 x2 x1 he _ _ hP hD hS ls (lv_sub hl [0, 1, 2, 3] rfl)
      · have h1 := it_f h1 hc
        refine lv_aload_n hx hb dX1_stretchesOf_11 rfl (lv_at hl 2 rfl) ?_
        refine lv_iload_n hx hb dX1_stretchesOf_12 rfl (lv_at hl 3 rfl) ?_
        refine lv_iload_n hx hb dX1_stretchesOf_13 rfl (lv_at hl 0 rfl) ?_
        obtain ⟨r3, hf2, h1⟩ := bnd_some h1
        refine x_VI (As := [.int a1, .int x1]) (rest := []) hC (kX1_isStart l dC dI cA h ad a1 x1 σ r3  hf2) (cwV 2 hts gX1_stretchesOf_X1_isStart rfl rfl rfl (by decide +kernel) ⟨Nat.le_of_ble_eq_true rfl, Nat.le_of_ble_eq_true rfl⟩) 0 1 hV hN hK hP hD hS hA rfl rfl rfl rfl hl.1 rfl (Nat.le_of_ble_eq_true rfl) ⟨Nat.zero_le _, Nat.zero_le _⟩ dX1_stretchesOf_14 (fun H locs hP hD hS => ?_)
        refine lv_if_eq (tgt := 23) hx hb dX1_stretchesOf_17 (by decide) (fun hc => ?_) (fun hc => ?_)
        · have h1 := it_t h1 hc
          obtain ⟨v4, ev4, h1⟩ := nm_some h1
          refine lv_iinc (v := v4) (lv' := [(3, .int v4), (2, .int x2), (0, .ref h), (1, .int a1)]) hx hb dX1_stretchesOf_23 hl (k := 0) rfl (by rw [ev4]; rfl) (by decide) rfl (fun ls hl => ?_)
          refine lv_goto (tgt := 4) hx hb dX1_stretchesOf_26 (by decide) ?_
          have hc := lp_l h1 hz1
          exact ih1 x2 v4 hc _ _ hP hD hS ls (lv_sub hl [0, 1, 2, 3] rfl)
        · have h1 := it_f h1 hc
          obtain ⟨v5, ev5, h1⟩ := nm_some h1
          refine lv_iinc (v := v5) (lv' := [(2, .int v5), (3, .int x1), (0, .ref h), (1, .int a1)]) hx hb dX1_stretchesOf_20 hl (k := 1) rfl (by rw [ev5]; rfl) (by decide) rfl (fun ls hl => ?_)
          obtain ⟨v6, ev6, h1⟩ := nm_some h1
          refine lv_iinc (v := v6) (lv' := [(3, .int v6), (2, .int v5), (0, .ref h), (1, .int a1)]) hx hb dX1_stretchesOf_23 hl (k := 1) rfl (by rw [ev6]; rfl) (by decide) rfl (fun ls hl => ?_)
          refine lv_goto (tgt := 4) hx hb dX1_stretchesOf_26 (by decide) ?_
          have hc := lp_l h1 hz1
          exact ih1 v5 v6 hc _ _ hP hD hS ls (lv_sub hl [0, 1, 2, 3] rfl)
  exact LP1 FU (0 : Int32) (0 : Int32) hl1 _ _ hP hD hS ls hl
def fX1_waitedFor (a1 : Int32) (σ : St) : Option Int32 := bnd (fX1_placeInRow a1 σ) fun r1 => if (0 : Int32) ≤ r1 then (bnd (fX1_waitedForAt r1 σ) fun r2 => some r2) else (some (0 : Int32))
abbrev rmX1_waitedFor : Room := { frames := 3, cells := 0, slots := 0, locals := 82 }
set_option maxHeartbeats 4000000 in
set_option maxRecDepth 100000 in
theorem kX1_waitedFor (l : Launch) (dC : Nat → ClassId) (dI : Nat → Nat → Nat) (cA : Nat → ClassId) (h : Nat) (ad : Nat → Nat) (a1 : Int32) (σ : St) (R0 : Int32) (h0 : fX1_waitedFor a1 σ = some R0) : CI l yX1_waitedFor wsX1_waitedFor rmX1_waitedFor (dC, dI) vwCl (tysW cA) [.ref h, .int a1] (wL cA h ad σ) R0 (wL cA h ad σ) := by
  refine CGI_of (cc := cX1_waitedFor) (nL := 3) (ret := (some .int)) (by decide) rfl (Nat.le_of_ble_eq_true rfl) ?_
  intro p e s m av below meth c A ls H locs hC hl
  obtain ⟨hC, hr, hlocks, hV, hN, hK, hP, hD, hS, hA⟩ := hC
  have hC : CallFix p m c cX1_waitedFor 3 s _ wsX1_waitedFor RX1 := hC
  obtain ⟨hx, hb, hml, hown, hts⟩ := id hC
  have hin0 : ∀ w ∈ u_ws RX1 TX1 16, w ∈ wsX1_waitedFor := fun _ h => (List.mem_cons_of_mem _ (List.mem_append_right _ h))
  have hl : lv_has ls 3 [(0, .ref h), (1, .int a1)] := hl
  unfold fX1_waitedFor at h0
  refine lv_aload_n hx hb dX1_waitedFor_0 rfl (lv_at hl 0 rfl) ?_
  refine lv_iload_n hx hb dX1_waitedFor_1 rfl (lv_at hl 1 rfl) ?_
  obtain ⟨r1, hf1, h0⟩ := bnd_some h0
  refine x_VI (As := [.int a1]) (rest := []) hC (kX1_placeInRow l dC dI cA h ad a1 σ r1  hf1) (cwV 1 hts gX1_waitedFor_X1_placeInRow rfl rfl rfl (by decide +kernel) ⟨Nat.le_of_ble_eq_true rfl, Nat.le_of_ble_eq_true rfl⟩) 0 1 hV hN hK hP hD hS hA rfl rfl rfl rfl hl.1 rfl (Nat.le_of_ble_eq_true rfl) ⟨Nat.zero_le _, Nat.zero_le _⟩ dX1_waitedFor_2 (fun H locs hP hD hS => ?_)
  refine lv_istore_n (lv' := [(2, .int r1), (0, .ref h), (1, .int a1)]) hx hb dX1_waitedFor_5 rfl hl (by decide) rfl (fun ls hl => ?_)
  refine lv_iload_n hx hb dX1_waitedFor_6 rfl (lv_at hl 0 rfl) ?_
  refine lv_if_ge (tgt := 14) hx hb dX1_waitedFor_7 (by decide) (fun hc => ?_) (fun hc => ?_)
  · have h0 := it_t h0 hc
    refine lv_aload_n hx hb dX1_waitedFor_14 rfl (lv_at hl 1 rfl) ?_
    refine lv_iload_n hx hb dX1_waitedFor_15 rfl (lv_at hl 0 rfl) ?_
    obtain ⟨r2, hf2, h0⟩ := bnd_some h0
    refine x_VI (As := [.int r1]) (rest := []) hC (kX1_waitedForAt l dC dI cA h ad r1 σ r2  hf2) (cwV 1 hts gX1_waitedFor_X1_waitedForAt rfl rfl rfl (by decide +kernel) ⟨Nat.le_of_ble_eq_true rfl, Nat.le_of_ble_eq_true rfl⟩) 0 1 hV hN hK hP hD hS hA rfl rfl rfl rfl hl.1 rfl (Nat.le_of_ble_eq_true rfl) ⟨Nat.zero_le _, Nat.zero_le _⟩ dX1_waitedFor_16 (fun H locs hP hD hS => ?_)
    have e1 := Option.some.inj h0
    exact x_retI hC hr hlocks rfl hP hD hS dX1_waitedFor_19 ⟨e1, rfl⟩
  · have h0 := it_f h0 hc
    refine lv_iconst (v := (0 : Int32)) hx hb dX1_waitedFor_10 (by decide) ?_
    refine lv_goto (tgt := 19) hx hb dX1_waitedFor_11 (by decide) ?_
    have e1 := Option.some.inj h0
    exact x_retI hC hr hlocks rfl hP hD hS dX1_waitedFor_19 ⟨e1, rfl⟩
def fX1_withdraw (a1 : Int32) (σ : St) : Option (Int32 × St) := bnd (fX3_isOwner a1) fun r1 => if (r1 : Int32) = (0 : Int32) then (some ((-1 : Int32), σ)) else (ax a1 8 (if ((σ 5 (a1 : Int32).toNatClampNeg) : Int32) = (0 : Int32) then (some ((-5 : Int32), σ)) else (ax a1 8 (nm (σ 8 (a1 : Int32).toNatClampNeg) fun v2 => bnd (fX1_quitRow a1 σ) fun s4 => bn2 (fX1_goThroughRow  s4) fun r5 s6 => some (v2, s6)))))
abbrev rmX1_withdraw : Room := { frames := 4, cells := 0, slots := 0, locals := 106 }
set_option maxHeartbeats 4000000 in
set_option maxRecDepth 100000 in
theorem kX1_withdraw (l : Launch) (dC : Nat → ClassId) (dI : Nat → Nat → Nat) (cA : Nat → ClassId) (h : Nat) (ad : Nat → Nat) (a1 : Int32) (σ : St) (R0 : Int32) (σ' : St) (h0 : fX1_withdraw a1 σ = some (R0, σ')) : CI l yX1_withdraw wsX1_withdraw rmX1_withdraw (dC, dI) vwCl (tysW cA) [.ref h, .int a1] (wL cA h ad σ) R0 (wL cA h ad σ') := by
  refine CGI_of (cc := cX1_withdraw) (nL := 3) (ret := (some .int)) (by decide) rfl (Nat.le_of_ble_eq_true rfl) ?_
  intro p e s m av below meth c A ls H locs hC hl
  obtain ⟨hC, hr, hlocks, hV, hN, hK, hP, hD, hS, hA⟩ := hC
  have hC : CallFix p m c cX1_withdraw 3 s _ wsX1_withdraw RX1 := hC
  obtain ⟨hx, hb, hml, hown, hts⟩ := id hC
  have hin0 : ∀ w ∈ u_ws RX1 TX1 16, w ∈ wsX1_withdraw := fun _ h => (List.mem_cons_of_mem _ (List.mem_append_right _ h))
  have hl : lv_has ls 3 [(0, .ref h), (1, .int a1)] := hl
  unfold fX1_withdraw at h0
  refine lv_iload_n hx hb dX1_withdraw_0 rfl (lv_at hl 1 rfl) ?_
  obtain ⟨r1, hf1, h0⟩ := bnd_some h0
  refine x_SNI (As := [.int a1]) (rest := []) hC (kX3_isOwner l dC dI cA a1 r1 hf1) ⟨va_cnB 1 hts gX1_withdraw_X3_isOwner_n69 rfl rfl rfl (hN _ (List.mem_of_getElem? (i := 5) rfl)) (hts (.initialized RX3) (List.mem_of_getElem? (i := 4) rfl)) ⟨by decide +kernel, by decide +kernel, by decide +kernel⟩ ⟨Nat.le_of_ble_eq_true rfl, Nat.le_of_ble_eq_true rfl⟩, (hts (.static yX3_isOwner) (List.mem_of_getElem? (i := 3) rfl)), trivial⟩ hV hN hK hP hD hS hA rfl hl.1 rfl (Nat.le_of_ble_eq_true rfl) ⟨Nat.zero_le _, Nat.zero_le _⟩ dX1_withdraw_1 (fun H locs hP hD hS => ?_)
  refine lv_if_ne (tgt := 9) hx hb dX1_withdraw_4 (by decide) (fun hc => ?_) (fun hc => ?_)
  · have h0 := it_f h0 hc
    refine lv_aload_n hx hb dX1_withdraw_9 rfl (lv_at hl 0 rfl) ?_
    refine va_get (D := (dC, dI)) (ci := 1) (v := .ref (ad 5)) (C := RX1) (T := TX1) (N := 16) hx hb hts hin0 hown hK hP 0 rfl rfl 5 (by decide) (hts (.fieldLink RX1 23 "MeanLocks$Locks" "wanted" "[I") (List.mem_of_getElem? (i := 1) rfl)) (fun _ h9 => h9) rfl dX1_withdraw_10 ?_
    refine lv_iload_n hx hb dX1_withdraw_13 rfl (lv_at hl 1 rfl) ?_
    obtain ⟨hi, h0⟩ := ax_some h0
    refine va_iald hx hb hK hP 4 0 rfl rfl hi dX1_withdraw_14 ?_
    refine lv_if_ne (tgt := 21) hx hb dX1_withdraw_15 (by decide) (fun hc => ?_) (fun hc => ?_)
    · have h0 := it_f h0 hc
      refine lv_aload_n hx hb dX1_withdraw_21 rfl (lv_at hl 0 rfl) ?_
      refine va_get (D := (dC, dI)) (ci := 1) (v := .ref (ad 8)) (C := RX1) (T := TX1) (N := 16) hx hb hts hin0 hown hK hP 0 rfl rfl 8 (by decide) (hts (.fieldLink RX1 32 "MeanLocks$Locks" "waited" "[I") (List.mem_of_getElem? (i := 2) rfl)) (fun _ h9 => h9) rfl dX1_withdraw_22 ?_
      refine lv_iload_n hx hb dX1_withdraw_25 rfl (lv_at hl 1 rfl) ?_
      obtain ⟨hi, h0⟩ := ax_some h0
      refine va_iald hx hb hK hP 7 0 rfl rfl hi dX1_withdraw_26 ?_
      refine lv_topi (fun v2 ev2 => ?_)
      have h0 := nm_at ev2 h0
      refine lv_istore_n (lv' := [(2, .int v2), (0, .ref h), (1, .int a1)]) hx hb dX1_withdraw_27 rfl hl (by decide) rfl (fun ls hl => ?_)
      refine lv_aload_n hx hb dX1_withdraw_28 rfl (lv_at hl 1 rfl) ?_
      refine lv_iload_n hx hb dX1_withdraw_29 rfl (lv_at hl 2 rfl) ?_
      obtain ⟨s4, hf2, h0⟩ := bnd_some h0
      refine x_VV (As := [.int a1]) (rest := []) hC (kX1_quitRow l dC dI cA h ad a1 σ s4 hf2) (cwV 1 hts gX1_withdraw_X1_quitRow rfl rfl rfl (by decide +kernel) ⟨Nat.le_of_ble_eq_true rfl, Nat.le_of_ble_eq_true rfl⟩) 0 1 hV hN hK hP hD hS hA rfl rfl rfl rfl hl.1 rfl (Nat.le_of_ble_eq_true rfl) ⟨Nat.zero_le _, Nat.zero_le _⟩ dX1_withdraw_30 (fun H locs hP hD hS => ?_)
      refine lv_aload_n hx hb dX1_withdraw_33 rfl (lv_at hl 1 rfl) ?_
      obtain ⟨r5, s6, hf3, h0⟩ := bn2_some h0
      refine x_VI (As := []) (rest := []) hC (kX1_goThroughRow l dC dI cA h ad s4 r5 s6 hf3) (cwV 0 hts gX1_withdraw_X1_goThroughRow rfl rfl rfl (by decide +kernel) ⟨Nat.le_of_ble_eq_true rfl, Nat.le_of_ble_eq_true rfl⟩) 0 1 hV hN hK hP hD hS hA rfl rfl rfl rfl hl.1 rfl (Nat.le_of_ble_eq_true rfl) ⟨Nat.zero_le _, Nat.zero_le _⟩ dX1_withdraw_34 (fun H locs hP hD hS => ?_)
      refine lv_pop hx hb dX1_withdraw_37 rfl ?_
      refine lv_iload_n hx hb dX1_withdraw_38 rfl (lv_at hl 0 rfl) ?_
      obtain ⟨e1, e2⟩ := Prod.mk.inj (Option.some.inj h0)
      exact x_retI hC hr hlocks rfl hP hD hS dX1_withdraw_39 ⟨e1, by rw [← e2]⟩
    · have h0 := it_t h0 hc
      refine lv_bipush (v := (-5 : Int32)) hx hb dX1_withdraw_18 (by decide) ?_
      obtain ⟨e1, e2⟩ := Prod.mk.inj (Option.some.inj h0)
      exact x_retI hC hr hlocks rfl hP hD hS dX1_withdraw_20 ⟨e1, by rw [← e2]⟩
  · have h0 := it_t h0 hc
    refine lv_iconst (v := (-1 : Int32)) hx hb dX1_withdraw_7 (by decide) ?_
    obtain ⟨e1, e2⟩ := Prod.mk.inj (Option.some.inj h0)
    exact x_retI hC hr hlocks rfl hP hD hS dX1_withdraw_8 ⟨e1, by rw [← e2]⟩
