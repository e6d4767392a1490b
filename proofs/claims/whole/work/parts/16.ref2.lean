def fX4_isRange (a1 : Int32) (a2 : Int32) : Option Int32 := bnd (fX4_in a1 (0 : Int32) (299 : Int32)) fun r1 => if (r1 : Int32) = (0 : Int32) then (some (0 : Int32)) else (bnd (fX4_in a2 (a1 + (1 : Int32)) (300 : Int32)) fun r2 => if (r2 : Int32) = (0 : Int32) then (some (0 : Int32)) else (some (1 : Int32)))
abbrev rmX4_isRange : Room := { frames := 1, cells := 0, slots := 0, locals := 22 }
set_option maxHeartbeats 4000000 in
set_option maxRecDepth 100000 in
theorem kX4_isRange (l : Launch) (dC : Nat → ClassId) (dI : Nat → Nat → Nat) (cA : Nat → ClassId) (a1 : Int32) (a2 : Int32) (R0 : Int32) (h0 : fX4_isRange a1 a2 = some R0) : CI l yX4_isRange wsX4_isRange rmX4_isRange (dC, dI) vwCl (tysW cA) [.int a1, .int a2] [] R0 [] := by
  refine CGI_of (cc := cX4_isRange) (nL := 2) (ret := (some .boolean)) (by decide) rfl (Nat.le_of_ble_eq_true rfl) ?_
  intro p e s m av below meth c A ls H locs hC hl
  obtain ⟨hC, hr, hlocks, hV, hN, hK, hP, hD, hS, hA⟩ := hC
  have hC : CallFix p m c cX4_isRange 2 s _ wsX4_isRange RX4 := hC
  obtain ⟨hx, hb, hml, hown, hts⟩ := id hC
  have hl : lv_has ls 2 [(0, .int a1), (1, .int a2)] := hl
  unfold fX4_isRange at h0
  refine lv_iload_n hx hb dX4_isRange_0 rfl (lv_at hl 0 rfl) ?_
  refine lv_iconst (v := (0 : Int32)) hx hb dX4_isRange_1 (by decide) ?_
  refine lv_sipush (v := (299 : Int32)) hx hb dX4_isRange_2 (by decide) ?_
  obtain ⟨r1, hf1, h0⟩ := bnd_some h0
  refine x_SI (As := [.int a1, .int (0 : Int32), .int (299 : Int32)]) (rest := []) hC (kX4_in l dC dI cA a1 (0 : Int32) (299 : Int32) r1 hf1) (cwS 3 hts gX4_isRange_X4_in rfl rfl rfl (by decide +kernel) ⟨Nat.le_of_ble_eq_true rfl, Nat.le_of_ble_eq_true rfl⟩) hV hN hK hP hD hS hA rfl hl.1 rfl (Nat.le_of_ble_eq_true rfl) ⟨Nat.zero_le _, Nat.zero_le _⟩ dX4_isRange_5 (fun H locs hP hD hS => ?_)
  refine lv_if_eq (tgt := 28) hx hb dX4_isRange_8 (by decide) (fun hc => ?_) (fun hc => ?_)
  · have h0 := it_t h0 hc
    refine lv_iconst (v := (0 : Int32)) hx hb dX4_isRange_28 (by decide) ?_
    have e1 := Option.some.inj h0
    exact x_retI hC hr hlocks rfl hP hD hS dX4_isRange_29 ⟨e1, rfl⟩
  · have h0 := it_f h0 hc
    refine lv_iload_n hx hb dX4_isRange_11 rfl (lv_at hl 1 rfl) ?_
    refine lv_iload_n hx hb dX4_isRange_12 rfl (lv_at hl 0 rfl) ?_
    refine lv_iconst (v := (1 : Int32)) hx hb dX4_isRange_13 (by decide) ?_
    refine lv_iadd hx hb dX4_isRange_14 ?_
    refine lv_sipush (v := (300 : Int32)) hx hb dX4_isRange_15 (by decide) ?_
    obtain ⟨r2, hf2, h0⟩ := bnd_some h0
    refine x_SI (As := [.int a2, .int (a1 + (1 : Int32)), .int (300 : Int32)]) (rest := []) hC (kX4_in l dC dI cA a2 (a1 + (1 : Int32)) (300 : Int32) r2 hf2) (cwS 3 hts gX4_isRange_X4_in rfl rfl rfl (by decide +kernel) ⟨Nat.le_of_ble_eq_true rfl, Nat.le_of_ble_eq_true rfl⟩) hV hN hK hP hD hS hA rfl hl.1 rfl (Nat.le_of_ble_eq_true rfl) ⟨Nat.zero_le _, Nat.zero_le _⟩ dX4_isRange_18 (fun H locs hP hD hS => ?_)
    refine lv_if_eq (tgt := 28) hx hb dX4_isRange_21 (by decide) (fun hc => ?_) (fun hc => ?_)
    · have h0 := it_t h0 hc
      refine lv_iconst (v := (0 : Int32)) hx hb dX4_isRange_28 (by decide) ?_
      have e1 := Option.some.inj h0
      exact x_retI hC hr hlocks rfl hP hD hS dX4_isRange_29 ⟨e1, rfl⟩
    · have h0 := it_f h0 hc
      refine lv_iconst (v := (1 : Int32)) hx hb dX4_isRange_24 (by decide) ?_
      refine lv_goto (tgt := 29) hx hb dX4_isRange_25 (by decide) ?_
      have e1 := Option.some.inj h0
      exact x_retI hC hr hlocks rfl hP hD hS dX4_isRange_29 ⟨e1, rfl⟩
def fX4_joinRow (a1 : Int32) (a2 : Int32) (a3 : Int32) (a4 : Int32) (σ : St) : Option St := ax (1 : Int32) 2488 (ax ((8 : Int32) + (σ 0 ((1 : Int32) : Int32).toNatClampNeg)) 2488 (nm (put σ 0 (upd (σ 0) ((8 : Int32) + (σ 0 ((1 : Int32) : Int32).toNatClampNeg) : Int32).toNatClampNeg (a1))) fun s1 => ax (1 : Int32) 2488 (ax (1 : Int32) 2488 (nm (put s1 0 (upd (s1 0) ((1 : Int32) : Int32).toNatClampNeg ((s1 0 ((1 : Int32) : Int32).toNatClampNeg) + (1 : Int32)))) fun s2 => bnd (fX4_lay a1 (0 : Int32) a2 s2) fun s4 => bnd (fX4_lay a1 (1 : Int32) a3 s4) fun s6 => bnd (fX4_lay a1 (2 : Int32) a4 s6) fun s8 => bnd (fX4_lay a1 (3 : Int32) (0 : Int32) s8) fun s10 => some s10))))
abbrev rmX4_joinRow : Room := { frames := 1, cells := 0, slots := 0, locals := 23 }
set_option maxHeartbeats 4000000 in
set_option maxRecDepth 100000 in
theorem kX4_joinRow (l : Launch) (dC : Nat → ClassId) (dI : Nat → Nat → Nat) (cA : Nat → ClassId) (h : Nat) (ad : Nat → Nat) (a1 : Int32) (a2 : Int32) (a3 : Int32) (a4 : Int32) (σ : St) (σ' : St) (h0 : fX4_joinRow a1 a2 a3 a4 σ = some σ') : CV l yX4_joinRow wsX4_joinRow rmX4_joinRow (dC, dI) vwCl (tysW cA) [.ref h, .int a1, .int a2, .int a3, .int a4] (wM cA h ad σ) (wM cA h ad σ') := by
  refine CGV_of (cc := cX4_joinRow) (nL := 5) (ret := none) (by decide) rfl (Nat.le_of_ble_eq_true rfl) ?_
  intro p e s m av below meth c A ls H locs hC hl
  obtain ⟨hC, hr, hlocks, hV, hN, hK, hP, hD, hS, hA⟩ := hC
  have hC : CallFix p m c cX4_joinRow 5 s _ wsX4_joinRow RX4 := hC
  obtain ⟨hx, hb, hml, hown, hts⟩ := id hC
  have hin0 : ∀ w ∈ u_ws RX4 TX4 16, w ∈ wsX4_joinRow := fun _ h => (List.mem_cons_of_mem _ (List.mem_append_right _ h))
  have hl : lv_has ls 5 [(0, .ref h), (1, .int a1), (2, .int a2), (3, .int a3), (4, .int a4)] := hl
  unfold fX4_joinRow at h0
  refine lv_aload_n hx hb dX4_joinRow_0 rfl (lv_at hl 0 rfl) ?_
  refine va_get (D := (dC, dI)) (ci := 4) (v := .ref (ad 0)) (C := RX4) (T := TX4) (N := 16) hx hb hts hin0 hown hK hP 0 rfl rfl 0 (by decide) (hts (.fieldLink RX4 7 "MeanLocksModel" "at" "[I") (List.mem_of_getElem? (i := 1) rfl)) (fun _ h9 => h9) rfl dX4_joinRow_1 ?_
  refine lv_bipush (v := (8 : Int32)) hx hb dX4_joinRow_4 (by decide) ?_
  refine lv_aload_n hx hb dX4_joinRow_6 rfl (lv_at hl 0 rfl) ?_
  refine va_get (D := (dC, dI)) (ci := 4) (v := .ref (ad 0)) (C := RX4) (T := TX4) (N := 16) hx hb hts hin0 hown hK hP 0 rfl rfl 0 (by decide) (hts (.fieldLink RX4 7 "MeanLocksModel" "at" "[I") (List.mem_of_getElem? (i := 1) rfl)) (fun _ h9 => h9) rfl dX4_joinRow_7 ?_
  refine lv_iconst (v := (1 : Int32)) hx hb dX4_joinRow_10 (by decide) ?_
  obtain ⟨hi, h0⟩ := ax_some h0
  refine va_iald hx hb hK hP 1 0 rfl rfl hi dX4_joinRow_11 ?_
  refine lv_iadd hx hb dX4_joinRow_12 ?_
  refine lv_iload_n hx hb dX4_joinRow_13 rfl (lv_at hl 1 rfl) ?_
  obtain ⟨hi, h0⟩ := ax_some h0
  obtain ⟨s1, es1, h0⟩ := nm_some h0
  refine x_iast (ws' := wM cA h ad s1) hC hK hP hD hS 1 0 rfl rfl (by rw [es1]; exact wM_s0 _ _ _ _ _) hi dX4_joinRow_14 (fun H locs hP hD hS => ?_)
  refine lv_aload_n hx hb dX4_joinRow_15 rfl (lv_at hl 0 rfl) ?_
  refine va_get (D := (dC, dI)) (ci := 4) (v := .ref (ad 0)) (C := RX4) (T := TX4) (N := 16) hx hb hts hin0 hown hK hP 0 rfl rfl 0 (by decide) (hts (.fieldLink RX4 7 "MeanLocksModel" "at" "[I") (List.mem_of_getElem? (i := 1) rfl)) (fun _ h9 => h9) rfl dX4_joinRow_16 ?_
  refine lv_iconst (v := (1 : Int32)) hx hb dX4_joinRow_19 (by decide) ?_
  refine lv_dup2_11 hx hb dX4_joinRow_20 rfl rfl ?_
  obtain ⟨hi, h0⟩ := ax_some h0
  refine va_iald hx hb hK hP 1 0 rfl rfl hi dX4_joinRow_21 ?_
  refine lv_iconst (v := (1 : Int32)) hx hb dX4_joinRow_22 (by decide) ?_
  refine lv_iadd hx hb dX4_joinRow_23 ?_
  obtain ⟨hi, h0⟩ := ax_some h0
  obtain ⟨s2, es2, h0⟩ := nm_some h0
  refine x_iast (ws' := wM cA h ad s2) hC hK hP hD hS 1 0 rfl rfl (by rw [es2]; exact wM_s0 _ _ _ _ _) hi dX4_joinRow_24 (fun H locs hP hD hS => ?_)
  refine lv_aload_n hx hb dX4_joinRow_25 rfl (lv_at hl 0 rfl) ?_
  refine lv_iload_n hx hb dX4_joinRow_26 rfl (lv_at hl 1 rfl) ?_
  refine lv_iconst (v := (0 : Int32)) hx hb dX4_joinRow_27 (by decide) ?_
  refine lv_iload_n hx hb dX4_joinRow_28 rfl (lv_at hl 2 rfl) ?_
  obtain ⟨s4, hf1, h0⟩ := bnd_some h0
  refine x_VV (As := [.int a1, .int (0 : Int32), .int a2]) (rest := []) hC (kX4_lay l dC dI cA h ad a1 (0 : Int32) a2 s2 s4 hf1) (cwV 3 hts gX4_joinRow_X4_lay rfl rfl rfl (by decide +kernel) ⟨Nat.le_of_ble_eq_true rfl, Nat.le_of_ble_eq_true rfl⟩) 0 4 hV hN hK hP hD hS hA rfl rfl rfl rfl hl.1 rfl (Nat.le_of_ble_eq_true rfl) ⟨Nat.zero_le _, Nat.zero_le _⟩ dX4_joinRow_29 (fun H locs hP hD hS => ?_)
  refine lv_aload_n hx hb dX4_joinRow_32 rfl (lv_at hl 0 rfl) ?_
  refine lv_iload_n hx hb dX4_joinRow_33 rfl (lv_at hl 1 rfl) ?_
  refine lv_iconst (v := (1 : Int32)) hx hb dX4_joinRow_34 (by decide) ?_
  refine lv_iload_n hx hb dX4_joinRow_35 rfl (lv_at hl 3 rfl) ?_
  obtain ⟨s6, hf2, h0⟩ := bnd_some h0
  refine x_VV (As := [.int a1, .int (1 : Int32), .int a3]) (rest := []) hC (kX4_lay l dC dI cA h ad a1 (1 : Int32) a3 s4 s6 hf2) (cwV 3 hts gX4_joinRow_X4_lay rfl rfl rfl (by decide +kernel) ⟨Nat.le_of_ble_eq_true rfl, Nat.le_of_ble_eq_true rfl⟩) 0 4 hV hN hK hP hD hS hA rfl rfl rfl rfl hl.1 rfl (Nat.le_of_ble_eq_true rfl) ⟨Nat.zero_le _, Nat.zero_le _⟩ dX4_joinRow_36 (fun H locs hP hD hS => ?_)
  refine lv_aload_n hx hb dX4_joinRow_39 rfl (lv_at hl 0 rfl) ?_
  refine lv_iload_n hx hb dX4_joinRow_40 rfl (lv_at hl 1 rfl) ?_
  refine lv_iconst (v := (2 : Int32)) hx hb dX4_joinRow_41 (by decide) ?_
  refine lv_iload hx hb dX4_joinRow_42 (lv_at hl 4 rfl) ?_
  obtain ⟨s8, hf3, h0⟩ := bnd_some h0
  refine x_VV (As := [.int a1, .int (2 : Int32), .int a4]) (rest := []) hC (kX4_lay l dC dI cA h ad a1 (2 : Int32) a4 s6 s8 hf3) (cwV 3 hts gX4_joinRow_X4_lay rfl rfl rfl (by decide +kernel) ⟨Nat.le_of_ble_eq_true rfl, Nat.le_of_ble_eq_true rfl⟩) 0 4 hV hN hK hP hD hS hA rfl rfl rfl rfl hl.1 rfl (Nat.le_of_ble_eq_true rfl) ⟨Nat.zero_le _, Nat.zero_le _⟩ dX4_joinRow_44 (fun H locs hP hD hS => ?_)
  refine lv_aload_n hx hb dX4_joinRow_47 rfl (lv_at hl 0 rfl) ?_
  refine lv_iload_n hx hb dX4_joinRow_48 rfl (lv_at hl 1 rfl) ?_
  refine lv_iconst (v := (3 : Int32)) hx hb dX4_joinRow_49 (by decide) ?_
  refine lv_iconst (v := (0 : Int32)) hx hb dX4_joinRow_50 (by decide) ?_
  obtain ⟨s10, hf4, h0⟩ := bnd_some h0
  refine x_VV (As := [.int a1, .int (3 : Int32), .int (0 : Int32)]) (rest := []) hC (kX4_lay l dC dI cA h ad a1 (3 : Int32) (0 : Int32) s8 s10 hf4) (cwV 3 hts gX4_joinRow_X4_lay rfl rfl rfl (by decide +kernel) ⟨Nat.le_of_ble_eq_true rfl, Nat.le_of_ble_eq_true rfl⟩) 0 4 hV hN hK hP hD hS hA rfl rfl rfl rfl hl.1 rfl (Nat.le_of_ble_eq_true rfl) ⟨Nat.zero_le _, Nat.zero_le _⟩ dX4_joinRow_51 (fun H locs hP hD hS => ?_)
  have e1 := Option.some.inj h0
  exact x_retV hC hr hlocks hP hD hS dX4_joinRow_54 (by rw [← e1])
def bX4_layWaits_2  (x1 : Int32) (s2 : St) : Option ((Int32 × St) ⊕ (Int32 × St)) := if (8 : Int32) ≤ x1 then (some (.inr (x1, s2))) else (bnd (fX4_waitsForNow x1 s2) fun r3 => ax x1 8 (nm (put s2 9 (upd (s2 9) (x1 : Int32).toNatClampNeg (r3))) fun s4 => nm (x1 + (1 : Int32)) fun v5 => some (.inl (v5, s4))))
def fX4_layWaits (σ : St) : Option St := bnd (lp (fun t : (Int32 × St) => bX4_layWaits_2  t.1 t.2) FU ((0 : Int32), σ)) (fun e : (Int32 × St) => nm e.1 fun x6 => nm e.2 fun s7 => some s7)
abbrev rmX4_layWaits : Room := { frames := 5, cells := 0, slots := 0, locals := 123 }
set_option maxHeartbeats 4000000 in
set_option maxRecDepth 100000 in
theorem kX4_layWaits (l : Launch) (dC : Nat → ClassId) (dI : Nat → Nat → Nat) (cA : Nat → ClassId) (h : Nat) (ad : Nat → Nat) (σ : St) (σ' : St) (h0 : fX4_layWaits σ = some σ') : CV l yX4_layWaits wsX4_layWaits rmX4_layWaits (dC, dI) vwCl (tysW cA) [.ref h] (wM cA h ad σ) (wM cA h ad σ') := by
  refine CGV_of (cc := cX4_layWaits) (nL := 2) (ret := none) (by decide) rfl (Nat.le_of_ble_eq_true rfl) ?_
  intro p e s m av below meth c A ls H locs hC hl
  obtain ⟨hC, hr, hlocks, hV, hN, hK, hP, hD, hS, hA⟩ := hC
  have hC : CallFix p m c cX4_layWaits 2 s _ wsX4_layWaits RX4 := hC
  obtain ⟨hx, hb, hml, hown, hts⟩ := id hC
  have hin0 : ∀ w ∈ u_ws RX4 TX4 16, w ∈ wsX4_layWaits := fun _ h => (List.mem_cons_of_mem _ (List.mem_append_right _ h))
  have hl : lv_has ls 2 [(0, .ref h)] := hl
  unfold fX4_layWaits at h0
  refine lv_iconst (v := (0 : Int32)) hx hb dX4_layWaits_0 (by decide) ?_
  refine lv_istore_n (lv' := [(1, .int (0 : Int32)), (0, .ref h)]) hx hb dX4_layWaits_1 rfl hl (by decide) rfl (fun ls hl => ?_)
  obtain ⟨ε1, hl1, h0⟩ := bnd_some h0
  have KN1 : ∀ (x6 : Int32) (s7 : St), ε1 = (x6, s7) → ∀ (H : Heap) (locs : List Loc), va_P (dC, dI) vwCl (wM cA h ad s7) H → va_D A (wM cA h ad s7) → va_S A s.heap H locs → ∀ (ls : Array Slot), lv_has ls 2 [(1, .int x6), (0, .ref h)] → W p l e (headSpec wsX4_layWaits rmX4_layWaits).room s m av below meth c H locs 0 0 (MQ below (qV (dC, dI) A (wM cA h ad σ')) av s 0 0 A) (F0 m 25 ls []) := by
    intro x6 s7 hε H locs hP hD hS ls hl
    rw [hε] at h0
    have h0 := nm_at (z := x6) rfl h0
    have h0 := nm_at (z := s7) rfl h0
    have e1 := Option.some.inj h0
    exact x_retV hC hr hlocks hP hD hS dX4_layWaits_25 (by rw [← e1])
  have LP1 : ∀ (n : Nat) (x1 : Int32) (s2 : St), lp (fun t : (Int32 × St) => bX4_layWaits_2  t.1 t.2) n (x1, s2) = some ε1 → ∀ (H : Heap) (locs : List Loc), va_P (dC, dI) vwCl (wM cA h ad s2) H → va_D A (wM cA h ad s2) → va_S A s.heap H locs → ∀ (ls : Array Slot), lv_has ls 2 [(1, .int x1), (0, .ref h)] → W p l e (headSpec wsX4_layWaits rmX4_layWaits).room s m av below meth c H locs 0 0 (MQ below (qV (dC, dI) A (wM cA h ad σ')) av s 0 0 A) (F0 m 2 ls []) := by
    intro n
    induction n with
    | zero => intro x1 s2 hl0; exact (lp_0 hl0).elim
    | succ n ih1 =>
      intro x1 s2 hl0 H locs hP hD hS ls hl
      obtain ⟨z1, h1, hz1⟩ := lp_s hl0
      have h1 : bX4_layWaits_2  x1 s2 = some z1 := h1
      unfold bX4_layWaits_2 at h1
      refine lv_iload_n hx hb dX4_layWaits_2 rfl (lv_at hl 0 rfl) ?_
      refine lv_bipush (v := (8 : Int32)) hx hb dX4_layWaits_3 (by decide) ?_
      refine lv_icmp_ge (tgt := 25) hx hb dX4_layWaits_5 (by decide) (fun hc => ?_) (fun hc => ?_)
      · have h1 := it_t h1 hc
        have he := lp_r h1 hz1
        exact KN1 x1 s2 he _ _ hP hD hS ls (lv_sub hl [0, 1] rfl)
      · have h1 := it_f h1 hc
        refine lv_aload_n hx hb dX4_layWaits_8 rfl (lv_at hl 1 rfl) ?_
        refine va_get (D := (dC, dI)) (ci := 4) (v := .ref (ad 9)) (C := RX4) (T := TX4) (N := 16) hx hb hts hin0 hown hK hP 0 rfl rfl 9 (by decide) (hts (.fieldLink RX4 29 "MeanLocksModel" "waits" "[I") (List.mem_of_getElem? (i := 1) rfl)) (fun _ h9 => h9) rfl dX4_layWaits_9 ?_
        refine lv_iload_n hx hb dX4_layWaits_12 rfl (lv_at hl 0 rfl) ?_
        refine lv_aload_n hx hb dX4_layWaits_13 rfl (lv_at hl 1 rfl) ?_
        refine lv_iload_n hx hb dX4_layWaits_14 rfl (lv_at hl 0 rfl) ?_
        obtain ⟨r3, hf2, h1⟩ := bnd_some h1
        refine x_VI (As := [.int x1]) (rest := [.int x1, .ref (ad 9)]) hC (kX4_waitsForNow l dC dI cA h ad x1 s2 r3  hf2) (cwV 1 hts gX4_layWaits_X4_waitsForNow rfl rfl rfl (by decide +kernel) ⟨Nat.le_of_ble_eq_true rfl, Nat.le_of_ble_eq_true rfl⟩) 0 4 hV hN hK hP hD hS hA rfl rfl rfl rfl hl.1 rfl (Nat.le_of_ble_eq_true rfl) ⟨Nat.zero_le _, Nat.zero_le _⟩ dX4_layWaits_15 (fun H locs hP hD hS => ?_)
        obtain ⟨hi, h1⟩ := ax_some h1
        obtain ⟨s4, es4, h1⟩ := nm_some h1
        refine x_iast (ws' := wM cA h ad s4) hC hK hP hD hS 7 0 rfl rfl (by rw [es4]; exact wM_s9 _ _ _ _ _) hi dX4_layWaits_18 (fun H locs hP hD hS => ?_)
        obtain ⟨v5, ev5, h1⟩ := nm_some h1
        refine lv_iinc (v := v5) (lv' := [(1, .int v5), (0, .ref h)]) hx hb dX4_layWaits_19 hl (k := 0) rfl (by rw [ev5]; rfl) (by decide) rfl (fun ls hl => ?_)
        refine lv_goto (tgt := 2) hx hb dX4_layWaits_22 (by decide) ?_
        have hc := lp_l h1 hz1
        exact ih1 v5 s4 hc _ _ hP hD hS ls (lv_sub hl [0, 1] rfl)
  exact LP1 FU (0 : Int32) σ hl1 _ _ hP hD hS ls hl
def bX4_layReach_2  (x1 : Int32) (s2 : St) : Option ((Int32 × St) ⊕ (Int32 × St)) := if (8 : Int32) ≤ x1 then (some (.inr (x1, s2))) else (ax x1 8 (ax x1 8 (nm (put s2 10 (upd (s2 10) (x1 : Int32).toNatClampNeg (s2 9 (x1 : Int32).toNatClampNeg))) fun s3 => nm (x1 + (1 : Int32)) fun v4 => some (.inl (v4, s3)))))
def bX4_layReach_44 (x9 : Int32) (x11 : Int32) (s12 : St) : Option ((Int32 × St) ⊕ (Int32 × St)) := if (8 : Int32) ≤ x11 then (some (.inr (x11, s12))) else (ax x9 8 (ax x9 8 (bnd (fX4_has (s12 10 (x9 : Int32).toNatClampNeg) x11) fun r13 => if (r13 : Int32) = (0 : Int32) then (ax x9 8 (nm (put s12 10 (upd (s12 10) (x9 : Int32).toNatClampNeg ((s12 10 (x9 : Int32).toNatClampNeg) ||| (0 : Int32)))) fun s14 => nm (x11 + (1 : Int32)) fun v15 => some (.inl (v15, s14)))) else (ax x11 8 (ax x9 8 (nm (put s12 10 (upd (s12 10) (x9 : Int32).toNatClampNeg ((s12 10 (x9 : Int32).toNatClampNeg) ||| (s12 9 (x11 : Int32).toNatClampNeg)))) fun s16 => nm (x11 + (1 : Int32)) fun v17 => some (.inl (v17, s16))))))))
def bX4_layReach_36  (x9 : Int32) (s10 : St) : Option ((Int32 × St) ⊕ (Int32 × St)) := if (8 : Int32) ≤ x9 then (some (.inr (x9, s10))) else (bnd (lp (fun t : (Int32 × St) => bX4_layReach_44 x9 t.1 t.2) FU ((0 : Int32), s10)) (fun e : (Int32 × St) => nm e.1 fun x18 => nm e.2 fun s19 => nm (x9 + (1 : Int32)) fun v20 => some (.inl (v20, s19))))
def bX4_layReach_28  (x7 : Int32) (s8 : St) : Option ((Int32 × St) ⊕ (Int32 × St)) := if (8 : Int32) ≤ x7 then (some (.inr (x7, s8))) else (bnd (lp (fun t : (Int32 × St) => bX4_layReach_36  t.1 t.2) FU ((0 : Int32), s8)) (fun e : (Int32 × St) => nm e.1 fun x21 => nm e.2 fun s22 => nm (x7 + (1 : Int32)) fun v23 => some (.inl (v23, s22))))
def fX4_layReach (σ : St) : Option St := bnd (lp (fun t : (Int32 × St) => bX4_layReach_2  t.1 t.2) FU ((0 : Int32), σ)) (fun e : (Int32 × St) => nm e.1 fun x5 => nm e.2 fun s6 => bnd (lp (fun t : (Int32 × St) => bX4_layReach_28  t.1 t.2) FU ((0 : Int32), s6)) (fun e : (Int32 × St) => nm e.1 fun x24 => nm e.2 fun s25 => some s25))
abbrev rmX4_layReach : Room := { frames := 1, cells := 0, slots := 0, locals := 21 }
set_option maxHeartbeats 4000000 in
set_option maxRecDepth 100000 in
theorem kX4_layReach (l : Launch) (dC : Nat → ClassId) (dI : Nat → Nat → Nat) (cA : Nat → ClassId) (h : Nat) (ad : Nat → Nat) (σ : St) (σ' : St) (h0 : fX4_layReach σ = some σ') : CV l yX4_layReach wsX4_layReach rmX4_layReach (dC, dI) vwCl (tysW cA) [.ref h] (wM cA h ad σ) (wM cA h ad σ') := by
  refine CGV_of (cc := cX4_layReach) (nL := 4) (ret := none) (by decide) rfl (Nat.le_of_ble_eq_true rfl) ?_
  intro p e s m av below meth c A ls H locs hC hl
  obtain ⟨hC, hr, hlocks, hV, hN, hK, hP, hD, hS, hA⟩ := hC
  have hC : CallFix p m c cX4_layReach 4 s _ wsX4_layReach RX4 := hC
  obtain ⟨hx, hb, hml, hown, hts⟩ := id hC
  have hin0 : ∀ w ∈ u_ws RX4 TX4 16, w ∈ wsX4_layReach := fun _ h => (List.mem_cons_of_mem _ (List.mem_append_right _ h))
  have hl : lv_has ls 4 [(0, .ref h)] := hl
  unfold fX4_layReach at h0
  refine lv_iconst (v := (0 : Int32)) hx hb dX4_layReach_0 (by decide) ?_
  refine lv_istore_n (lv' := [(1, .int (0 : Int32)), (0, .ref h)]) hx hb dX4_layReach_1 rfl hl (by decide) rfl (fun ls hl => ?_)
  obtain ⟨ε1, hl1, h0⟩ := bnd_some h0
  have KN1 : ∀ (x5 : Int32) (s6 : St), ε1 = (x5, s6) → ∀ (H : Heap) (locs : List Loc), va_P (dC, dI) vwCl (wM cA h ad s6) H → va_D A (wM cA h ad s6) → va_S A s.heap H locs → ∀ (ls : Array Slot), lv_has ls 4 [(1, .int x5), (0, .ref h)] → W p l e (headSpec wsX4_layReach rmX4_layReach).room s m av below meth c H locs 0 0 (MQ below (qV (dC, dI) A (wM cA h ad σ')) av s 0 0 A) (F0 m 26 ls []) := by
    intro x5 s6 hε H locs hP hD hS ls hl
    rw [hε] at h0
    have h0 := nm_at (z := x5) rfl h0
    have h0 := nm_at (z := s6) rfl h0
    refine lv_iconst (v := (0 : Int32)) hx hb dX4_layReach_26 (by decide) ?_
    refine lv_istore_n (lv' := [(1, .int (0 : Int32)), (0, .ref h)]) hx hb dX4_layReach_27 rfl hl (by decide) rfl (fun ls hl => ?_)
    obtain ⟨ε2, hl2, h0⟩ := bnd_some h0
    have KN2 : ∀ (x24 : Int32) (s25 : St), ε2 = (x24, s25) → ∀ (H : Heap) (locs : List Loc), va_P (dC, dI) vwCl (wM cA h ad s25) H → va_D A (wM cA h ad s25) → va_S A s.heap H locs → ∀ (ls : Array Slot), lv_has ls 4 [(1, .int x24), (0, .ref h)] → W p l e (headSpec wsX4_layReach rmX4_layReach).room s m av below meth c H locs 0 0 (MQ below (qV (dC, dI) A (wM cA h ad σ')) av s 0 0 A) (F0 m 100 ls []) := by
      intro x24 s25 hε H locs hP hD hS ls hl
      rw [hε] at h0
      have h0 := nm_at (z := x24) rfl h0
      have h0 := nm_at (z := s25) rfl h0
      have e1 := Option.some.inj h0
      exact x_retV hC hr hlocks hP hD hS dX4_layReach_100 (by rw [← e1])
    have LP2 : ∀ (n : Nat) (x7 : Int32) (s8 : St), lp (fun t : (Int32 × St) => bX4_layReach_28  t.1 t.2) n (x7, s8) = some ε2 → ∀ (H : Heap) (locs : List Loc), va_P (dC, dI) vwCl (wM cA h ad s8) H → va_D A (wM cA h ad s8) → va_S A s.heap H locs → ∀ (ls : Array Slot), lv_has ls 4 [(1, .int x7), (0, .ref h)] → W p l e (headSpec wsX4_layReach rmX4_layReach).room s m av below meth c H locs 0 0 (MQ below (qV (dC, dI) A (wM cA h ad σ')) av s 0 0 A) (F0 m 28 ls []) := by
      intro n
      induction n with
      | zero => intro x7 s8 hl0; exact (lp_0 hl0).elim
      | succ n ih2 =>
        intro x7 s8 hl0 H locs hP hD hS ls hl
        obtain ⟨z2, h1, hz2⟩ := lp_s hl0
        have h1 : bX4_layReach_28  x7 s8 = some z2 := h1
        unfold bX4_layReach_28 at h1
        refine lv_iload_n hx hb dX4_layReach_28 rfl (lv_at hl 0 rfl) ?_
        refine lv_bipush (v := (8 : Int32)) hx hb dX4_layReach_29 (by decide) ?_
        refine lv_icmp_ge (tgt := 100) hx hb dX4_layReach_31 (by decide) (fun hc => ?_) (fun hc => ?_)
        · have h1 := it_t h1 hc
          have he := lp_r h1 hz2
          exact KN2 x7 s8 he _ _ hP hD hS ls (lv_sub hl [0, 1] rfl)
        · have h1 := it_f h1 hc
          refine lv_iconst (v := (0 : Int32)) hx hb dX4_layReach_34 (by decide) ?_
          refine lv_istore_n (lv' := [(2, .int (0 : Int32)), (1, .int x7), (0, .ref h)]) hx hb dX4_layReach_35 rfl hl (by decide) rfl (fun ls hl => ?_)
          obtain ⟨ε3, hl3, h1⟩ := bnd_some h1
          have KN3 : ∀ (x21 : Int32) (s22 : St), ε3 = (x21, s22) → ∀ (H : Heap) (locs : List Loc), va_P (dC, dI) vwCl (wM cA h ad s22) H → va_D A (wM cA h ad s22) → va_S A s.heap H locs → ∀ (ls : Array Slot), lv_has ls 4 [(2, .int x21), (1, .int x7), (0, .ref h)] → W p l e (headSpec wsX4_layReach rmX4_layReach).room s m av below meth c H locs 0 0 (MQ below (qV (dC, dI) A (wM cA h ad σ')) av s 0 0 A) (F0 m 94 ls []) := by
            intro x21 s22 hε H locs hP hD hS ls hl
            rw [hε] at h1
            have h1 := nm_at (z := x21) rfl h1
            have h1 := nm_at (z := s22) rfl h1
            obtain ⟨v23, ev23, h1⟩ := nm_some h1
            refine lv_iinc (v := v23) (lv' := [(1, .int v23), (2, .int x21), (0, .ref h)]) hx hb dX4_layReach_94 hl (k := 1) rfl (by rw [ev23]; rfl) (by decide) rfl (fun ls hl => ?_)
            refine lv_goto (tgt := 28) hx hb dX4_layReach_97 (by decide) ?_
            have hc := lp_l h1 hz2
            exact ih2 v23 s22 hc _ _ hP hD hS ls (lv_sub hl [0, 2] rfl)
          have LP3 : ∀ (n : Nat) (x9 : Int32) (s10 : St), lp (fun t : (Int32 × St) => bX4_layReach_36  t.1 t.2) n (x9, s10) = some ε3 → ∀ (H : Heap) (locs : List Loc), va_P (dC, dI) vwCl (wM cA h ad s10) H → va_D A (wM cA h ad s10) → va_S A s.heap H locs → ∀ (ls : Array Slot), lv_has ls 4 [(2, .int x9), (1, .int x7), (0, .ref h)] → W p l e (headSpec wsX4_layReach rmX4_layReach).room s m av below meth c H locs 0 0 (MQ below (qV (dC, dI) A (wM cA h ad σ')) av s 0 0 A) (F0 m 36 ls []) := by
            intro n
            induction n with
            | zero => intro x9 s10 hl0; exact (lp_0 hl0).elim
            | succ n ih3 =>
              intro x9 s10 hl0 H locs hP hD hS ls hl
              obtain ⟨z3, h2, hz3⟩ := lp_s hl0
              have h2 : bX4_layReach_36  x9 s10 = some z3 := h2
              unfold bX4_layReach_36 at h2
              refine lv_iload_n hx hb dX4_layReach_36 rfl (lv_at hl 0 rfl) ?_
              refine lv_bipush (v := (8 : Int32)) hx hb dX4_layReach_37 (by decide) ?_
              refine lv_icmp_ge (tgt := 94) hx hb dX4_layReach_39 (by decide) (fun hc => ?_) (fun hc => ?_)
              · have h2 := it_t h2 hc
                have he := lp_r h2 hz3
                exact KN3 x9 s10 he _ _ hP hD hS ls (lv_sub hl [0, 1, 2] rfl)
              · have h2 := it_f h2 hc
                refine lv_iconst (v := (0 : Int32)) hx hb dX4_layReach_42 (by decide) ?_
                refine lv_istore_n (lv' := [(3, .int (0 : Int32)), (2, .int x9), (1, .int x7), (0, .ref h)]) hx hb dX4_layReach_43 rfl hl (by decide) rfl (fun ls hl => ?_)
                obtain ⟨ε4, hl4, h2⟩ := bnd_some h2
                have KN4 : ∀ (x18 : Int32) (s19 : St), ε4 = (x18, s19) → ∀ (H : Heap) (locs : List Loc), va_P (dC, dI) vwCl (wM cA h ad s19) H → va_D A (wM cA h ad s19) → va_S A s.heap H locs → ∀ (ls : Array Slot), lv_has ls 4 [(3, .int x18), (2, .int x9), (1, .int x7), (0, .ref h)] → W p l e (headSpec wsX4_layReach rmX4_layReach).room s m av below meth c H locs 0 0 (MQ below (qV (dC, dI) A (wM cA h ad σ')) av s 0 0 A) (F0 m 88 ls []) := by
                  intro x18 s19 hε H locs hP hD hS ls hl
                  rw [hε] at h2
                  have h2 := nm_at (z := x18) rfl h2
                  have h2 := nm_at (z := s19) rfl h2
                  obtain ⟨v20, ev20, h2⟩ := nm_some h2
                  refine lv_iinc (v := v20) (lv' := [(2, .int v20), (3, .int x18), (1, .int x7), (0, .ref h)]) hx hb dX4_layReach_88 hl (k := 1) rfl (by rw [ev20]; rfl) (by decide) rfl (fun ls hl => ?_)
                  refine lv_goto (tgt := 36) hx hb dX4_layReach_91 (by decide) ?_
                  have hc := lp_l h2 hz3
                  exact ih3 v20 s19 hc _ _ hP hD hS ls (lv_sub hl [0, 2, 3] rfl)
                have LP4 : ∀ (n : Nat) (x11 : Int32) (s12 : St), lp (fun t : (Int32 × St) => bX4_layReach_44 x9 t.1 t.2) n (x11, s12) = some ε4 → ∀ (H : Heap) (locs : List Loc), va_P (dC, dI) vwCl (wM cA h ad s12) H → va_D A (wM cA h ad s12) → va_S A s.heap H locs → ∀ (ls : Array Slot), lv_has ls 4 [(3, .int x11), (2, .int x9), (1, .int x7), (0, .ref h)] → W p l e (headSpec wsX4_layReach rmX4_layReach).room s m av below meth c H locs 0 0 (MQ below (qV (dC, dI) A (wM cA h ad σ')) av s 0 0 A) (F0 m 44 ls []) := by
                  intro n
                  induction n with
                  | zero => intro x11 s12 hl0; exact (lp_0 hl0).elim
                  | succ n ih4 =>
                    intro x11 s12 hl0 H locs hP hD hS ls hl
                    obtain ⟨z4, h3, hz4⟩ := lp_s hl0
                    have h3 : bX4_layReach_44 x9 x11 s12 = some z4 := h3
                    unfold bX4_layReach_44 at h3
                    refine lv_iload_n hx hb dX4_layReach_44 rfl (lv_at hl 0 rfl) ?_
                    refine lv_bipush (v := (8 : Int32)) hx hb dX4_layReach_45 (by decide) ?_
                    refine lv_icmp_ge (tgt := 88) hx hb dX4_layReach_47 (by decide) (fun hc => ?_) (fun hc => ?_)
                    · have h3 := it_t h3 hc
                      have he := lp_r h3 hz4
                      exact KN4 x11 s12 he _ _ hP hD hS ls (lv_sub hl [0, 1, 2, 3] rfl)
                    · have h3 := it_f h3 hc
                      refine lv_aload_n hx hb dX4_layReach_50 rfl (lv_at hl 3 rfl) ?_
                      refine va_get (D := (dC, dI)) (ci := 4) (v := .ref (ad 10)) (C := RX4) (T := TX4) (N := 16) hx hb hts hin0 hown hK hP 0 rfl rfl 10 (by decide) (hts (.fieldLink RX4 32 "MeanLocksModel" "reach" "[I") (List.mem_of_getElem? (i := 1) rfl)) (fun _ h9 => h9) rfl dX4_layReach_51 ?_
                      refine lv_iload_n hx hb dX4_layReach_54 rfl (lv_at hl 1 rfl) ?_
                      refine lv_dup2_11 hx hb dX4_layReach_55 rfl rfl ?_
                      obtain ⟨hi, h3⟩ := ax_some h3
                      refine va_iald hx hb hK hP 8 0 rfl rfl hi dX4_layReach_56 ?_
                      refine lv_aload_n hx hb dX4_layReach_57 rfl (lv_at hl 3 rfl) ?_
                      refine va_get (D := (dC, dI)) (ci := 4) (v := .ref (ad 10)) (C := RX4) (T := TX4) (N := 16) hx hb hts hin0 hown hK hP 0 rfl rfl 10 (by decide) (hts (.fieldLink RX4 32 "MeanLocksModel" "reach" "[I") (List.mem_of_getElem? (i := 1) rfl)) (fun _ h9 => h9) rfl dX4_layReach_58 ?_
                      refine lv_iload_n hx hb dX4_layReach_61 rfl (lv_at hl 1 rfl) ?_
                      obtain ⟨hi, h3⟩ := ax_some h3
                      refine va_iald hx hb hK hP 8 0 rfl rfl hi dX4_layReach_62 ?_
                      refine lv_iload_n hx hb dX4_layReach_63 rfl (lv_at hl 0 rfl) ?_
                      obtain ⟨r13, hf5, h3⟩ := bnd_some h3
                      refine x_SI (As := [.int (s12 10 (x9 : Int32).toNatClampNeg), .int x11]) (rest := [.int (s12 10 (x9 : Int32).toNatClampNeg), .int x9, .ref (ad 10)]) hC (kX4_has l dC dI cA (s12 10 (x9 : Int32).toNatClampNeg) x11 r13 hf5) (cwS 2 hts gX4_layReach_X4_has rfl rfl rfl (by decide +kernel) ⟨Nat.le_of_ble_eq_true rfl, Nat.le_of_ble_eq_true rfl⟩) hV hN hK hP hD hS hA rfl hl.1 rfl (Nat.le_of_ble_eq_true rfl) ⟨Nat.zero_le _, Nat.zero_le _⟩ dX4_layReach_64 (fun H locs hP hD hS => ?_)
                      refine lv_if_eq (tgt := 79) hx hb dX4_layReach_67 (by decide) (fun hc => ?_) (fun hc => ?_)
                      · have h3 := it_t h3 hc
                        refine lv_iconst (v := (0 : Int32)) hx hb dX4_layReach_79 (by decide) ?_
                        refine lv_ior hx hb dX4_layReach_80 ?_
                        obtain ⟨hi, h3⟩ := ax_some h3
                        obtain ⟨s14, es14, h3⟩ := nm_some h3
                        refine x_iast (ws' := wM cA h ad s14) hC hK hP hD hS 8 0 rfl rfl (by rw [es14]; exact wM_s10 _ _ _ _ _) hi dX4_layReach_81 (fun H locs hP hD hS => ?_)
                        obtain ⟨v15, ev15, h3⟩ := nm_some h3
                        refine lv_iinc (v := v15) (lv' := [(3, .int v15), (2, .int x9), (1, .int x7), (0, .ref h)]) hx hb dX4_layReach_82 hl (k := 0) rfl (by rw [ev15]; rfl) (by decide) rfl (fun ls hl => ?_)
                        refine lv_goto (tgt := 44) hx hb dX4_layReach_85 (by decide) ?_
                        have hc := lp_l h3 hz4
                        exact ih4 v15 s14 hc _ _ hP hD hS ls (lv_sub hl [0, 1, 2, 3] rfl)
                      · have h3 := it_f h3 hc
                        refine lv_aload_n hx hb dX4_layReach_70 rfl (lv_at hl 3 rfl) ?_
                        refine va_get (D := (dC, dI)) (ci := 4) (v := .ref (ad 9)) (C := RX4) (T := TX4) (N := 16) hx hb hts hin0 hown hK hP 0 rfl rfl 9 (by decide) (hts (.fieldLink RX4 29 "MeanLocksModel" "waits" "[I") (List.mem_of_getElem? (i := 2) rfl)) (fun _ h9 => h9) rfl dX4_layReach_71 ?_
                        refine lv_iload_n hx hb dX4_layReach_74 rfl (lv_at hl 0 rfl) ?_
                        obtain ⟨hi, h3⟩ := ax_some h3
                        refine va_iald hx hb hK hP 7 0 rfl rfl hi dX4_layReach_75 ?_
                        refine lv_goto (tgt := 80) hx hb dX4_layReach_76 (by decide) ?_
                        refine lv_ior hx hb dX4_layReach_80 ?_
                        obtain ⟨hi, h3⟩ := ax_some h3
                        obtain ⟨s16, es16, h3⟩ := nm_some h3
                        refine x_iast (ws' := wM cA h ad s16) hC hK hP hD hS 8 0 rfl rfl (by rw [es16]; exact wM_s10 _ _ _ _ _) hi dX4_layReach_81 (fun H locs hP hD hS => ?_)
                        obtain ⟨v17, ev17, h3⟩ := nm_some h3
                        refine lv_iinc (v := v17) (lv' := [(3, .int v17), (2, .int x9), (1, .int x7), (0, .ref h)]) hx hb dX4_layReach_82 hl (k := 0) rfl (by rw [ev17]; rfl) (by decide) rfl (fun ls hl => ?_)
                        refine lv_goto (tgt := 44) hx hb dX4_layReach_85 (by decide) ?_
                        have hc := lp_l h3 hz4
                        exact ih4 v17 s16 hc _ _ hP hD hS ls (lv_sub hl [0, 1, 2, 3] rfl)
                exact LP4 FU (0 : Int32) s10 hl4 _ _ hP hD hS ls hl
          exact LP3 FU (0 : Int32) s8 hl3 _ _ hP hD hS ls hl
    exact LP2 FU (0 : Int32) s6 hl2 _ _ hP hD hS ls hl
  have LP1 : ∀ (n : Nat) (x1 : Int32) (s2 : St), lp (fun t : (Int32 × St) => bX4_layReach_2  t.1 t.2) n (x1, s2) = some ε1 → ∀ (H : Heap) (locs : List Loc), va_P (dC, dI) vwCl (wM cA h ad s2) H → va_D A (wM cA h ad s2) → va_S A s.heap H locs → ∀ (ls : Array Slot), lv_has ls 4 [(1, .int x1), (0, .ref h)] → W p l e (headSpec wsX4_layReach rmX4_layReach).room s m av below meth c H locs 0 0 (MQ below (qV (dC, dI) A (wM cA h ad σ')) av s 0 0 A) (F0 m 2 ls []) := by
    intro n
    induction n with
    | zero => intro x1 s2 hl0; exact (lp_0 hl0).elim
    | succ n ih1 =>
      intro x1 s2 hl0 H locs hP hD hS ls hl
      obtain ⟨z1, h1, hz1⟩ := lp_s hl0
      have h1 : bX4_layReach_2  x1 s2 = some z1 := h1
      unfold bX4_layReach_2 at h1
      refine lv_iload_n hx hb dX4_layReach_2 rfl (lv_at hl 0 rfl) ?_
      refine lv_bipush (v := (8 : Int32)) hx hb dX4_layReach_3 (by decide) ?_
      refine lv_icmp_ge (tgt := 26) hx hb dX4_layReach_5 (by decide) (fun hc => ?_) (fun hc => ?_)
      · have h1 := it_t h1 hc
        have he := lp_r h1 hz1
        exact KN1 x1 s2 he _ _ hP hD hS ls (lv_sub hl [0, 1] rfl)
      · have h1 := it_f h1 hc
        refine lv_aload_n hx hb dX4_layReach_8 rfl (lv_at hl 1 rfl) ?_
        refine va_get (D := (dC, dI)) (ci := 4) (v := .ref (ad 10)) (C := RX4) (T := TX4) (N := 16) hx hb hts hin0 hown hK hP 0 rfl rfl 10 (by decide) (hts (.fieldLink RX4 32 "MeanLocksModel" "reach" "[I") (List.mem_of_getElem? (i := 1) rfl)) (fun _ h9 => h9) rfl dX4_layReach_9 ?_
        refine lv_iload_n hx hb dX4_layReach_12 rfl (lv_at hl 0 rfl) ?_
        refine lv_aload_n hx hb dX4_layReach_13 rfl (lv_at hl 1 rfl) ?_
        refine va_get (D := (dC, dI)) (ci := 4) (v := .ref (ad 9)) (C := RX4) (T := TX4) (N := 16) hx hb hts hin0 hown hK hP 0 rfl rfl 9 (by decide) (hts (.fieldLink RX4 29 "MeanLocksModel" "waits" "[I") (List.mem_of_getElem? (i := 2) rfl)) (fun _ h9 => h9) rfl dX4_layReach_14 ?_
        refine lv_iload_n hx hb dX4_layReach_17 rfl (lv_at hl 0 rfl) ?_
        obtain ⟨hi, h1⟩ := ax_some h1
        refine va_iald hx hb hK hP 7 0 rfl rfl hi dX4_layReach_18 ?_
        obtain ⟨hi, h1⟩ := ax_some h1
        obtain ⟨s3, es3, h1⟩ := nm_some h1
        refine x_iast (ws' := wM cA h ad s3) hC hK hP hD hS 8 0 rfl rfl (by rw [es3]; exact wM_s10 _ _ _ _ _) hi dX4_layReach_19 (fun H locs hP hD hS => ?_)
        obtain ⟨v4, ev4, h1⟩ := nm_some h1
        refine lv_iinc (v := v4) (lv' := [(1, .int v4), (0, .ref h)]) hx hb dX4_layReach_20 hl (k := 0) rfl (by rw [ev4]; rfl) (by decide) rfl (fun ls hl => ?_)
        refine lv_goto (tgt := 2) hx hb dX4_layReach_23 (by decide) ?_
        have hc := lp_l h1 hz1
        exact ih1 v4 s3 hc _ _ hP hD hS ls (lv_sub hl [0, 1] rfl)
  exact LP1 FU (0 : Int32) σ hl1 _ _ hP hD hS ls hl
def bX4_ringOf_4 (a1 : Int32) (σ : St) (x2 : Int32) (x1 : Int32) : Option ((Int32 × Int32) ⊕ (Int32 × Int32)) := if (8 : Int32) ≤ x1 then (some (.inr (x2, x1))) else (ax a1 8 (bnd (fX4_has (σ 10 (a1 : Int32).toNatClampNeg) a1) fun r3 => if (r3 : Int32) = (0 : Int32) then (some (.inr (x2, x1))) else (if (x1 : Int32) = a1 then (nm (x2 ||| ((1 : Int32) <<< (x1 &&& 31))) fun v4 => nm (x1 + (1 : Int32)) fun v5 => some (.inl (v4, v5))) else (ax a1 8 (bnd (fX4_has (σ 10 (a1 : Int32).toNatClampNeg) x1) fun r6 => if (r6 : Int32) = (0 : Int32) then (nm (x2 ||| (0 : Int32)) fun v7 => nm (x1 + (1 : Int32)) fun v8 => some (.inl (v7, v8))) else (ax x1 8 (bnd (fX4_has (σ 10 (x1 : Int32).toNatClampNeg) a1) fun r9 => if (r9 : Int32) = (0 : Int32) then (nm (x2 ||| (0 : Int32)) fun v10 => nm (x1 + (1 : Int32)) fun v11 => some (.inl (v10, v11))) else (nm (x2 ||| ((1 : Int32) <<< (x1 &&& 31))) fun v12 => nm (x1 + (1 : Int32)) fun v13 => some (.inl (v12, v13))))))))))
def fX4_ringOf (a1 : Int32) (σ : St) : Option Int32 := bnd (lp (fun t : (Int32 × Int32) => bX4_ringOf_4 a1 σ t.1 t.2) FU ((0 : Int32), (0 : Int32))) (fun e : (Int32 × Int32) => nm e.1 fun x14 => nm e.2 fun x15 => some x14)
abbrev rmX4_ringOf : Room := { frames := 1, cells := 0, slots := 0, locals := 21 }
set_option maxHeartbeats 4000000 in
set_option maxRecDepth 100000 in
theorem kX4_ringOf (l : Launch) (dC : Nat → ClassId) (dI : Nat → Nat → Nat) (cA : Nat → ClassId) (h : Nat) (ad : Nat → Nat) (a1 : Int32) (σ : St) (R0 : Int32) (h0 : fX4_ringOf a1 σ = some R0) : CI l yX4_ringOf wsX4_ringOf rmX4_ringOf (dC, dI) vwCl (tysW cA) [.ref h, .int a1] (wM cA h ad σ) R0 (wM cA h ad σ) := by
  refine CGI_of (cc := cX4_ringOf) (nL := 4) (ret := (some .int)) (by decide) rfl (Nat.le_of_ble_eq_true rfl) ?_
  intro p e s m av below meth c A ls H locs hC hl
  obtain ⟨hC, hr, hlocks, hV, hN, hK, hP, hD, hS, hA⟩ := hC
  have hC : CallFix p m c cX4_ringOf 4 s _ wsX4_ringOf RX4 := hC
  obtain ⟨hx, hb, hml, hown, hts⟩ := id hC
  have hin0 : ∀ w ∈ u_ws RX4 TX4 16, w ∈ wsX4_ringOf := fun _ h => (List.mem_cons_of_mem _ (List.mem_append_right _ h))
  have hl : lv_has ls 4 [(0, .ref h), (1, .int a1)] := hl
  unfold fX4_ringOf at h0
  refine lv_iconst (v := (0 : Int32)) hx hb dX4_ringOf_0 (by decide) ?_
  refine lv_istore_n (lv' := [(2, .int (0 : Int32)), (0, .ref h), (1, .int a1)]) hx hb dX4_ringOf_1 rfl hl (by decide) rfl (fun ls hl => ?_)
  refine lv_iconst (v := (0 : Int32)) hx hb dX4_ringOf_2 (by decide) ?_
  refine lv_istore_n (lv' := [(3, .int (0 : Int32)), (2, .int (0 : Int32)), (0, .ref h), (1, .int a1)]) hx hb dX4_ringOf_3 rfl hl (by decide) rfl (fun ls hl => ?_)
  obtain ⟨ε1, hl1, h0⟩ := bnd_some h0
  have KN1 : ∀ (x14 : Int32) (x15 : Int32), ε1 = (x14, x15) → ∀ (H : Heap) (locs : List Loc), va_P (dC, dI) vwCl (wM cA h ad σ) H → va_D A (wM cA h ad σ) → va_S A s.heap H locs → ∀ (ls : Array Slot), lv_has ls 4 [(3, .int x15), (2, .int x14), (0, .ref h), (1, .int a1)] → W p l e (headSpec wsX4_ringOf rmX4_ringOf).room s m av below meth c H locs 0 0 (MQ below (qI (dC, dI) A R0 (wM cA h ad σ)) av s 0 0 A) (F0 m 70 ls []) := by
    intro x14 x15 hε H locs hP hD hS ls hl
    rw [hε] at h0
    have h0 := nm_at (z := x14) rfl h0
    have h0 := nm_at (z := x15) rfl h0
    refine lv_iload_n hx hb dX4_ringOf_70 rfl (lv_at hl 1 rfl) ?_
    have e1 := Option.some.inj h0
    exact x_retI hC hr hlocks rfl hP hD hS dX4_ringOf_71 ⟨e1, rfl⟩
  have LP1 : ∀ (n : Nat) (x2 : Int32) (x1 : Int32), lp (fun t : (Int32 × Int32) => bX4_ringOf_4 a1 σ t.1 t.2) n (x2, x1) = some ε1 → ∀ (H : Heap) (locs : List Loc), va_P (dC, dI) vwCl (wM cA h ad σ) H → va_D A (wM cA h ad σ) → va_S A s.heap H locs → ∀ (ls : Array Slot), lv_has ls 4 [(3, .int x1), (2, .int x2), (0, .ref h), (1, .int a1)] → W p l e (headSpec wsX4_ringOf rmX4_ringOf).room s m av below meth c H locs 0 0 (MQ below (qI (dC, dI) A R0 (wM cA h ad σ)) av s 0 0 A) (F0 m 4 ls []) := by
    intro n
    induction n with
    | zero => intro x2 x1 hl0; exact (lp_0 hl0).elim
    | succ n ih1 =>
      intro x2 x1 hl0 H locs hP hD hS ls hl
      obtain ⟨z1, h1, hz1⟩ := lp_s hl0
      have h1 : bX4_ringOf_4 a1 σ x2 x1 = some z1 := h1
      unfold bX4_ringOf_4 at h1
      refine lv_iload_n hx hb dX4_ringOf_4 rfl (lv_at hl 0 rfl) ?_
      refine lv_bipush (v := (8 : Int32)) hx hb dX4_ringOf_5 (by decide) ?_
      refine lv_icmp_ge (tgt := 70) hx hb dX4_ringOf_7 (by decide) (fun hc => ?_) (fun hc => ?_)
      · have h1 := it_t h1 hc
        have he := lp_r h1 hz1
        exact KN1 x2 x1 he _ _ hP hD hS ls (lv_sub hl [0, 1, 2, 3] rfl)
      · have h1 := it_f h1 hc
        refine lv_aload_n hx hb dX4_ringOf_10 rfl (lv_at hl 2 rfl) ?_
        refine va_get (D := (dC, dI)) (ci := 4) (v := .ref (ad 10)) (C := RX4) (T := TX4) (N := 16) hx hb hts hin0 hown hK hP 0 rfl rfl 10 (by decide) (hts (.fieldLink RX4 32 "MeanLocksModel" "reach" "[I") (List.mem_of_getElem? (i := 1) rfl)) (fun _ h9 => h9) rfl dX4_ringOf_11 ?_
        refine lv_iload_n hx hb dX4_ringOf_14 rfl (lv_at hl 3 rfl) ?_
        obtain ⟨hi, h1⟩ := ax_some h1
        refine va_iald hx hb hK hP 8 0 rfl rfl hi dX4_ringOf_15 ?_
        refine lv_iload_n hx hb dX4_ringOf_16 rfl (lv_at hl 3 rfl) ?_
        obtain ⟨r3, hf2, h1⟩ := bnd_some h1
        refine x_SI (As := [.int (σ 10 (a1 : Int32).toNatClampNeg), .int a1]) (rest := []) hC (kX4_has l dC dI cA (σ 10 (a1 : Int32).toNatClampNeg) a1 r3 hf2) (cwS 2 hts gX4_ringOf_X4_has rfl rfl rfl (by decide +kernel) ⟨Nat.le_of_ble_eq_true rfl, Nat.le_of_ble_eq_true rfl⟩) hV hN hK hP hD hS hA rfl hl.1 rfl (Nat.le_of_ble_eq_true rfl) ⟨Nat.zero_le _, Nat.zero_le _⟩ dX4_ringOf_17 (fun H locs hP hD hS => ?_)
        refine lv_if_eq (tgt := 70) hx hb dX4_ringOf_20 (by decide) (fun hc => ?_) (fun hc => ?_)
        · have h1 := it_t h1 hc
          have he := lp_r h1 hz1
          exact KN1 x2 x1 he _ _ hP hD hS ls (lv_sub hl [0, 1, 2, 3] rfl)
        · have h1 := it_f h1 hc
          refine lv_iload_n hx hb dX4_ringOf_23 rfl (lv_at hl 1 rfl) ?_
          refine lv_iload_n hx hb dX4_ringOf_24 rfl (lv_at hl 0 rfl) ?_
          refine lv_iload_n hx hb dX4_ringOf_25 rfl (lv_at hl 3 rfl) ?_
          refine lv_icmp_eq (tgt := 55) hx hb dX4_ringOf_26 (by decide) (fun hc => ?_) (fun hc => ?_)
          · have h1 := it_t h1 hc
            refine lv_iconst (v := (1 : Int32)) hx hb dX4_ringOf_55 (by decide) ?_
            refine lv_iload_n hx hb dX4_ringOf_56 rfl (lv_at hl 0 rfl) ?_
            refine lv_ishl hx hb dX4_ringOf_57 ?_
            refine lv_goto (tgt := 62) hx hb dX4_ringOf_58 (by decide) ?_
            refine lv_ior hx hb dX4_ringOf_62 ?_
            refine lv_topi (fun v4 ev4 => ?_)
            have h1 := nm_at ev4 h1
            refine lv_istore_n (lv' := [(2, .int v4), (3, .int x1), (0, .ref h), (1, .int a1)]) hx hb dX4_ringOf_63 rfl hl (by decide) rfl (fun ls hl => ?_)
            obtain ⟨v5, ev5, h1⟩ := nm_some h1
            refine lv_iinc (v := v5) (lv' := [(3, .int v5), (2, .int v4), (0, .ref h), (1, .int a1)]) hx hb dX4_ringOf_64 hl (k := 1) rfl (by rw [ev5]; rfl) (by decide) rfl (fun ls hl => ?_)
            refine lv_goto (tgt := 4) hx hb dX4_ringOf_67 (by decide) ?_
            have hc := lp_l h1 hz1
            exact ih1 v4 v5 hc _ _ hP hD hS ls (lv_sub hl [0, 1, 2, 3] rfl)
          · have h1 := it_f h1 hc
            refine lv_aload_n hx hb dX4_ringOf_29 rfl (lv_at hl 2 rfl) ?_
            refine va_get (D := (dC, dI)) (ci := 4) (v := .ref (ad 10)) (C := RX4) (T := TX4) (N := 16) hx hb hts hin0 hown hK hP 0 rfl rfl 10 (by decide) (hts (.fieldLink RX4 32 "MeanLocksModel" "reach" "[I") (List.mem_of_getElem? (i := 1) rfl)) (fun _ h9 => h9) rfl dX4_ringOf_30 ?_
            refine lv_iload_n hx hb dX4_ringOf_33 rfl (lv_at hl 3 rfl) ?_
            obtain ⟨hi, h1⟩ := ax_some h1
            refine va_iald hx hb hK hP 8 0 rfl rfl hi dX4_ringOf_34 ?_
            refine lv_iload_n hx hb dX4_ringOf_35 rfl (lv_at hl 0 rfl) ?_
            obtain ⟨r6, hf3, h1⟩ := bnd_some h1
            refine x_SI (As := [.int (σ 10 (a1 : Int32).toNatClampNeg), .int x1]) (rest := [.int x2]) hC (kX4_has l dC dI cA (σ 10 (a1 : Int32).toNatClampNeg) x1 r6 hf3) (cwS 2 hts gX4_ringOf_X4_has rfl rfl rfl (by decide +kernel) ⟨Nat.le_of_ble_eq_true rfl, Nat.le_of_ble_eq_true rfl⟩) hV hN hK hP hD hS hA rfl hl.1 rfl (Nat.le_of_ble_eq_true rfl) ⟨Nat.zero_le _, Nat.zero_le _⟩ dX4_ringOf_36 (fun H locs hP hD hS => ?_)
            refine lv_if_eq (tgt := 61) hx hb dX4_ringOf_39 (by decide) (fun hc => ?_) (fun hc => ?_)
            · have h1 := it_t h1 hc
              refine lv_iconst (v := (0 : Int32)) hx hb dX4_ringOf_61 (by decide) ?_
              refine lv_ior hx hb dX4_ringOf_62 ?_
              refine lv_topi (fun v7 ev7 => ?_)
              have h1 := nm_at ev7 h1
              refine lv_istore_n (lv' := [(2, .int v7), (3, .int x1), (0, .ref h), (1, .int a1)]) hx hb dX4_ringOf_63 rfl hl (by decide) rfl (fun ls hl => ?_)
              obtain ⟨v8, ev8, h1⟩ := nm_some h1
              refine lv_iinc (v := v8) (lv' := [(3, .int v8), (2, .int v7), (0, .ref h), (1, .int a1)]) hx hb dX4_ringOf_64 hl (k := 1) rfl (by rw [ev8]; rfl) (by decide) rfl (fun ls hl => ?_)
              refine lv_goto (tgt := 4) hx hb dX4_ringOf_67 (by decide) ?_
              have hc := lp_l h1 hz1
              exact ih1 v7 v8 hc _ _ hP hD hS ls (lv_sub hl [0, 1, 2, 3] rfl)
            · have h1 := it_f h1 hc
              refine lv_aload_n hx hb dX4_ringOf_42 rfl (lv_at hl 2 rfl) ?_
              refine va_get (D := (dC, dI)) (ci := 4) (v := .ref (ad 10)) (C := RX4) (T := TX4) (N := 16) hx hb hts hin0 hown hK hP 0 rfl rfl 10 (by decide) (hts (.fieldLink RX4 32 "MeanLocksModel" "reach" "[I") (List.mem_of_getElem? (i := 1) rfl)) (fun _ h9 => h9) rfl dX4_ringOf_43 ?_
              refine lv_iload_n hx hb dX4_ringOf_46 rfl (lv_at hl 0 rfl) ?_
              obtain ⟨hi, h1⟩ := ax_some h1
              refine va_iald hx hb hK hP 8 0 rfl rfl hi dX4_ringOf_47 ?_
              refine lv_iload_n hx hb dX4_ringOf_48 rfl (lv_at hl 3 rfl) ?_
              obtain ⟨r9, hf4, h1⟩ := bnd_some h1
              refine x_SI (As := [.int (σ 10 (x1 : Int32).toNatClampNeg), .int a1]) (rest := [.int x2]) hC (kX4_has l dC dI cA (σ 10 (x1 : Int32).toNatClampNeg) a1 r9 hf4) (cwS 2 hts gX4_ringOf_X4_has rfl rfl rfl (by decide +kernel) ⟨Nat.le_of_ble_eq_true rfl, Nat.le_of_ble_eq_true rfl⟩) hV hN hK hP hD hS hA rfl hl.1 rfl (Nat.le_of_ble_eq_true rfl) ⟨Nat.zero_le _, Nat.zero_le _⟩ dX4_ringOf_49 (fun H locs hP hD hS => ?_)
              refine lv_if_eq (tgt := 61) hx hb dX4_ringOf_52 (by decide) (fun hc => ?_) (fun hc => ?_)
              · have h1 := it_t h1 hc
                refine lv_iconst (v := (0 : Int32)) hx hb dX4_ringOf_61 (by decide) ?_
                refine lv_ior hx hb dX4_ringOf_62 ?_
                refine lv_topi (fun v10 ev10 => ?_)
                have h1 := nm_at ev10 h1
                refine lv_istore_n (lv' := [(2, .int v10), (3, .int x1), (0, .ref h), (1, .int a1)]) hx hb dX4_ringOf_63 rfl hl (by decide) rfl (fun ls hl => ?_)
                obtain ⟨v11, ev11, h1⟩ := nm_some h1
                refine lv_iinc (v := v11) (lv' := [(3, .int v11), (2, .int v10), (0, .ref h), (1, .int a1)]) hx hb dX4_ringOf_64 hl (k := 1) rfl (by rw [ev11]; rfl) (by decide) rfl (fun ls hl => ?_)
                refine lv_goto (tgt := 4) hx hb dX4_ringOf_67 (by decide) ?_
                have hc := lp_l h1 hz1
                exact ih1 v10 v11 hc _ _ hP hD hS ls (lv_sub hl [0, 1, 2, 3] rfl)
              · have h1 := it_f h1 hc
                refine lv_iconst (v := (1 : Int32)) hx hb dX4_ringOf_55 (by decide) ?_
                refine lv_iload_n hx hb dX4_ringOf_56 rfl (lv_at hl 0 rfl) ?_
                refine lv_ishl hx hb dX4_ringOf_57 ?_
                refine lv_goto (tgt := 62) hx hb dX4_ringOf_58 (by decide) ?_
                refine lv_ior hx hb dX4_ringOf_62 ?_
                refine lv_topi (fun v12 ev12 => ?_)
                have h1 := nm_at ev12 h1
                refine lv_istore_n (lv' := [(2, .int v12), (3, .int x1), (0, .ref h), (1, .int a1)]) hx hb dX4_ringOf_63 rfl hl (by decide) rfl (fun ls hl => ?_)
                obtain ⟨v13, ev13, h1⟩ := nm_some h1
                refine lv_iinc (v := v13) (lv' := [(3, .int v13), (2, .int v12), (0, .ref h), (1, .int a1)]) hx hb dX4_ringOf_64 hl (k := 1) rfl (by rw [ev13]; rfl) (by decide) rfl (fun ls hl => ?_)
                refine lv_goto (tgt := 4) hx hb dX4_ringOf_67 (by decide) ?_
                have hc := lp_l h1 hz1
                exact ih1 v12 v13 hc _ _ hP hD hS ls (lv_sub hl [0, 1, 2, 3] rfl)
  exact LP1 FU (0 : Int32) (0 : Int32) hl1 _ _ hP hD hS ls hl
def fX4_ringNow (a1 : Int32) (σ : St) : Option (Int32 × St) := bnd (fX4_layWaits  σ) fun s2 => bnd (fX4_layReach  s2) fun s4 => bnd (fX4_ringOf a1 s4) fun r5 => some (r5, s4)
abbrev rmX4_ringNow : Room := { frames := 6, cells := 0, slots := 0, locals := 144 }
set_option maxHeartbeats 4000000 in
set_option maxRecDepth 100000 in
theorem kX4_ringNow (l : Launch) (dC : Nat → ClassId) (dI : Nat → Nat → Nat) (cA : Nat → ClassId) (h : Nat) (ad : Nat → Nat) (a1 : Int32) (σ : St) (R0 : Int32) (σ' : St) (h0 : fX4_ringNow a1 σ = some (R0, σ')) : CI l yX4_ringNow wsX4_ringNow rmX4_ringNow (dC, dI) vwCl (tysW cA) [.ref h, .int a1] (wM cA h ad σ) R0 (wM cA h ad σ') := by
  refine CGI_of (cc := cX4_ringNow) (nL := 2) (ret := (some .int)) (by decide) rfl (Nat.le_of_ble_eq_true rfl) ?_
  intro p e s m av below meth c A ls H locs hC hl
  obtain ⟨hC, hr, hlocks, hV, hN, hK, hP, hD, hS, hA⟩ := hC
  have hC : CallFix p m c cX4_ringNow 2 s _ wsX4_ringNow RX4 := hC
  obtain ⟨hx, hb, hml, hown, hts⟩ := id hC
  have hin0 : ∀ w ∈ u_ws RX4 TX4 16, w ∈ wsX4_ringNow := fun _ h => (List.mem_cons_of_mem _ (List.mem_append_right _ h))
  have hl : lv_has ls 2 [(0, .ref h), (1, .int a1)] := hl
  unfold fX4_ringNow at h0
  refine lv_aload_n hx hb dX4_ringNow_0 rfl (lv_at hl 0 rfl) ?_
  obtain ⟨s2, hf1, h0⟩ := bnd_some h0
  refine x_VV (As := []) (rest := []) hC (kX4_layWaits l dC dI cA h ad σ s2 hf1) (cwV 0 hts gX4_ringNow_X4_layWaits rfl rfl rfl (by decide +kernel) ⟨Nat.le_of_ble_eq_true rfl, Nat.le_of_ble_eq_true rfl⟩) 0 4 hV hN hK hP hD hS hA rfl rfl rfl rfl hl.1 rfl (Nat.le_of_ble_eq_true rfl) ⟨Nat.zero_le _, Nat.zero_le _⟩ dX4_ringNow_1 (fun H locs hP hD hS => ?_)
  refine lv_aload_n hx hb dX4_ringNow_4 rfl (lv_at hl 0 rfl) ?_
  obtain ⟨s4, hf2, h0⟩ := bnd_some h0
  refine x_VV (As := []) (rest := []) hC (kX4_layReach l dC dI cA h ad s2 s4 hf2) (cwV 0 hts gX4_ringNow_X4_layReach rfl rfl rfl (by decide +kernel) ⟨Nat.le_of_ble_eq_true rfl, Nat.le_of_ble_eq_true rfl⟩) 0 4 hV hN hK hP hD hS hA rfl rfl rfl rfl hl.1 rfl (Nat.le_of_ble_eq_true rfl) ⟨Nat.zero_le _, Nat.zero_le _⟩ dX4_ringNow_5 (fun H locs hP hD hS => ?_)
  refine lv_aload_n hx hb dX4_ringNow_8 rfl (lv_at hl 0 rfl) ?_
  refine lv_iload_n hx hb dX4_ringNow_9 rfl (lv_at hl 1 rfl) ?_
  obtain ⟨r5, hf3, h0⟩ := bnd_some h0
  refine x_VI (As := [.int a1]) (rest := []) hC (kX4_ringOf l dC dI cA h ad a1 s4 r5  hf3) (cwV 1 hts gX4_ringNow_X4_ringOf rfl rfl rfl (by decide +kernel) ⟨Nat.le_of_ble_eq_true rfl, Nat.le_of_ble_eq_true rfl⟩) 0 4 hV hN hK hP hD hS hA rfl rfl rfl rfl hl.1 rfl (Nat.le_of_ble_eq_true rfl) ⟨Nat.zero_le _, Nat.zero_le _⟩ dX4_ringNow_10 (fun H locs hP hD hS => ?_)
  obtain ⟨e1, e2⟩ := Prod.mk.inj (Option.some.inj h0)
  exact x_retI hC hr hlocks rfl hP hD hS dX4_ringNow_13 ⟨e1, by rw [← e2]⟩
def bX4_tryRequest_222 (a1 : Int32) (x30 : Int32) (s31 : St) : Option ((Int32 × St) ⊕ (Int32 × St)) := if (x30 : Int32) = (0 : Int32) then (some (.inr (x30, s31))) else (bnd (fX4_breakRing x30 s31) fun s33 => bn2 (fX4_ringNow a1 s33) fun r34 s35 => some (.inl (r34, s35)))
def bX4_tryRequest_222_2 (a1 : Int32) (x55 : Int32) (s56 : St) : Option ((Int32 × St) ⊕ (Int32 × St)) := if (x55 : Int32) = (0 : Int32) then (some (.inr (x55, s56))) else (bnd (fX4_breakRing x55 s56) fun s58 => bn2 (fX4_ringNow a1 s58) fun r59 s60 => some (.inl (r59, s60)))
def fX4_tryRequest (a1 : Int32) (a2 : Int32) (a3 : Int32) (a4 : Int32) (a5 : Int32) (a6 : Int32) (σ : St) : Option (Int32 × St) := bnd (fX4_isOwner a1) fun r1 => if (r1 : Int32) = (0 : Int32) then (some ((-1 : Int32), σ)) else (bnd (fX4_in a2 (1 : Int32) (3 : Int32)) fun r2 => if (r2 : Int32) = (0 : Int32) then (some ((-2 : Int32), σ)) else (bnd (fX4_isRange a3 a4) fun r3 => if (r3 : Int32) = (0 : Int32) then (some ((-2 : Int32), σ)) else (bnd (fX4_in a5 (0 : Int32) (1 : Int32)) fun r4 => if (r4 : Int32) = (0 : Int32) then (some ((-2 : Int32), σ)) else (bnd (fX4_of a1 (0 : Int32) σ) fun r5 => if (r5 : Int32) ≤ (0 : Int32) then (ax (1 : Int32) 2488 (bnd (fX4_stoppedIn a1 a2 a3 a4 (σ 0 ((1 : Int32) : Int32).toNatClampNeg) σ) fun r6 => if (r6 : Int32) = (0 : Int32) then (bnd (fX4_keepIf a6 σ) fun s65 => bnd (fX4_give a1 a2 a3 a4 s65) fun s67 => bnd (fX4_goThrough  s67) fun s69 => some ((1 : Int32), s69)) else (if (a5 : Int32) = (0 : Int32) then (some ((-5 : Int32), σ)) else (bnd (fX4_of a1 (1 : Int32) σ) fun r7 => bnd (fX4_of a1 (2 : Int32) σ) fun r8 => bnd (fX4_of a1 (3 : Int32) σ) fun r9 => bnd (fX4_joinRow a1 a2 a3 a4 σ) fun s11 => bn2 (fX4_ringNow a1 s11) fun r12 s13 => if (r12 : Int32) = (0 : Int32) then (bnd (fX4_leaveRow a1 s13) fun s15 => bnd (fX4_lay a1 (1 : Int32) r7 s15) fun s17 => bnd (fX4_lay a1 (2 : Int32) r8 s17) fun s19 => bnd (fX4_lay a1 (3 : Int32) r9 s19) fun s21 => bnd (fX4_keepIf a6 s21) fun s23 => bnd (fX4_joinRow a1 a2 a3 a4 s23) fun s25 => bnd (fX4_more a1 (5 : Int32) (1 : Int32) s25) fun s27 => bn2 (fX4_ringNow a1 s27) fun r28 s29 => bnd (lp (fun t : (Int32 × St) => bX4_tryRequest_222 a1 t.1 t.2) FU (r28, s29)) (fun e : (Int32 × St) => nm e.1 fun x36 => nm e.2 fun s37 => bnd (fX4_of a1 (0 : Int32) s37) fun r38 => if (r38 : Int32) ≤ (0 : Int32) then (some ((1 : Int32), s37)) else (some ((0 : Int32), s37)))) else (bnd (fX4_leaveRow a1 s13) fun s40 => bnd (fX4_lay a1 (1 : Int32) r7 s40) fun s42 => bnd (fX4_lay a1 (2 : Int32) r8 s42) fun s44 => bnd (fX4_lay a1 (3 : Int32) r9 s44) fun s46 => ax (3 : Int32) 2488 (if ((s46 0 ((3 : Int32) : Int32).toNatClampNeg) : Int32) = (0 : Int32) then (some ((-5 : Int32), s46)) else (bnd (fX4_keepIf a6 s46) fun s48 => bnd (fX4_joinRow a1 a2 a3 a4 s48) fun s50 => bnd (fX4_more a1 (5 : Int32) (1 : Int32) s50) fun s52 => bn2 (fX4_ringNow a1 s52) fun r53 s54 => bnd (lp (fun t : (Int32 × St) => bX4_tryRequest_222_2 a1 t.1 t.2) FU (r53, s54)) (fun e : (Int32 × St) => nm e.1 fun x61 => nm e.2 fun s62 => bnd (fX4_of a1 (0 : Int32) s62) fun r63 => if (r63 : Int32) ≤ (0 : Int32) then (some ((1 : Int32), s62)) else (some ((0 : Int32), s62)))))))))) else (some ((-5 : Int32), σ))))))
abbrev rmX4_tryRequest : Room := { frames := 8, cells := 0, slots := 0, locals := 192 }
set_option maxHeartbeats 4000000 in
set_option maxRecDepth 100000 in
theorem kX4_tryRequest (l : Launch) (dC : Nat → ClassId) (dI : Nat → Nat → Nat) (cA : Nat → ClassId) (h : Nat) (ad : Nat → Nat) (a1 : Int32) (a2 : Int32) (a3 : Int32) (a4 : Int32) (a5 : Int32) (a6 : Int32) (σ : St) (R0 : Int32) (σ' : St) (h0 : fX4_tryRequest a1 a2 a3 a4 a5 a6 σ = some (R0, σ')) : CI l yX4_tryRequest wsX4_tryRequest rmX4_tryRequest (dC, dI) vwCl (tysW cA) [.ref h, .int a1, .int a2, .int a3, .int a4, .int a5, .int a6] (wM cA h ad σ) R0 (wM cA h ad σ') := by
  refine CGI_of (cc := cX4_tryRequest) (nL := 12) (ret := (some .int)) (by decide) rfl (Nat.le_of_ble_eq_true rfl) ?_
  intro p e s m av below meth c A ls H locs hC hl
  obtain ⟨hC, hr, hlocks, hV, hN, hK, hP, hD, hS, hA⟩ := hC
  have hC : CallFix p m c cX4_tryRequest 12 s _ wsX4_tryRequest RX4 := hC
  obtain ⟨hx, hb, hml, hown, hts⟩ := id hC
  have hin0 : ∀ w ∈ u_ws RX4 TX4 16, w ∈ wsX4_tryRequest := fun _ h => (List.mem_cons_of_mem _ (List.mem_append_right _ h))
  have hl : lv_has ls 12 [(0, .ref h), (1, .int a1), (2, .int a2), (3, .int a3), (4, .int a4), (5, .int a5), (6, .int a6)] := hl
  unfold fX4_tryRequest at h0
  refine lv_iload_n hx hb dX4_tryRequest_0 rfl (lv_at hl 1 rfl) ?_
  obtain ⟨r1, hf1, h0⟩ := bnd_some h0
  refine x_SI (As := [.int a1]) (rest := []) hC (kX4_isOwner l dC dI cA a1 r1 hf1) (cwS 1 hts gX4_tryRequest_X4_isOwner rfl rfl rfl (by decide +kernel) ⟨Nat.le_of_ble_eq_true rfl, Nat.le_of_ble_eq_true rfl⟩) hV hN hK hP hD hS hA rfl hl.1 rfl (Nat.le_of_ble_eq_true rfl) ⟨Nat.zero_le _, Nat.zero_le _⟩ dX4_tryRequest_1 (fun H locs hP hD hS => ?_)
  refine lv_if_ne (tgt := 9) hx hb dX4_tryRequest_4 (by decide) (fun hc => ?_) (fun hc => ?_)
  · have h0 := it_f h0 hc
    refine lv_iload_n hx hb dX4_tryRequest_9 rfl (lv_at hl 2 rfl) ?_
    refine lv_iconst (v := (1 : Int32)) hx hb dX4_tryRequest_10 (by decide) ?_
    refine lv_iconst (v := (3 : Int32)) hx hb dX4_tryRequest_11 (by decide) ?_
    obtain ⟨r2, hf2, h0⟩ := bnd_some h0
    refine x_SI (As := [.int a2, .int (1 : Int32), .int (3 : Int32)]) (rest := []) hC (kX4_in l dC dI cA a2 (1 : Int32) (3 : Int32) r2 hf2) (cwS 3 hts gX4_tryRequest_X4_in rfl rfl rfl (by decide +kernel) ⟨Nat.le_of_ble_eq_true rfl, Nat.le_of_ble_eq_true rfl⟩) hV hN hK hP hD hS hA rfl hl.1 rfl (Nat.le_of_ble_eq_true rfl) ⟨Nat.zero_le _, Nat.zero_le _⟩ dX4_tryRequest_12 (fun H locs hP hD hS => ?_)
    refine lv_if_eq (tgt := 37) hx hb dX4_tryRequest_15 (by decide) (fun hc => ?_) (fun hc => ?_)
    · have h0 := it_t h0 hc
      refine lv_bipush (v := (-2 : Int32)) hx hb dX4_tryRequest_37 (by decide) ?_
      obtain ⟨e1, e2⟩ := Prod.mk.inj (Option.some.inj h0)
      exact x_retI hC hr hlocks rfl hP hD hS dX4_tryRequest_39 ⟨e1, by rw [← e2]⟩
    · have h0 := it_f h0 hc
      refine lv_iload_n hx hb dX4_tryRequest_18 rfl (lv_at hl 3 rfl) ?_
      refine lv_iload hx hb dX4_tryRequest_19 (lv_at hl 4 rfl) ?_
      obtain ⟨r3, hf3, h0⟩ := bnd_some h0
      refine x_SI (As := [.int a3, .int a4]) (rest := []) hC (kX4_isRange l dC dI cA a3 a4 r3 hf3) (cwS 2 hts gX4_tryRequest_X4_isRange rfl rfl rfl (by decide +kernel) ⟨Nat.le_of_ble_eq_true rfl, Nat.le_of_ble_eq_true rfl⟩) hV hN hK hP hD hS hA rfl hl.1 rfl (Nat.le_of_ble_eq_true rfl) ⟨Nat.zero_le _, Nat.zero_le _⟩ dX4_tryRequest_21 (fun H locs hP hD hS => ?_)
      refine lv_if_eq (tgt := 37) hx hb dX4_tryRequest_24 (by decide) (fun hc => ?_) (fun hc => ?_)
      · have h0 := it_t h0 hc
        refine lv_bipush (v := (-2 : Int32)) hx hb dX4_tryRequest_37 (by decide) ?_
        obtain ⟨e1, e2⟩ := Prod.mk.inj (Option.some.inj h0)
        exact x_retI hC hr hlocks rfl hP hD hS dX4_tryRequest_39 ⟨e1, by rw [← e2]⟩
      · have h0 := it_f h0 hc
        refine lv_iload hx hb dX4_tryRequest_27 (lv_at hl 5 rfl) ?_
        refine lv_iconst (v := (0 : Int32)) hx hb dX4_tryRequest_29 (by decide) ?_
        refine lv_iconst (v := (1 : Int32)) hx hb dX4_tryRequest_30 (by decide) ?_
        obtain ⟨r4, hf4, h0⟩ := bnd_some h0
        refine x_SI (As := [.int a5, .int (0 : Int32), .int (1 : Int32)]) (rest := []) hC (kX4_in l dC dI cA a5 (0 : Int32) (1 : Int32) r4 hf4) (cwS 3 hts gX4_tryRequest_X4_in rfl rfl rfl (by decide +kernel) ⟨Nat.le_of_ble_eq_true rfl, Nat.le_of_ble_eq_true rfl⟩) hV hN hK hP hD hS hA rfl hl.1 rfl (Nat.le_of_ble_eq_true rfl) ⟨Nat.zero_le _, Nat.zero_le _⟩ dX4_tryRequest_31 (fun H locs hP hD hS => ?_)
        refine lv_if_ne (tgt := 40) hx hb dX4_tryRequest_34 (by decide) (fun hc => ?_) (fun hc => ?_)
        · have h0 := it_f h0 hc
          refine lv_aload_n hx hb dX4_tryRequest_40 rfl (lv_at hl 0 rfl) ?_
          refine lv_iload_n hx hb dX4_tryRequest_41 rfl (lv_at hl 1 rfl) ?_
          refine lv_iconst (v := (0 : Int32)) hx hb dX4_tryRequest_42 (by decide) ?_
          obtain ⟨r5, hf5, h0⟩ := bnd_some h0
          refine x_VI (As := [.int a1, .int (0 : Int32)]) (rest := []) hC (kX4_of l dC dI cA h ad a1 (0 : Int32) σ r5  hf5) (cwV 2 hts gX4_tryRequest_X4_of rfl rfl rfl (by decide +kernel) ⟨Nat.le_of_ble_eq_true rfl, Nat.le_of_ble_eq_true rfl⟩) 0 4 hV hN hK hP hD hS hA rfl rfl rfl rfl hl.1 rfl (Nat.le_of_ble_eq_true rfl) ⟨Nat.zero_le _, Nat.zero_le _⟩ dX4_tryRequest_43 (fun H locs hP hD hS => ?_)
          refine lv_if_le (tgt := 52) hx hb dX4_tryRequest_46 (by decide) (fun hc => ?_) (fun hc => ?_)
          · have h0 := it_t h0 hc
            refine lv_aload_n hx hb dX4_tryRequest_52 rfl (lv_at hl 0 rfl) ?_
            refine lv_iload_n hx hb dX4_tryRequest_53 rfl (lv_at hl 1 rfl) ?_
            refine lv_iload_n hx hb dX4_tryRequest_54 rfl (lv_at hl 2 rfl) ?_
            refine lv_iload_n hx hb dX4_tryRequest_55 rfl (lv_at hl 3 rfl) ?_
            refine lv_iload hx hb dX4_tryRequest_56 (lv_at hl 4 rfl) ?_
            refine lv_aload_n hx hb dX4_tryRequest_58 rfl (lv_at hl 0 rfl) ?_
            refine va_get (D := (dC, dI)) (ci := 4) (v := .ref (ad 0)) (C := RX4) (T := TX4) (N := 16) hx hb hts hin0 hown hK hP 0 rfl rfl 0 (by decide) (hts (.fieldLink RX4 7 "MeanLocksModel" "at" "[I") (List.mem_of_getElem? (i := 1) rfl)) (fun _ h9 => h9) rfl dX4_tryRequest_59 ?_
            refine lv_iconst (v := (1 : Int32)) hx hb dX4_tryRequest_62 (by decide) ?_
            obtain ⟨hi, h0⟩ := ax_some h0
            refine va_iald hx hb hK hP 1 0 rfl rfl hi dX4_tryRequest_63 ?_
            obtain ⟨r6, hf6, h0⟩ := bnd_some h0
            refine x_VI (As := [.int a1, .int a2, .int a3, .int a4, .int (σ 0 ((1 : Int32) : Int32).toNatClampNeg)]) (rest := []) hC (kX4_stoppedIn l dC dI cA h ad a1 a2 a3 a4 (σ 0 ((1 : Int32) : Int32).toNatClampNeg) σ r6  hf6) (cwV 5 hts gX4_tryRequest_X4_stoppedIn rfl rfl rfl (by decide +kernel) ⟨Nat.le_of_ble_eq_true rfl, Nat.le_of_ble_eq_true rfl⟩) 0 4 hV hN hK hP hD hS hA rfl rfl rfl rfl hl.1 rfl (Nat.le_of_ble_eq_true rfl) ⟨Nat.zero_le _, Nat.zero_le _⟩ dX4_tryRequest_64 (fun H locs hP hD hS => ?_)
            refine lv_if_ne (tgt := 91) hx hb dX4_tryRequest_67 (by decide) (fun hc => ?_) (fun hc => ?_)
            · have h0 := it_f h0 hc
              refine lv_iload hx hb dX4_tryRequest_91 (lv_at hl 5 rfl) ?_
              refine lv_if_ne (tgt := 99) hx hb dX4_tryRequest_93 (by decide) (fun hc => ?_) (fun hc => ?_)
              · have h0 := it_f h0 hc
                refine lv_aload_n hx hb dX4_tryRequest_99 rfl (lv_at hl 0 rfl) ?_
                refine lv_iload_n hx hb dX4_tryRequest_100 rfl (lv_at hl 1 rfl) ?_
                refine lv_iconst (v := (1 : Int32)) hx hb dX4_tryRequest_101 (by decide) ?_
                obtain ⟨r7, hf7, h0⟩ := bnd_some h0
                refine x_VI (As := [.int a1, .int (1 : Int32)]) (rest := []) hC (kX4_of l dC dI cA h ad a1 (1 : Int32) σ r7  hf7) (cwV 2 hts gX4_tryRequest_X4_of rfl rfl rfl (by decide +kernel) ⟨Nat.le_of_ble_eq_true rfl, Nat.le_of_ble_eq_true rfl⟩) 0 4 hV hN hK hP hD hS hA rfl rfl rfl rfl hl.1 rfl (Nat.le_of_ble_eq_true rfl) ⟨Nat.zero_le _, Nat.zero_le _⟩ dX4_tryRequest_102 (fun H locs hP hD hS => ?_)
                refine lv_istore (lv' := [(7, .int r7), (0, .ref h), (1, .int a1), (2, .int a2), (3, .int a3), (4, .int a4), (5, .int a5), (6, .int a6)]) hx hb dX4_tryRequest_105 hl (by decide) rfl (fun ls hl => ?_)
                refine lv_aload_n hx hb dX4_tryRequest_107 rfl (lv_at hl 1 rfl) ?_
                refine lv_iload_n hx hb dX4_tryRequest_108 rfl (lv_at hl 2 rfl) ?_
                refine lv_iconst (v := (2 : Int32)) hx hb dX4_tryRequest_109 (by decide) ?_
                obtain ⟨r8, hf8, h0⟩ := bnd_some h0
                refine x_VI (As := [.int a1, .int (2 : Int32)]) (rest := []) hC (kX4_of l dC dI cA h ad a1 (2 : Int32) σ r8  hf8) (cwV 2 hts gX4_tryRequest_X4_of rfl rfl rfl (by decide +kernel) ⟨Nat.le_of_ble_eq_true rfl, Nat.le_of_ble_eq_true rfl⟩) 0 4 hV hN hK hP hD hS hA rfl rfl rfl rfl hl.1 rfl (Nat.le_of_ble_eq_true rfl) ⟨Nat.zero_le _, Nat.zero_le _⟩ dX4_tryRequest_110 (fun H locs hP hD hS => ?_)
                refine lv_istore (lv' := [(8, .int r8), (7, .int r7), (0, .ref h), (1, .int a1), (2, .int a2), (3, .int a3), (4, .int a4), (5, .int a5), (6, .int a6)]) hx hb dX4_tryRequest_113 hl (by decide) rfl (fun ls hl => ?_)
                refine lv_aload_n hx hb dX4_tryRequest_115 rfl (lv_at hl 2 rfl) ?_
                refine lv_iload_n hx hb dX4_tryRequest_116 rfl (lv_at hl 3 rfl) ?_
                refine lv_iconst (v := (3 : Int32)) hx hb dX4_tryRequest_117 (by decide) ?_
                obtain ⟨r9, hf9, h0⟩ := bnd_some h0
                refine x_VI (As := [.int a1, .int (3 : Int32)]) (rest := []) hC (kX4_of l dC dI cA h ad a1 (3 : Int32) σ r9  hf9) (cwV 2 hts gX4_tryRequest_X4_of rfl rfl rfl (by decide +kernel) ⟨Nat.le_of_ble_eq_true rfl, Nat.le_of_ble_eq_true rfl⟩) 0 4 hV hN hK hP hD hS hA rfl rfl rfl rfl hl.1 rfl (Nat.le_of_ble_eq_true rfl) ⟨Nat.zero_le _, Nat.zero_le _⟩ dX4_tryRequest_118 (fun H locs hP hD hS => ?_)
                refine lv_istore (lv' := [(9, .int r9), (8, .int r8), (7, .int r7), (0, .ref h), (1, .int a1), (2, .int a2), (3, .int a3), (4, .int a4), (5, .int a5), (6, .int a6)]) hx hb dX4_tryRequest_121 hl (by decide) rfl (fun ls hl => ?_)
                refine lv_aload_n hx hb dX4_tryRequest_123 rfl (lv_at hl 3 rfl) ?_
                refine lv_iload_n hx hb dX4_tryRequest_124 rfl (lv_at hl 4 rfl) ?_
                refine lv_iload_n hx hb dX4_tryRequest_125 rfl (lv_at hl 5 rfl) ?_
                refine lv_iload_n hx hb dX4_tryRequest_126 rfl (lv_at hl 6 rfl) ?_
                refine lv_iload hx hb dX4_tryRequest_127 (lv_at hl 7 rfl) ?_
                obtain ⟨s11, hf10, h0⟩ := bnd_some h0
                refine x_VV (As := [.int a1, .int a2, .int a3, .int a4]) (rest := []) hC (kX4_joinRow l dC dI cA h ad a1 a2 a3 a4 σ s11 hf10) (cwV 4 hts gX4_tryRequest_X4_joinRow rfl rfl rfl (by decide +kernel) ⟨Nat.le_of_ble_eq_true rfl, Nat.le_of_ble_eq_true rfl⟩) 0 4 hV hN hK hP hD hS hA rfl rfl rfl rfl hl.1 rfl (Nat.le_of_ble_eq_true rfl) ⟨Nat.zero_le _, Nat.zero_le _⟩ dX4_tryRequest_129 (fun H locs hP hD hS => ?_)
                refine lv_aload_n hx hb dX4_tryRequest_132 rfl (lv_at hl 3 rfl) ?_
                refine lv_iload_n hx hb dX4_tryRequest_133 rfl (lv_at hl 4 rfl) ?_
                obtain ⟨r12, s13, hf11, h0⟩ := bn2_some h0
                refine x_VI (As := [.int a1]) (rest := []) hC (kX4_ringNow l dC dI cA h ad a1 s11 r12 s13 hf11) (cwV 1 hts gX4_tryRequest_X4_ringNow rfl rfl rfl (by decide +kernel) ⟨Nat.le_of_ble_eq_true rfl, Nat.le_of_ble_eq_true rfl⟩) 0 4 hV hN hK hP hD hS hA rfl rfl rfl rfl hl.1 rfl (Nat.le_of_ble_eq_true rfl) ⟨Nat.zero_le _, Nat.zero_le _⟩ dX4_tryRequest_134 (fun H locs hP hD hS => ?_)
                refine lv_if_eq (tgt := 144) hx hb dX4_tryRequest_137 (by decide) (fun hc => ?_) (fun hc => ?_)
                · have h0 := it_t h0 hc
                  refine lv_iconst (v := (0 : Int32)) hx hb dX4_tryRequest_144 (by decide) ?_
                  refine lv_istore (lv' := [(10, .int (0 : Int32)), (9, .int r9), (8, .int r8), (7, .int r7), (0, .ref h), (1, .int a1), (2, .int a2), (3, .int a3), (4, .int a4), (5, .int a5), (6, .int a6)]) hx hb dX4_tryRequest_145 hl (by decide) rfl (fun ls hl => ?_)
                  refine lv_aload_n hx hb dX4_tryRequest_147 rfl (lv_at hl 4 rfl) ?_
                  refine lv_iload_n hx hb dX4_tryRequest_148 rfl (lv_at hl 5 rfl) ?_
                  obtain ⟨s15, hf12, h0⟩ := bnd_some h0
                  refine x_VV (As := [.int a1]) (rest := []) hC (kX4_leaveRow l dC dI cA h ad a1 s13 s15 hf12) (cwV 1 hts gX4_tryRequest_X4_leaveRow rfl rfl rfl (by decide +kernel) ⟨Nat.le_of_ble_eq_true rfl, Nat.le_of_ble_eq_true rfl⟩) 0 4 hV hN hK hP hD hS hA rfl rfl rfl rfl hl.1 rfl (Nat.le_of_ble_eq_true rfl) ⟨Nat.zero_le _, Nat.zero_le _⟩ dX4_tryRequest_149 (fun H locs hP hD hS => ?_)
                  refine lv_aload_n hx hb dX4_tryRequest_152 rfl (lv_at hl 4 rfl) ?_
                  refine lv_iload_n hx hb dX4_tryRequest_153 rfl (lv_at hl 5 rfl) ?_
                  refine lv_iconst (v := (1 : Int32)) hx hb dX4_tryRequest_154 (by decide) ?_
                  refine lv_iload hx hb dX4_tryRequest_155 (lv_at hl 3 rfl) ?_
                  obtain ⟨s17, hf13, h0⟩ := bnd_some h0
                  refine x_VV (As := [.int a1, .int (1 : Int32), .int r7]) (rest := []) hC (kX4_lay l dC dI cA h ad a1 (1 : Int32) r7 s15 s17 hf13) (cwV 3 hts gX4_tryRequest_X4_lay rfl rfl rfl (by decide +kernel) ⟨Nat.le_of_ble_eq_true rfl, Nat.le_of_ble_eq_true rfl⟩) 0 4 hV hN hK hP hD hS hA rfl rfl rfl rfl hl.1 rfl (Nat.le_of_ble_eq_true rfl) ⟨Nat.zero_le _, Nat.zero_le _⟩ dX4_tryRequest_157 (fun H locs hP hD hS => ?_)
                  refine lv_aload_n hx hb dX4_tryRequest_160 rfl (lv_at hl 4 rfl) ?_
                  refine lv_iload_n hx hb dX4_tryRequest_161 rfl (lv_at hl 5 rfl) ?_
                  refine lv_iconst (v := (2 : Int32)) hx hb dX4_tryRequest_162 (by decide) ?_
                  refine lv_iload hx hb dX4_tryRequest_163 (lv_at hl 2 rfl) ?_
                  obtain ⟨s19, hf14, h0⟩ := bnd_some h0
                  refine x_VV (As := [.int a1, .int (2 : Int32), .int r8]) (rest := []) hC (kX4_lay l dC dI cA h ad a1 (2 : Int32) r8 s17 s19 hf14) (cwV 3 hts gX4_tryRequest_X4_lay rfl rfl rfl (by decide +kernel) ⟨Nat.le_of_ble_eq_true rfl, Nat.le_of_ble_eq_true rfl⟩) 0 4 hV hN hK hP hD hS hA rfl rfl rfl rfl hl.1 rfl (Nat.le_of_ble_eq_true rfl) ⟨Nat.zero_le _, Nat.zero_le _⟩ dX4_tryRequest_165 (fun H locs hP hD hS => ?_)
                  refine lv_aload_n hx hb dX4_tryRequest_168 rfl (lv_at hl 4 rfl) ?_
                  refine lv_iload_n hx hb dX4_tryRequest_169 rfl (lv_at hl 5 rfl) ?_
                  refine lv_iconst (v := (3 : Int32)) hx hb dX4_tryRequest_170 (by decide) ?_
                  refine lv_iload hx hb dX4_tryRequest_171 (lv_at hl 1 rfl) ?_
                  obtain ⟨s21, hf15, h0⟩ := bnd_some h0
                  refine x_VV (As := [.int a1, .int (3 : Int32), .int r9]) (rest := []) hC (kX4_lay l dC dI cA h ad a1 (3 : Int32) r9 s19 s21 hf15) (cwV 3 hts gX4_tryRequest_X4_lay rfl rfl rfl (by decide +kernel) ⟨Nat.le_of_ble_eq_true rfl, Nat.le_of_ble_eq_true rfl⟩) 0 4 hV hN hK hP hD hS hA rfl rfl rfl rfl hl.1 rfl (Nat.le_of_ble_eq_true rfl) ⟨Nat.zero_le _, Nat.zero_le _⟩ dX4_tryRequest_173 (fun H locs hP hD hS => ?_)
                  refine lv_iload hx hb dX4_tryRequest_176 (lv_at hl 0 rfl) ?_
                  refine lv_if_eq (tgt := 193) hx hb dX4_tryRequest_178 (by decide) (fun hc => ?_) (fun hc => absurd hc (by decide))
                  refine lv_aload_n hx hb dX4_tryRequest_193 rfl (lv_at hl 4 rfl) ?_
                  refine lv_iload hx hb dX4_tryRequest_194 (lv_at hl 10 rfl) ?_
                  obtain ⟨s23, hf16, h0⟩ := bnd_some h0
                  refine x_VV (As := [.int a6]) (rest := []) hC (kX4_keepIf l dC dI cA h ad a6 s21 s23 hf16) (cwV 1 hts gX4_tryRequest_X4_keepIf rfl rfl rfl (by decide +kernel) ⟨Nat.le_of_ble_eq_true rfl, Nat.le_of_ble_eq_true rfl⟩) 0 4 hV hN hK hP hD hS hA rfl rfl rfl rfl hl.1 rfl (Nat.le_of_ble_eq_true rfl) ⟨Nat.zero_le _, Nat.zero_le _⟩ dX4_tryRequest_196 (fun H locs hP hD hS => ?_)
                  refine lv_aload_n hx hb dX4_tryRequest_199 rfl (lv_at hl 4 rfl) ?_
                  refine lv_iload_n hx hb dX4_tryRequest_200 rfl (lv_at hl 5 rfl) ?_
                  refine lv_iload_n hx hb dX4_tryRequest_201 rfl (lv_at hl 6 rfl) ?_
                  refine lv_iload_n hx hb dX4_tryRequest_202 rfl (lv_at hl 7 rfl) ?_
                  refine lv_iload hx hb dX4_tryRequest_203 (lv_at hl 8 rfl) ?_
                  obtain ⟨s25, hf17, h0⟩ := bnd_some h0
                  refine x_VV (As := [.int a1, .int a2, .int a3, .int a4]) (rest := []) hC (kX4_joinRow l dC dI cA h ad a1 a2 a3 a4 s23 s25 hf17) (cwV 4 hts gX4_tryRequest_X4_joinRow rfl rfl rfl (by decide +kernel) ⟨Nat.le_of_ble_eq_true rfl, Nat.le_of_ble_eq_true rfl⟩) 0 4 hV hN hK hP hD hS hA rfl rfl rfl rfl hl.1 rfl (Nat.le_of_ble_eq_true rfl) ⟨Nat.zero_le _, Nat.zero_le _⟩ dX4_tryRequest_205 (fun H locs hP hD hS => ?_)
                  refine lv_aload_n hx hb dX4_tryRequest_208 rfl (lv_at hl 4 rfl) ?_
                  refine lv_iload_n hx hb dX4_tryRequest_209 rfl (lv_at hl 5 rfl) ?_
                  refine lv_iconst (v := (5 : Int32)) hx hb dX4_tryRequest_210 (by decide) ?_
                  refine lv_iconst (v := (1 : Int32)) hx hb dX4_tryRequest_211 (by decide) ?_
                  obtain ⟨s27, hf18, h0⟩ := bnd_some h0
                  refine x_VV (As := [.int a1, .int (5 : Int32), .int (1 : Int32)]) (rest := []) hC (kX4_more l dC dI cA h ad a1 (5 : Int32) (1 : Int32) s25 s27 hf18) (cwV 3 hts gX4_tryRequest_X4_more rfl rfl rfl (by decide +kernel) ⟨Nat.le_of_ble_eq_true rfl, Nat.le_of_ble_eq_true rfl⟩) 0 4 hV hN hK hP hD hS hA rfl rfl rfl rfl hl.1 rfl (Nat.le_of_ble_eq_true rfl) ⟨Nat.zero_le _, Nat.zero_le _⟩ dX4_tryRequest_212 (fun H locs hP hD hS => ?_)
                  refine lv_aload_n hx hb dX4_tryRequest_215 rfl (lv_at hl 4 rfl) ?_
                  refine lv_iload_n hx hb dX4_tryRequest_216 rfl (lv_at hl 5 rfl) ?_
                  obtain ⟨r28, s29, hf19, h0⟩ := bn2_some h0
                  refine x_VI (As := [.int a1]) (rest := []) hC (kX4_ringNow l dC dI cA h ad a1 s27 r28 s29 hf19) (cwV 1 hts gX4_tryRequest_X4_ringNow rfl rfl rfl (by decide +kernel) ⟨Nat.le_of_ble_eq_true rfl, Nat.le_of_ble_eq_true rfl⟩) 0 4 hV hN hK hP hD hS hA rfl rfl rfl rfl hl.1 rfl (Nat.le_of_ble_eq_true rfl) ⟨Nat.zero_le _, Nat.zero_le _⟩ dX4_tryRequest_217 (fun H locs hP hD hS => ?_)
                  refine lv_istore (lv' := [(11, .int r28), (10, .int (0 : Int32)), (9, .int r9), (8, .int r8), (7, .int r7), (0, .ref h), (1, .int a1), (2, .int a2), (3, .int a3), (4, .int a4), (5, .int a5), (6, .int a6)]) hx hb dX4_tryRequest_220 hl (by decide) rfl (fun ls hl => ?_)
                  obtain ⟨ε20, hl20, h0⟩ := bnd_some h0
                  have KN20 : ∀ (x36 : Int32) (s37 : St), ε20 = (x36, s37) → ∀ (H : Heap) (locs : List Loc), va_P (dC, dI) vwCl (wM cA h ad s37) H → va_D A (wM cA h ad s37) → va_S A s.heap H locs → ∀ (ls : Array Slot), lv_has ls 12 [(11, .int x36), (10, .int (0 : Int32)), (9, .int r9), (8, .int r8), (7, .int r7), (0, .ref h), (1, .int a1), (2, .int a2), (3, .int a3), (4, .int a4), (5, .int a5), (6, .int a6)] → W p l e (headSpec wsX4_tryRequest rmX4_tryRequest).room s m av below meth c H locs 0 0 (MQ below (qI (dC, dI) A R0 (wM cA h ad σ')) av s 0 0 A) (F0 m 243 ls []) := by
                    intro x36 s37 hε H locs hP hD hS ls hl
                    rw [hε] at h0
                    have h0 := nm_at (z := x36) rfl h0
                    have h0 := nm_at (z := s37) rfl h0
                    refine lv_aload_n hx hb dX4_tryRequest_243 rfl (lv_at hl 5 rfl) ?_
                    refine lv_iload_n hx hb dX4_tryRequest_244 rfl (lv_at hl 6 rfl) ?_
                    refine lv_iconst (v := (0 : Int32)) hx hb dX4_tryRequest_245 (by decide) ?_
                    obtain ⟨r38, hf23, h0⟩ := bnd_some h0
                    refine x_VI (As := [.int a1, .int (0 : Int32)]) (rest := []) hC (kX4_of l dC dI cA h ad a1 (0 : Int32) s37 r38  hf23) (cwV 2 hts gX4_tryRequest_X4_of rfl rfl rfl (by decide +kernel) ⟨Nat.le_of_ble_eq_true rfl, Nat.le_of_ble_eq_true rfl⟩) 0 4 hV hN hK hP hD hS hA rfl rfl rfl rfl hl.1 rfl (Nat.le_of_ble_eq_true rfl) ⟨Nat.zero_le _, Nat.zero_le _⟩ dX4_tryRequest_246 (fun H locs hP hD hS => ?_)
                    refine lv_if_le (tgt := 256) hx hb dX4_tryRequest_249 (by decide) (fun hc => ?_) (fun hc => ?_)
                    · have h0 := it_t h0 hc
                      refine lv_iconst (v := (1 : Int32)) hx hb dX4_tryRequest_256 (by decide) ?_
                      obtain ⟨e1, e2⟩ := Prod.mk.inj (Option.some.inj h0)
                      exact x_retI hC hr hlocks rfl hP hD hS dX4_tryRequest_257 ⟨e1, by rw [← e2]⟩
                    · have h0 := it_f h0 hc
                      refine lv_iconst (v := (0 : Int32)) hx hb dX4_tryRequest_252 (by decide) ?_
                      refine lv_goto (tgt := 257) hx hb dX4_tryRequest_253 (by decide) ?_
                      obtain ⟨e1, e2⟩ := Prod.mk.inj (Option.some.inj h0)
                      exact x_retI hC hr hlocks rfl hP hD hS dX4_tryRequest_257 ⟨e1, by rw [← e2]⟩
                  have LP20 : ∀ (n : Nat) (x30 : Int32) (s31 : St), lp (fun t : (Int32 × St) => bX4_tryRequest_222 a1 t.1 t.2) n (x30, s31) = some ε20 → ∀ (H : Heap) (locs : List Loc), va_P (dC, dI) vwCl (wM cA h ad s31) H → va_D A (wM cA h ad s31) → va_S A s.heap H locs → ∀ (ls : Array Slot), lv_has ls 12 [(11, .int x30), (10, .int (0 : Int32)), (9, .int r9), (8, .int r8), (7, .int r7), (0, .ref h), (1, .int a1), (2, .int a2), (3, .int a3), (4, .int a4), (5, .int a5), (6, .int a6)] → W p l e (headSpec wsX4_tryRequest rmX4_tryRequest).room s m av below meth c H locs 0 0 (MQ below (qI (dC, dI) A R0 (wM cA h ad σ')) av s 0 0 A) (F0 m 222 ls []) := by
                    intro n
                    induction n with
                    | zero => intro x30 s31 hl0; exact (lp_0 hl0).elim
                    | succ n ih20 =>
                      intro x30 s31 hl0 H locs hP hD hS ls hl
                      obtain ⟨z20, h1, hz20⟩ := lp_s hl0
                      have h1 : bX4_tryRequest_222 a1 x30 s31 = some z20 := h1
                      unfold bX4_tryRequest_222 at h1
                      refine lv_iload hx hb dX4_tryRequest_222 (lv_at hl 0 rfl) ?_
                      refine lv_if_eq (tgt := 243) hx hb dX4_tryRequest_224 (by decide) (fun hc => ?_) (fun hc => ?_)
                      · have h1 := it_t h1 hc
                        have he := lp_r h1 hz20
                        exact KN20 x30 s31 he _ _ hP hD hS ls (lv_sub hl [0, 1, 2, 3, 4, 5, 6, 7, 8, 9, 10, 11] rfl)
                      · have h1 := it_f h1 hc
                        refine lv_aload_n hx hb dX4_tryRequest_227 rfl (lv_at hl 5 rfl) ?_
                        refine lv_iload hx hb dX4_tryRequest_228 (lv_at hl 0 rfl) ?_
                        obtain ⟨s33, hf21, h1⟩ := bnd_some h1
                        refine x_VV (As := [.int x30]) (rest := []) hC (kX4_breakRing l dC dI cA h ad x30 s31 s33 hf21) (cwV 1 hts gX4_tryRequest_X4_breakRing rfl rfl rfl (by decide +kernel) ⟨Nat.le_of_ble_eq_true rfl, Nat.le_of_ble_eq_true rfl⟩) 0 4 hV hN hK hP hD hS hA rfl rfl rfl rfl hl.1 rfl (Nat.le_of_ble_eq_true rfl) ⟨Nat.zero_le _, Nat.zero_le _⟩ dX4_tryRequest_230 (fun H locs hP hD hS => ?_)
                        refine lv_aload_n hx hb dX4_tryRequest_233 rfl (lv_at hl 5 rfl) ?_
                        refine lv_iload_n hx hb dX4_tryRequest_234 rfl (lv_at hl 6 rfl) ?_
                        obtain ⟨r34, s35, hf22, h1⟩ := bn2_some h1
                        refine x_VI (As := [.int a1]) (rest := []) hC (kX4_ringNow l dC dI cA h ad a1 s33 r34 s35 hf22) (cwV 1 hts gX4_tryRequest_X4_ringNow rfl rfl rfl (by decide +kernel) ⟨Nat.le_of_ble_eq_true rfl, Nat.le_of_ble_eq_true rfl⟩) 0 4 hV hN hK hP hD hS hA rfl rfl rfl rfl hl.1 rfl (Nat.le_of_ble_eq_true rfl) ⟨Nat.zero_le _, Nat.zero_le _⟩ dX4_tryRequest_235 (fun H locs hP hD hS => ?_)
                        refine lv_istore (lv' := [(11, .int r34), (10, .int (0 : Int32)), (9, .int r9), (8, .int r8), (7, .int r7), (0, .ref h), (1, .int a1), (2, .int a2), (3, .int a3), (4, .int a4), (5, .int a5), (6, .int a6)]) hx hb dX4_tryRequest_238 hl (by decide) rfl (fun ls hl => ?_)
                        refine lv_goto (tgt := 222) hx hb dX4_tryRequest_240 (by decide) ?_
                        have hc := lp_l h1 hz20
                        exact ih20 r34 s35 hc _ _ hP hD hS ls (lv_sub hl [0, 1, 2, 3, 4, 5, 6, 7, 8, 9, 10, 11] rfl)
                  exact LP20 FU r28 s29 hl20 _ _ hP hD hS ls hl
                · have h0 := it_f h0 hc
                  refine lv_iconst (v := (1 : Int32)) hx hb dX4_tryRequest_140 (by decide) ?_
                  refine lv_goto (tgt := 145) hx hb dX4_tryRequest_141 (by decide) ?_
                  refine lv_istore (lv' := [(10, .int (1 : Int32)), (9, .int r9), (8, .int r8), (7, .int r7), (0, .ref h), (1, .int a1), (2, .int a2), (3, .int a3), (4, .int a4), (5, .int a5), (6, .int a6)]) hx hb dX4_tryRequest_145 hl (by decide) rfl (fun ls hl => ?_)
                  refine lv_aload_n hx hb dX4_tryRequest_147 rfl (lv_at hl 4 rfl) ?_
                  refine lv_iload_n hx hb dX4_tryRequest_148 rfl (lv_at hl 5 rfl) ?_
                  obtain ⟨s40, hf24, h0⟩ := bnd_some h0
                  refine x_VV (As := [.int a1]) (rest := []) hC (kX4_leaveRow l dC dI cA h ad a1 s13 s40 hf24) (cwV 1 hts gX4_tryRequest_X4_leaveRow rfl rfl rfl (by decide +kernel) ⟨Nat.le_of_ble_eq_true rfl, Nat.le_of_ble_eq_true rfl⟩) 0 4 hV hN hK hP hD hS hA rfl rfl rfl rfl hl.1 rfl (Nat.le_of_ble_eq_true rfl) ⟨Nat.zero_le _, Nat.zero_le _⟩ dX4_tryRequest_149 (fun H locs hP hD hS => ?_)
                  refine lv_aload_n hx hb dX4_tryRequest_152 rfl (lv_at hl 4 rfl) ?_
                  refine lv_iload_n hx hb dX4_tryRequest_153 rfl (lv_at hl 5 rfl) ?_
                  refine lv_iconst (v := (1 : Int32)) hx hb dX4_tryRequest_154 (by decide) ?_
                  refine lv_iload hx hb dX4_tryRequest_155 (lv_at hl 3 rfl) ?_
                  obtain ⟨s42, hf25, h0⟩ := bnd_some h0
                  refine x_VV (As := [.int a1, .int (1 : Int32), .int r7]) (rest := []) hC (kX4_lay l dC dI cA h ad a1 (1 : Int32) r7 s40 s42 hf25) (cwV 3 hts gX4_tryRequest_X4_lay rfl rfl rfl (by decide +kernel) ⟨Nat.le_of_ble_eq_true rfl, Nat.le_of_ble_eq_true rfl⟩) 0 4 hV hN hK hP hD hS hA rfl rfl rfl rfl hl.1 rfl (Nat.le_of_ble_eq_true rfl) ⟨Nat.zero_le _, Nat.zero_le _⟩ dX4_tryRequest_157 (fun H locs hP hD hS => ?_)
                  refine lv_aload_n hx hb dX4_tryRequest_160 rfl (lv_at hl 4 rfl) ?_
                  refine lv_iload_n hx hb dX4_tryRequest_161 rfl (lv_at hl 5 rfl) ?_
                  refine lv_iconst (v := (2 : Int32)) hx hb dX4_tryRequest_162 (by decide) ?_
                  refine lv_iload hx hb dX4_tryRequest_163 (lv_at hl 2 rfl) ?_
                  obtain ⟨s44, hf26, h0⟩ := bnd_some h0
                  refine x_VV (As := [.int a1, .int (2 : Int32), .int r8]) (rest := []) hC (kX4_lay l dC dI cA h ad a1 (2 : Int32) r8 s42 s44 hf26) (cwV 3 hts gX4_tryRequest_X4_lay rfl rfl rfl (by decide +kernel) ⟨Nat.le_of_ble_eq_true rfl, Nat.le_of_ble_eq_true rfl⟩) 0 4 hV hN hK hP hD hS hA rfl rfl rfl rfl hl.1 rfl (Nat.le_of_ble_eq_true rfl) ⟨Nat.zero_le _, Nat.zero_le _⟩ dX4_tryRequest_165 (fun H locs hP hD hS => ?_)
                  refine lv_aload_n hx hb dX4_tryRequest_168 rfl (lv_at hl 4 rfl) ?_
                  refine lv_iload_n hx hb dX4_tryRequest_169 rfl (lv_at hl 5 rfl) ?_
                  refine lv_iconst (v := (3 : Int32)) hx hb dX4_tryRequest_170 (by decide) ?_
                  refine lv_iload hx hb dX4_tryRequest_171 (lv_at hl 1 rfl) ?_
                  obtain ⟨s46, hf27, h0⟩ := bnd_some h0
                  refine x_VV (As := [.int a1, .int (3 : Int32), .int r9]) (rest := []) hC (kX4_lay l dC dI cA h ad a1 (3 : Int32) r9 s44 s46 hf27) (cwV 3 hts gX4_tryRequest_X4_lay rfl rfl rfl (by decide +kernel) ⟨Nat.le_of_ble_eq_true rfl, Nat.le_of_ble_eq_true rfl⟩) 0 4 hV hN hK hP hD hS hA rfl rfl rfl rfl hl.1 rfl (Nat.le_of_ble_eq_true rfl) ⟨Nat.zero_le _, Nat.zero_le _⟩ dX4_tryRequest_173 (fun H locs hP hD hS => ?_)
                  refine lv_iload hx hb dX4_tryRequest_176 (lv_at hl 0 rfl) ?_
                  refine lv_if_eq (tgt := 193) hx hb dX4_tryRequest_178 (by decide) (fun hc => absurd hc (by decide)) (fun hc => ?_)
                  refine lv_aload_n hx hb dX4_tryRequest_181 rfl (lv_at hl 4 rfl) ?_
                  refine va_get (D := (dC, dI)) (ci := 4) (v := .ref (ad 0)) (C := RX4) (T := TX4) (N := 16) hx hb hts hin0 hown hK hP 0 rfl rfl 0 (by decide) (hts (.fieldLink RX4 7 "MeanLocksModel" "at" "[I") (List.mem_of_getElem? (i := 1) rfl)) (fun _ h9 => h9) rfl dX4_tryRequest_182 ?_
                  refine lv_iconst (v := (3 : Int32)) hx hb dX4_tryRequest_185 (by decide) ?_
                  obtain ⟨hi, h0⟩ := ax_some h0
                  refine va_iald hx hb hK hP 1 0 rfl rfl hi dX4_tryRequest_186 ?_
                  refine lv_if_ne (tgt := 193) hx hb dX4_tryRequest_187 (by decide) (fun hc => ?_) (fun hc => ?_)
                  · have h0 := it_f h0 hc
                    refine lv_aload_n hx hb dX4_tryRequest_193 rfl (lv_at hl 4 rfl) ?_
                    refine lv_iload hx hb dX4_tryRequest_194 (lv_at hl 10 rfl) ?_
                    obtain ⟨s48, hf28, h0⟩ := bnd_some h0
                    refine x_VV (As := [.int a6]) (rest := []) hC (kX4_keepIf l dC dI cA h ad a6 s46 s48 hf28) (cwV 1 hts gX4_tryRequest_X4_keepIf rfl rfl rfl (by decide +kernel) ⟨Nat.le_of_ble_eq_true rfl, Nat.le_of_ble_eq_true rfl⟩) 0 4 hV hN hK hP hD hS hA rfl rfl rfl rfl hl.1 rfl (Nat.le_of_ble_eq_true rfl) ⟨Nat.zero_le _, Nat.zero_le _⟩ dX4_tryRequest_196 (fun H locs hP hD hS => ?_)
                    refine lv_aload_n hx hb dX4_tryRequest_199 rfl (lv_at hl 4 rfl) ?_
                    refine lv_iload_n hx hb dX4_tryRequest_200 rfl (lv_at hl 5 rfl) ?_
                    refine lv_iload_n hx hb dX4_tryRequest_201 rfl (lv_at hl 6 rfl) ?_
                    refine lv_iload_n hx hb dX4_tryRequest_202 rfl (lv_at hl 7 rfl) ?_
                    refine lv_iload hx hb dX4_tryRequest_203 (lv_at hl 8 rfl) ?_
                    obtain ⟨s50, hf29, h0⟩ := bnd_some h0
                    refine x_VV (As := [.int a1, .int a2, .int a3, .int a4]) (rest := []) hC (kX4_joinRow l dC dI cA h ad a1 a2 a3 a4 s48 s50 hf29) (cwV 4 hts gX4_tryRequest_X4_joinRow rfl rfl rfl (by decide +kernel) ⟨Nat.le_of_ble_eq_true rfl, Nat.le_of_ble_eq_true rfl⟩) 0 4 hV hN hK hP hD hS hA rfl rfl rfl rfl hl.1 rfl (Nat.le_of_ble_eq_true rfl) ⟨Nat.zero_le _, Nat.zero_le _⟩ dX4_tryRequest_205 (fun H locs hP hD hS => ?_)
                    refine lv_aload_n hx hb dX4_tryRequest_208 rfl (lv_at hl 4 rfl) ?_
                    refine lv_iload_n hx hb dX4_tryRequest_209 rfl (lv_at hl 5 rfl) ?_
                    refine lv_iconst (v := (5 : Int32)) hx hb dX4_tryRequest_210 (by decide) ?_
                    refine lv_iconst (v := (1 : Int32)) hx hb dX4_tryRequest_211 (by decide) ?_
                    obtain ⟨s52, hf30, h0⟩ := bnd_some h0
                    refine x_VV (As := [.int a1, .int (5 : Int32), .int (1 : Int32)]) (rest := []) hC (kX4_more l dC dI cA h ad a1 (5 : Int32) (1 : Int32) s50 s52 hf30) (cwV 3 hts gX4_tryRequest_X4_more rfl rfl rfl (by decide +kernel) ⟨Nat.le_of_ble_eq_true rfl, Nat.le_of_ble_eq_true rfl⟩) 0 4 hV hN hK hP hD hS hA rfl rfl rfl rfl hl.1 rfl (Nat.le_of_ble_eq_true rfl) ⟨Nat.zero_le _, Nat.zero_le _⟩ dX4_tryRequest_212 (fun H locs hP hD hS => ?_)
                    refine lv_aload_n hx hb dX4_tryRequest_215 rfl (lv_at hl 4 rfl) ?_
                    refine lv_iload_n hx hb dX4_tryRequest_216 rfl (lv_at hl 5 rfl) ?_
                    obtain ⟨r53, s54, hf31, h0⟩ := bn2_some h0
                    refine x_VI (As := [.int a1]) (rest := []) hC (kX4_ringNow l dC dI cA h ad a1 s52 r53 s54 hf31) (cwV 1 hts gX4_tryRequest_X4_ringNow rfl rfl rfl (by decide +kernel) ⟨Nat.le_of_ble_eq_true rfl, Nat.le_of_ble_eq_true rfl⟩) 0 4 hV hN hK hP hD hS hA rfl rfl rfl rfl hl.1 rfl (Nat.le_of_ble_eq_true rfl) ⟨Nat.zero_le _, Nat.zero_le _⟩ dX4_tryRequest_217 (fun H locs hP hD hS => ?_)
                    refine lv_istore (lv' := [(11, .int r53), (10, .int (1 : Int32)), (9, .int r9), (8, .int r8), (7, .int r7), (0, .ref h), (1, .int a1), (2, .int a2), (3, .int a3), (4, .int a4), (5, .int a5), (6, .int a6)]) hx hb dX4_tryRequest_220 hl (by decide) rfl (fun ls hl => ?_)
                    obtain ⟨ε32, hl32, h0⟩ := bnd_some h0
                    have KN32 : ∀ (x61 : Int32) (s62 : St), ε32 = (x61, s62) → ∀ (H : Heap) (locs : List Loc), va_P (dC, dI) vwCl (wM cA h ad s62) H → va_D A (wM cA h ad s62) → va_S A s.heap H locs → ∀ (ls : Array Slot), lv_has ls 12 [(11, .int x61), (10, .int (1 : Int32)), (9, .int r9), (8, .int r8), (7, .int r7), (0, .ref h), (1, .int a1), (2, .int a2), (3, .int a3), (4, .int a4), (5, .int a5), (6, .int a6)] → W p l e (headSpec wsX4_tryRequest rmX4_tryRequest).room s m av below meth c H locs 0 0 (MQ below (qI (dC, dI) A R0 (wM cA h ad σ')) av s 0 0 A) (F0 m 243 ls []) := by
                      intro x61 s62 hε H locs hP hD hS ls hl
                      rw [hε] at h0
                      have h0 := nm_at (z := x61) rfl h0
                      have h0 := nm_at (z := s62) rfl h0
                      refine lv_aload_n hx hb dX4_tryRequest_243 rfl (lv_at hl 5 rfl) ?_
                      refine lv_iload_n hx hb dX4_tryRequest_244 rfl (lv_at hl 6 rfl) ?_
                      refine lv_iconst (v := (0 : Int32)) hx hb dX4_tryRequest_245 (by decide) ?_
                      obtain ⟨r63, hf35, h0⟩ := bnd_some h0
                      refine x_VI (As := [.int a1, .int (0 : Int32)]) (rest := []) hC (kX4_of l dC dI cA h ad a1 (0 : Int32) s62 r63  hf35) (cwV 2 hts gX4_tryRequest_X4_of rfl rfl rfl (by decide +kernel) ⟨Nat.le_of_ble_eq_true rfl, Nat.le_of_ble_eq_true rfl⟩) 0 4 hV hN hK hP hD hS hA rfl rfl rfl rfl hl.1 rfl (Nat.le_of_ble_eq_true rfl) ⟨Nat.zero_le _, Nat.zero_le _⟩ dX4_tryRequest_246 (fun H locs hP hD hS => ?_)
                      refine lv_if_le (tgt := 256) hx hb dX4_tryRequest_249 (by decide) (fun hc => ?_) (fun hc => ?_)
                      · have h0 := it_t h0 hc
                        refine lv_iconst (v := (1 : Int32)) hx hb dX4_tryRequest_256 (by decide) ?_
                        obtain ⟨e1, e2⟩ := Prod.mk.inj (Option.some.inj h0)
                        exact x_retI hC hr hlocks rfl hP hD hS dX4_tryRequest_257 ⟨e1, by rw [← e2]⟩
                      · have h0 := it_f h0 hc
                        refine lv_iconst (v := (0 : Int32)) hx hb dX4_tryRequest_252 (by decide) ?_
                        refine lv_goto (tgt := 257) hx hb dX4_tryRequest_253 (by decide) ?_
                        obtain ⟨e1, e2⟩ := Prod.mk.inj (Option.some.inj h0)
                        exact x_retI hC hr hlocks rfl hP hD hS dX4_tryRequest_257 ⟨e1, by rw [← e2]⟩
                    have LP32 : ∀ (n : Nat) (x55 : Int32) (s56 : St), lp (fun t : (Int32 × St) => bX4_tryRequest_222_2 a1 t.1 t.2) n (x55, s56) = some ε32 → ∀ (H : Heap) (locs : List Loc), va_P (dC, dI) vwCl (wM cA h ad s56) H → va_D A (wM cA h ad s56) → va_S A s.heap H locs → ∀ (ls : Array Slot), lv_has ls 12 [(11, .int x55), (10, .int (1 : Int32)), (9, .int r9), (8, .int r8), (7, .int r7), (0, .ref h), (1, .int a1), (2, .int a2), (3, .int a3), (4, .int a4), (5, .int a5), (6, .int a6)] → W p l e (headSpec wsX4_tryRequest rmX4_tryRequest).room s m av below meth c H locs 0 0 (MQ below (qI (dC, dI) A R0 (wM cA h ad σ')) av s 0 0 A) (F0 m 222 ls []) := by
                      intro n
                      induction n with
                      | zero => intro x55 s56 hl0; exact (lp_0 hl0).elim
                      | succ n ih32 =>
                        intro x55 s56 hl0 H locs hP hD hS ls hl
                        obtain ⟨z32, h1, hz32⟩ := lp_s hl0
                        have h1 : bX4_tryRequest_222_2 a1 x55 s56 = some z32 := h1
                        unfold bX4_tryRequest_222_2 at h1
                        refine lv_iload hx hb dX4_tryRequest_222 (lv_at hl 0 rfl) ?_
                        refine lv_if_eq (tgt := 243) hx hb dX4_tryRequest_224 (by decide) (fun hc => ?_) (fun hc => ?_)
                        · have h1 := it_t h1 hc
                          have he := lp_r h1 hz32
                          exact KN32 x55 s56 he _ _ hP hD hS ls (lv_sub hl [0, 1, 2, 3, 4, 5, 6, 7, 8, 9, 10, 11] rfl)
                        · have h1 := it_f h1 hc
                          refine lv_aload_n hx hb dX4_tryRequest_227 rfl (lv_at hl 5 rfl) ?_
                          refine lv_iload hx hb dX4_tryRequest_228 (lv_at hl 0 rfl) ?_
                          obtain ⟨s58, hf33, h1⟩ := bnd_some h1
                          refine x_VV (As := [.int x55]) (rest := []) hC (kX4_breakRing l dC dI cA h ad x55 s56 s58 hf33) (cwV 1 hts gX4_tryRequest_X4_breakRing rfl rfl rfl (by decide +kernel) ⟨Nat.le_of_ble_eq_true rfl, Nat.le_of_ble_eq_true rfl⟩) 0 4 hV hN hK hP hD hS hA rfl rfl rfl rfl hl.1 rfl (Nat.le_of_ble_eq_true rfl) ⟨Nat.zero_le _, Nat.zero_le _⟩ dX4_tryRequest_230 (fun H locs hP hD hS => ?_)
                          refine lv_aload_n hx hb dX4_tryRequest_233 rfl (lv_at hl 5 rfl) ?_
                          refine lv_iload_n hx hb dX4_tryRequest_234 rfl (lv_at hl 6 rfl) ?_
                          obtain ⟨r59, s60, hf34, h1⟩ := bn2_some h1
                          refine x_VI (As := [.int a1]) (rest := []) hC (kX4_ringNow l dC dI cA h ad a1 s58 r59 s60 hf34) (cwV 1 hts gX4_tryRequest_X4_ringNow rfl rfl rfl (by decide +kernel) ⟨Nat.le_of_ble_eq_true rfl, Nat.le_of_ble_eq_true rfl⟩) 0 4 hV hN hK hP hD hS hA rfl rfl rfl rfl hl.1 rfl (Nat.le_of_ble_eq_true rfl) ⟨Nat.zero_le _, Nat.zero_le _⟩ dX4_tryRequest_235 (fun H locs hP hD hS => ?_)
                          refine lv_istore (lv' := [(11, .int r59), (10, .int (1 : Int32)), (9, .int r9), (8, .int r8), (7, .int r7), (0, .ref h), (1, .int a1), (2, .int a2), (3, .int a3), (4, .int a4), (5, .int a5), (6, .int a6)]) hx hb dX4_tryRequest_238 hl (by decide) rfl (fun ls hl => ?_)
                          refine lv_goto (tgt := 222) hx hb dX4_tryRequest_240 (by decide) ?_
                          have hc := lp_l h1 hz32
                          exact ih32 r59 s60 hc _ _ hP hD hS ls (lv_sub hl [0, 1, 2, 3, 4, 5, 6, 7, 8, 9, 10, 11] rfl)
                    exact LP32 FU r53 s54 hl32 _ _ hP hD hS ls hl
                  · have h0 := it_t h0 hc
                    refine lv_bipush (v := (-5 : Int32)) hx hb dX4_tryRequest_190 (by decide) ?_
                    obtain ⟨e1, e2⟩ := Prod.mk.inj (Option.some.inj h0)
                    exact x_retI hC hr hlocks rfl hP hD hS dX4_tryRequest_192 ⟨e1, by rw [← e2]⟩
              · have h0 := it_t h0 hc
                refine lv_bipush (v := (-5 : Int32)) hx hb dX4_tryRequest_96 (by decide) ?_
                obtain ⟨e1, e2⟩ := Prod.mk.inj (Option.some.inj h0)
                exact x_retI hC hr hlocks rfl hP hD hS dX4_tryRequest_98 ⟨e1, by rw [← e2]⟩
            · have h0 := it_t h0 hc
              refine lv_aload_n hx hb dX4_tryRequest_70 rfl (lv_at hl 0 rfl) ?_
              refine lv_iload hx hb dX4_tryRequest_71 (lv_at hl 6 rfl) ?_
              obtain ⟨s65, hf36, h0⟩ := bnd_some h0
              refine x_VV (As := [.int a6]) (rest := []) hC (kX4_keepIf l dC dI cA h ad a6 σ s65 hf36) (cwV 1 hts gX4_tryRequest_X4_keepIf rfl rfl rfl (by decide +kernel) ⟨Nat.le_of_ble_eq_true rfl, Nat.le_of_ble_eq_true rfl⟩) 0 4 hV hN hK hP hD hS hA rfl rfl rfl rfl hl.1 rfl (Nat.le_of_ble_eq_true rfl) ⟨Nat.zero_le _, Nat.zero_le _⟩ dX4_tryRequest_73 (fun H locs hP hD hS => ?_)
              refine lv_aload_n hx hb dX4_tryRequest_76 rfl (lv_at hl 0 rfl) ?_
              refine lv_iload_n hx hb dX4_tryRequest_77 rfl (lv_at hl 1 rfl) ?_
              refine lv_iload_n hx hb dX4_tryRequest_78 rfl (lv_at hl 2 rfl) ?_
              refine lv_iload_n hx hb dX4_tryRequest_79 rfl (lv_at hl 3 rfl) ?_
              refine lv_iload hx hb dX4_tryRequest_80 (lv_at hl 4 rfl) ?_
              obtain ⟨s67, hf37, h0⟩ := bnd_some h0
              refine x_VV (As := [.int a1, .int a2, .int a3, .int a4]) (rest := []) hC (kX4_give l dC dI cA h ad a1 a2 a3 a4 s65 s67 hf37) (cwV 4 hts gX4_tryRequest_X4_give rfl rfl rfl (by decide +kernel) ⟨Nat.le_of_ble_eq_true rfl, Nat.le_of_ble_eq_true rfl⟩) 0 4 hV hN hK hP hD hS hA rfl rfl rfl rfl hl.1 rfl (Nat.le_of_ble_eq_true rfl) ⟨Nat.zero_le _, Nat.zero_le _⟩ dX4_tryRequest_82 (fun H locs hP hD hS => ?_)
              refine lv_aload_n hx hb dX4_tryRequest_85 rfl (lv_at hl 0 rfl) ?_
              obtain ⟨s69, hf38, h0⟩ := bnd_some h0
              refine x_VV (As := []) (rest := []) hC (kX4_goThrough l dC dI cA h ad s67 s69 hf38) (cwV 0 hts gX4_tryRequest_X4_goThrough rfl rfl rfl (by decide +kernel) ⟨Nat.le_of_ble_eq_true rfl, Nat.le_of_ble_eq_true rfl⟩) 0 4 hV hN hK hP hD hS hA rfl rfl rfl rfl hl.1 rfl (Nat.le_of_ble_eq_true rfl) ⟨Nat.zero_le _, Nat.zero_le _⟩ dX4_tryRequest_86 (fun H locs hP hD hS => ?_)
              refine lv_iconst (v := (1 : Int32)) hx hb dX4_tryRequest_89 (by decide) ?_
              obtain ⟨e1, e2⟩ := Prod.mk.inj (Option.some.inj h0)
              exact x_retI hC hr hlocks rfl hP hD hS dX4_tryRequest_90 ⟨e1, by rw [← e2]⟩
          · have h0 := it_f h0 hc
            refine lv_bipush (v := (-5 : Int32)) hx hb dX4_tryRequest_49 (by decide) ?_
            obtain ⟨e1, e2⟩ := Prod.mk.inj (Option.some.inj h0)
            exact x_retI hC hr hlocks rfl hP hD hS dX4_tryRequest_51 ⟨e1, by rw [← e2]⟩
        · have h0 := it_t h0 hc
          refine lv_bipush (v := (-2 : Int32)) hx hb dX4_tryRequest_37 (by decide) ?_
          obtain ⟨e1, e2⟩ := Prod.mk.inj (Option.some.inj h0)
          exact x_retI hC hr hlocks rfl hP hD hS dX4_tryRequest_39 ⟨e1, by rw [← e2]⟩
  · have h0 := it_t h0 hc
    refine lv_iconst (v := (-1 : Int32)) hx hb dX4_tryRequest_7 (by decide) ?_
    obtain ⟨e1, e2⟩ := Prod.mk.inj (Option.some.inj h0)
    exact x_retI hC hr hlocks rfl hP hD hS dX4_tryRequest_8 ⟨e1, by rw [← e2]⟩
def bX4_freed_6 (a1 : Int32) (a3 : Int32) (x2 : Int32) (x1 : Int32) (s3 : St) : Option ((Int32 × Int32 × St) ⊕ (Int32 × Int32 × St)) := if a3 ≤ x1 then (some (.inr (x2, x1, s3))) else (bnd (fX4_lock a1 x1 s3) fun r4 => if (r4 : Int32) = (0 : Int32) then (nm (x2 + (0 : Int32)) fun v9 => bnd (fX4_layLock a1 x1 (0 : Int32) s3) fun s11 => nm (x1 + (1 : Int32)) fun v12 => some (.inl (v9, v12, s11))) else (nm (x2 + (1 : Int32)) fun v5 => bnd (fX4_layLock a1 x1 (0 : Int32) s3) fun s7 => nm (x1 + (1 : Int32)) fun v8 => some (.inl (v5, v8, s7))))
def fX4_freed (a1 : Int32) (a2 : Int32) (a3 : Int32) (σ : St) : Option (Int32 × St) := bnd (lp (fun t : (Int32 × Int32 × St) => bX4_freed_6 a1 a3 t.1 t.2.1 t.2.2) FU ((0 : Int32), a2, σ)) (fun e : (Int32 × Int32 × St) => nm e.1 fun x13 => nm e.2.1 fun x14 => nm e.2.2 fun s15 => some (x13, s15))
abbrev rmX4_freed : Room := { frames := 1, cells := 0, slots := 0, locals := 23 }
set_option maxHeartbeats 4000000 in
set_option maxRecDepth 100000 in
theorem kX4_freed (l : Launch) (dC : Nat → ClassId) (dI : Nat → Nat → Nat) (cA : Nat → ClassId) (h : Nat) (ad : Nat → Nat) (a1 : Int32) (a2 : Int32) (a3 : Int32) (σ : St) (R0 : Int32) (σ' : St) (h0 : fX4_freed a1 a2 a3 σ = some (R0, σ')) : CI l yX4_freed wsX4_freed rmX4_freed (dC, dI) vwCl (tysW cA) [.ref h, .int a1, .int a2, .int a3] (wM cA h ad σ) R0 (wM cA h ad σ') := by
  refine CGI_of (cc := cX4_freed) (nL := 6) (ret := (some .int)) (by decide) rfl (Nat.le_of_ble_eq_true rfl) ?_
  intro p e s m av below meth c A ls H locs hC hl
  obtain ⟨hC, hr, hlocks, hV, hN, hK, hP, hD, hS, hA⟩ := hC
  have hC : CallFix p m c cX4_freed 6 s _ wsX4_freed RX4 := hC
  obtain ⟨hx, hb, hml, hown, hts⟩ := id hC
  have hin0 : ∀ w ∈ u_ws RX4 TX4 16, w ∈ wsX4_freed := fun _ h => (List.mem_cons_of_mem _ (List.mem_append_right _ h))
  have hl : lv_has ls 6 [(0, .ref h), (1, .int a1), (2, .int a2), (3, .int a3)] := hl
  unfold fX4_freed at h0
  refine lv_iconst (v := (0 : Int32)) hx hb dX4_freed_0 (by decide) ?_
  refine lv_istore (lv' := [(4, .int (0 : Int32)), (0, .ref h), (1, .int a1), (2, .int a2), (3, .int a3)]) hx hb dX4_freed_1 hl (by decide) rfl (fun ls hl => ?_)
  refine lv_iload_n hx hb dX4_freed_3 rfl (lv_at hl 3 rfl) ?_
  refine lv_istore (lv' := [(5, .int a2), (4, .int (0 : Int32)), (0, .ref h), (1, .int a1), (2, .int a2), (3, .int a3)]) hx hb dX4_freed_4 hl (by decide) rfl (fun ls hl => ?_)
  obtain ⟨ε1, hl1, h0⟩ := bnd_some h0
  have KN1 : ∀ (x13 : Int32) (x14 : Int32) (s15 : St), ε1 = (x13, x14, s15) → ∀ (H : Heap) (locs : List Loc), va_P (dC, dI) vwCl (wM cA h ad s15) H → va_D A (wM cA h ad s15) → va_S A s.heap H locs → ∀ (ls : Array Slot), lv_has ls 6 [(5, .int x14), (4, .int x13), (0, .ref h), (1, .int a1), (2, .int a2), (3, .int a3)] → W p l e (headSpec wsX4_freed rmX4_freed).room s m av below meth c H locs 0 0 (MQ below (qI (dC, dI) A R0 (wM cA h ad σ')) av s 0 0 A) (F0 m 46 ls []) := by
    intro x13 x14 s15 hε H locs hP hD hS ls hl
    rw [hε] at h0
    have h0 := nm_at (z := x13) rfl h0
    have h0 := nm_at (z := x14) rfl h0
    have h0 := nm_at (z := s15) rfl h0
    refine lv_iload hx hb dX4_freed_46 (lv_at hl 1 rfl) ?_
    obtain ⟨e1, e2⟩ := Prod.mk.inj (Option.some.inj h0)
    exact x_retI hC hr hlocks rfl hP hD hS dX4_freed_48 ⟨e1, by rw [← e2]⟩
  have LP1 : ∀ (n : Nat) (x2 : Int32) (x1 : Int32) (s3 : St), lp (fun t : (Int32 × Int32 × St) => bX4_freed_6 a1 a3 t.1 t.2.1 t.2.2) n (x2, x1, s3) = some ε1 → ∀ (H : Heap) (locs : List Loc), va_P (dC, dI) vwCl (wM cA h ad s3) H → va_D A (wM cA h ad s3) → va_S A s.heap H locs → ∀ (ls : Array Slot), lv_has ls 6 [(5, .int x1), (4, .int x2), (0, .ref h), (1, .int a1), (2, .int a2), (3, .int a3)] → W p l e (headSpec wsX4_freed rmX4_freed).room s m av below meth c H locs 0 0 (MQ below (qI (dC, dI) A R0 (wM cA h ad σ')) av s 0 0 A) (F0 m 6 ls []) := by
    intro n
    induction n with
    | zero => intro x2 x1 s3 hl0; exact (lp_0 hl0).elim
    | succ n ih1 =>
      intro x2 x1 s3 hl0 H locs hP hD hS ls hl
      obtain ⟨z1, h1, hz1⟩ := lp_s hl0
      have h1 : bX4_freed_6 a1 a3 x2 x1 s3 = some z1 := h1
      unfold bX4_freed_6 at h1
      refine lv_iload hx hb dX4_freed_6 (lv_at hl 0 rfl) ?_
      refine lv_iload_n hx hb dX4_freed_8 rfl (lv_at hl 5 rfl) ?_
      refine lv_icmp_ge (tgt := 46) hx hb dX4_freed_9 (by decide) (fun hc => ?_) (fun hc => ?_)
      · have h1 := it_t h1 hc
        have he := lp_r h1 hz1
        exact KN1 x2 x1 s3 he _ _ hP hD hS ls (lv_sub hl [0, 1, 2, 3, 4, 5] rfl)
      · have h1 := it_f h1 hc
        refine lv_iload hx hb dX4_freed_12 (lv_at hl 1 rfl) ?_
        refine lv_aload_n hx hb dX4_freed_14 rfl (lv_at hl 2 rfl) ?_
        refine lv_iload_n hx hb dX4_freed_15 rfl (lv_at hl 3 rfl) ?_
        refine lv_iload hx hb dX4_freed_16 (lv_at hl 0 rfl) ?_
        obtain ⟨r4, hf2, h1⟩ := bnd_some h1
        refine x_VI (As := [.int a1, .int x1]) (rest := [.int x2]) hC (kX4_lock l dC dI cA h ad a1 x1 s3 r4  hf2) (cwV 2 hts gX4_freed_X4_lock rfl rfl rfl (by decide +kernel) ⟨Nat.le_of_ble_eq_true rfl, Nat.le_of_ble_eq_true rfl⟩) 0 4 hV hN hK hP hD hS hA rfl rfl rfl rfl hl.1 rfl (Nat.le_of_ble_eq_true rfl) ⟨Nat.zero_le _, Nat.zero_le _⟩ dX4_freed_18 (fun H locs hP hD hS => ?_)
        refine lv_if_ne (tgt := 28) hx hb dX4_freed_21 (by decide) (fun hc => ?_) (fun hc => ?_)
        · have h1 := it_f h1 hc
          refine lv_iconst (v := (1 : Int32)) hx hb dX4_freed_28 (by decide) ?_
          refine lv_iadd hx hb dX4_freed_29 ?_
          refine lv_topi (fun v5 ev5 => ?_)
          have h1 := nm_at ev5 h1
          refine lv_istore (lv' := [(4, .int v5), (5, .int x1), (0, .ref h), (1, .int a1), (2, .int a2), (3, .int a3)]) hx hb dX4_freed_30 hl (by decide) rfl (fun ls hl => ?_)
          refine lv_aload_n hx hb dX4_freed_32 rfl (lv_at hl 2 rfl) ?_
          refine lv_iload_n hx hb dX4_freed_33 rfl (lv_at hl 3 rfl) ?_
          refine lv_iload hx hb dX4_freed_34 (lv_at hl 1 rfl) ?_
          refine lv_iconst (v := (0 : Int32)) hx hb dX4_freed_36 (by decide) ?_
          obtain ⟨s7, hf3, h1⟩ := bnd_some h1
          refine x_VV (As := [.int a1, .int x1, .int (0 : Int32)]) (rest := []) hC (kX4_layLock l dC dI cA h ad a1 x1 (0 : Int32) s3 s7 hf3) (cwV 3 hts gX4_freed_X4_layLock rfl rfl rfl (by decide +kernel) ⟨Nat.le_of_ble_eq_true rfl, Nat.le_of_ble_eq_true rfl⟩) 0 4 hV hN hK hP hD hS hA rfl rfl rfl rfl hl.1 rfl (Nat.le_of_ble_eq_true rfl) ⟨Nat.zero_le _, Nat.zero_le _⟩ dX4_freed_37 (fun H locs hP hD hS => ?_)
          obtain ⟨v8, ev8, h1⟩ := nm_some h1
          refine lv_iinc (v := v8) (lv' := [(5, .int v8), (4, .int v5), (0, .ref h), (1, .int a1), (2, .int a2), (3, .int a3)]) hx hb dX4_freed_40 hl (k := 1) rfl (by rw [ev8]; rfl) (by decide) rfl (fun ls hl => ?_)
          refine lv_goto (tgt := 6) hx hb dX4_freed_43 (by decide) ?_
          have hc := lp_l h1 hz1
          exact ih1 v5 v8 s7 hc _ _ hP hD hS ls (lv_sub hl [0, 1, 2, 3, 4, 5] rfl)
        · have h1 := it_t h1 hc
          refine lv_iconst (v := (0 : Int32)) hx hb dX4_freed_24 (by decide) ?_
          refine lv_goto (tgt := 29) hx hb dX4_freed_25 (by decide) ?_
          refine lv_iadd hx hb dX4_freed_29 ?_
          refine lv_topi (fun v9 ev9 => ?_)
          have h1 := nm_at ev9 h1
          refine lv_istore (lv' := [(4, .int v9), (5, .int x1), (0, .ref h), (1, .int a1), (2, .int a2), (3, .int a3)]) hx hb dX4_freed_30 hl (by decide) rfl (fun ls hl => ?_)
          refine lv_aload_n hx hb dX4_freed_32 rfl (lv_at hl 2 rfl) ?_
          refine lv_iload_n hx hb dX4_freed_33 rfl (lv_at hl 3 rfl) ?_
          refine lv_iload hx hb dX4_freed_34 (lv_at hl 1 rfl) ?_
          refine lv_iconst (v := (0 : Int32)) hx hb dX4_freed_36 (by decide) ?_
          obtain ⟨s11, hf4, h1⟩ := bnd_some h1
          refine x_VV (As := [.int a1, .int x1, .int (0 : Int32)]) (rest := []) hC (kX4_layLock l dC dI cA h ad a1 x1 (0 : Int32) s3 s11 hf4) (cwV 3 hts gX4_freed_X4_layLock rfl rfl rfl (by decide +kernel) ⟨Nat.le_of_ble_eq_true rfl, Nat.le_of_ble_eq_true rfl⟩) 0 4 hV hN hK hP hD hS hA rfl rfl rfl rfl hl.1 rfl (Nat.le_of_ble_eq_true rfl) ⟨Nat.zero_le _, Nat.zero_le _⟩ dX4_freed_37 (fun H locs hP hD hS => ?_)
          obtain ⟨v12, ev12, h1⟩ := nm_some h1
          refine lv_iinc (v := v12) (lv' := [(5, .int v12), (4, .int v9), (0, .ref h), (1, .int a1), (2, .int a2), (3, .int a3)]) hx hb dX4_freed_40 hl (k := 1) rfl (by rw [ev12]; rfl) (by decide) rfl (fun ls hl => ?_)
          refine lv_goto (tgt := 6) hx hb dX4_freed_43 (by decide) ?_
          have hc := lp_l h1 hz1
          exact ih1 v9 v12 s11 hc _ _ hP hD hS ls (lv_sub hl [0, 1, 2, 3, 4, 5] rfl)
  exact LP1 FU (0 : Int32) a2 σ hl1 _ _ hP hD hS ls hl
def fX4_tryFree (a1 : Int32) (a2 : Int32) (a3 : Int32) (a4 : Int32) (σ : St) : Option (Int32 × St) := bnd (fX4_isOwner a1) fun r1 => if (r1 : Int32) = (0 : Int32) then (some ((-1 : Int32), σ)) else (bnd (fX4_isRange a2 a3) fun r2 => if (r2 : Int32) = (0 : Int32) then (some ((-2 : Int32), σ)) else (bnd (fX4_keepIf a4 σ) fun s4 => bn2 (fX4_freed a1 a2 a3 s4) fun r5 s6 => bnd (fX4_goThrough  s6) fun s8 => some (r5, s8)))
abbrev rmX4_tryFree : Room := { frames := 7, cells := 0, slots := 0, locals := 167 }
set_option maxHeartbeats 4000000 in
set_option maxRecDepth 100000 in
theorem kX4_tryFree (l : Launch) (dC : Nat → ClassId) (dI : Nat → Nat → Nat) (cA : Nat → ClassId) (h : Nat) (ad : Nat → Nat) (a1 : Int32) (a2 : Int32) (a3 : Int32) (a4 : Int32) (σ : St) (R0 : Int32) (σ' : St) (h0 : fX4_tryFree a1 a2 a3 a4 σ = some (R0, σ')) : CI l yX4_tryFree wsX4_tryFree rmX4_tryFree (dC, dI) vwCl (tysW cA) [.ref h, .int a1, .int a2, .int a3, .int a4] (wM cA h ad σ) R0 (wM cA h ad σ') := by
  refine CGI_of (cc := cX4_tryFree) (nL := 6) (ret := (some .int)) (by decide) rfl (Nat.le_of_ble_eq_true rfl) ?_
  intro p e s m av below meth c A ls H locs hC hl
  obtain ⟨hC, hr, hlocks, hV, hN, hK, hP, hD, hS, hA⟩ := hC
  have hC : CallFix p m c cX4_tryFree 6 s _ wsX4_tryFree RX4 := hC
  obtain ⟨hx, hb, hml, hown, hts⟩ := id hC
  have hin0 : ∀ w ∈ u_ws RX4 TX4 16, w ∈ wsX4_tryFree := fun _ h => (List.mem_cons_of_mem _ (List.mem_append_right _ h))
  have hl : lv_has ls 6 [(0, .ref h), (1, .int a1), (2, .int a2), (3, .int a3), (4, .int a4)] := hl
  unfold fX4_tryFree at h0
  refine lv_iload_n hx hb dX4_tryFree_0 rfl (lv_at hl 1 rfl) ?_
  obtain ⟨r1, hf1, h0⟩ := bnd_some h0
  refine x_SI (As := [.int a1]) (rest := []) hC (kX4_isOwner l dC dI cA a1 r1 hf1) (cwS 1 hts gX4_tryFree_X4_isOwner rfl rfl rfl (by decide +kernel) ⟨Nat.le_of_ble_eq_true rfl, Nat.le_of_ble_eq_true rfl⟩) hV hN hK hP hD hS hA rfl hl.1 rfl (Nat.le_of_ble_eq_true rfl) ⟨Nat.zero_le _, Nat.zero_le _⟩ dX4_tryFree_1 (fun H locs hP hD hS => ?_)
  refine lv_if_ne (tgt := 9) hx hb dX4_tryFree_4 (by decide) (fun hc => ?_) (fun hc => ?_)
  · have h0 := it_f h0 hc
    refine lv_iload_n hx hb dX4_tryFree_9 rfl (lv_at hl 2 rfl) ?_
    refine lv_iload_n hx hb dX4_tryFree_10 rfl (lv_at hl 3 rfl) ?_
    obtain ⟨r2, hf2, h0⟩ := bnd_some h0
    refine x_SI (As := [.int a2, .int a3]) (rest := []) hC (kX4_isRange l dC dI cA a2 a3 r2 hf2) (cwS 2 hts gX4_tryFree_X4_isRange rfl rfl rfl (by decide +kernel) ⟨Nat.le_of_ble_eq_true rfl, Nat.le_of_ble_eq_true rfl⟩) hV hN hK hP hD hS hA rfl hl.1 rfl (Nat.le_of_ble_eq_true rfl) ⟨Nat.zero_le _, Nat.zero_le _⟩ dX4_tryFree_11 (fun H locs hP hD hS => ?_)
    refine lv_if_ne (tgt := 20) hx hb dX4_tryFree_14 (by decide) (fun hc => ?_) (fun hc => ?_)
    · have h0 := it_f h0 hc
      refine lv_aload_n hx hb dX4_tryFree_20 rfl (lv_at hl 0 rfl) ?_
      refine lv_iload hx hb dX4_tryFree_21 (lv_at hl 4 rfl) ?_
      obtain ⟨s4, hf3, h0⟩ := bnd_some h0
      refine x_VV (As := [.int a4]) (rest := []) hC (kX4_keepIf l dC dI cA h ad a4 σ s4 hf3) (cwV 1 hts gX4_tryFree_X4_keepIf rfl rfl rfl (by decide +kernel) ⟨Nat.le_of_ble_eq_true rfl, Nat.le_of_ble_eq_true rfl⟩) 0 4 hV hN hK hP hD hS hA rfl rfl rfl rfl hl.1 rfl (Nat.le_of_ble_eq_true rfl) ⟨Nat.zero_le _, Nat.zero_le _⟩ dX4_tryFree_23 (fun H locs hP hD hS => ?_)
      refine lv_aload_n hx hb dX4_tryFree_26 rfl (lv_at hl 0 rfl) ?_
      refine lv_iload_n hx hb dX4_tryFree_27 rfl (lv_at hl 1 rfl) ?_
      refine lv_iload_n hx hb dX4_tryFree_28 rfl (lv_at hl 2 rfl) ?_
      refine lv_iload_n hx hb dX4_tryFree_29 rfl (lv_at hl 3 rfl) ?_
      obtain ⟨r5, s6, hf4, h0⟩ := bn2_some h0
      refine x_VI (As := [.int a1, .int a2, .int a3]) (rest := []) hC (kX4_freed l dC dI cA h ad a1 a2 a3 s4 r5 s6 hf4) (cwV 3 hts gX4_tryFree_X4_freed rfl rfl rfl (by decide +kernel) ⟨Nat.le_of_ble_eq_true rfl, Nat.le_of_ble_eq_true rfl⟩) 0 4 hV hN hK hP hD hS hA rfl rfl rfl rfl hl.1 rfl (Nat.le_of_ble_eq_true rfl) ⟨Nat.zero_le _, Nat.zero_le _⟩ dX4_tryFree_30 (fun H locs hP hD hS => ?_)
      refine lv_istore (lv' := [(5, .int r5), (0, .ref h), (1, .int a1), (2, .int a2), (3, .int a3), (4, .int a4)]) hx hb dX4_tryFree_33 hl (by decide) rfl (fun ls hl => ?_)
      refine lv_aload_n hx hb dX4_tryFree_35 rfl (lv_at hl 1 rfl) ?_
      obtain ⟨s8, hf5, h0⟩ := bnd_some h0
      refine x_VV (As := []) (rest := []) hC (kX4_goThrough l dC dI cA h ad s6 s8 hf5) (cwV 0 hts gX4_tryFree_X4_goThrough rfl rfl rfl (by decide +kernel) ⟨Nat.le_of_ble_eq_true rfl, Nat.le_of_ble_eq_true rfl⟩) 0 4 hV hN hK hP hD hS hA rfl rfl rfl rfl hl.1 rfl (Nat.le_of_ble_eq_true rfl) ⟨Nat.zero_le _, Nat.zero_le _⟩ dX4_tryFree_36 (fun H locs hP hD hS => ?_)
      refine lv_iload hx hb dX4_tryFree_39 (lv_at hl 0 rfl) ?_
      obtain ⟨e1, e2⟩ := Prod.mk.inj (Option.some.inj h0)
      exact x_retI hC hr hlocks rfl hP hD hS dX4_tryFree_41 ⟨e1, by rw [← e2]⟩
    · have h0 := it_t h0 hc
      refine lv_bipush (v := (-2 : Int32)) hx hb dX4_tryFree_17 (by decide) ?_
      obtain ⟨e1, e2⟩ := Prod.mk.inj (Option.some.inj h0)
      exact x_retI hC hr hlocks rfl hP hD hS dX4_tryFree_19 ⟨e1, by rw [← e2]⟩
  · have h0 := it_t h0 hc
    refine lv_iconst (v := (-1 : Int32)) hx hb dX4_tryFree_7 (by decide) ?_
    obtain ⟨e1, e2⟩ := Prod.mk.inj (Option.some.inj h0)
    exact x_retI hC hr hlocks rfl hP hD hS dX4_tryFree_8 ⟨e1, by rw [← e2]⟩
def fX4_goAway (a1 : Int32) (σ : St) : Option (Int32 × St) := bnd (fX4_of a1 (0 : Int32) σ) fun r1 => if (r1 : Int32) ≤ (0 : Int32) then (bn2 (fX4_freed a1 (0 : Int32) (300 : Int32) σ) fun r2 s3 => bnd (fX4_goThrough  s3) fun s5 => some (r2, s5)) else (bnd (fX4_leaveRow a1 σ) fun s7 => bn2 (fX4_freed a1 (0 : Int32) (300 : Int32) s7) fun r8 s9 => bnd (fX4_goThrough  s9) fun s11 => some (r8, s11))
abbrev rmX4_goAway : Room := { frames := 7, cells := 0, slots := 0, locals := 167 }
set_option maxHeartbeats 4000000 in
set_option maxRecDepth 100000 in
theorem kX4_goAway (l : Launch) (dC : Nat → ClassId) (dI : Nat → Nat → Nat) (cA : Nat → ClassId) (h : Nat) (ad : Nat → Nat) (a1 : Int32) (σ : St) (R0 : Int32) (σ' : St) (h0 : fX4_goAway a1 σ = some (R0, σ')) : CI l yX4_goAway wsX4_goAway rmX4_goAway (dC, dI) vwCl (tysW cA) [.ref h, .int a1] (wM cA h ad σ) R0 (wM cA h ad σ') := by
  refine CGI_of (cc := cX4_goAway) (nL := 3) (ret := (some .int)) (by decide) rfl (Nat.le_of_ble_eq_true rfl) ?_
  intro p e s m av below meth c A ls H locs hC hl
  obtain ⟨hC, hr, hlocks, hV, hN, hK, hP, hD, hS, hA⟩ := hC
  have hC : CallFix p m c cX4_goAway 3 s _ wsX4_goAway RX4 := hC
  obtain ⟨hx, hb, hml, hown, hts⟩ := id hC
  have hin0 : ∀ w ∈ u_ws RX4 TX4 16, w ∈ wsX4_goAway := fun _ h => (List.mem_cons_of_mem _ (List.mem_append_right _ h))
  have hl : lv_has ls 3 [(0, .ref h), (1, .int a1)] := hl
  unfold fX4_goAway at h0
  refine lv_aload_n hx hb dX4_goAway_0 rfl (lv_at hl 0 rfl) ?_
  refine lv_iload_n hx hb dX4_goAway_1 rfl (lv_at hl 1 rfl) ?_
  refine lv_iconst (v := (0 : Int32)) hx hb dX4_goAway_2 (by decide) ?_
  obtain ⟨r1, hf1, h0⟩ := bnd_some h0
  refine x_VI (As := [.int a1, .int (0 : Int32)]) (rest := []) hC (kX4_of l dC dI cA h ad a1 (0 : Int32) σ r1  hf1) (cwV 2 hts gX4_goAway_X4_of rfl rfl rfl (by decide +kernel) ⟨Nat.le_of_ble_eq_true rfl, Nat.le_of_ble_eq_true rfl⟩) 0 4 hV hN hK hP hD hS hA rfl rfl rfl rfl hl.1 rfl (Nat.le_of_ble_eq_true rfl) ⟨Nat.zero_le _, Nat.zero_le _⟩ dX4_goAway_3 (fun H locs hP hD hS => ?_)
  refine lv_if_le (tgt := 14) hx hb dX4_goAway_6 (by decide) (fun hc => ?_) (fun hc => ?_)
  · have h0 := it_t h0 hc
    refine lv_aload_n hx hb dX4_goAway_14 rfl (lv_at hl 0 rfl) ?_
    refine lv_iload_n hx hb dX4_goAway_15 rfl (lv_at hl 1 rfl) ?_
    refine lv_iconst (v := (0 : Int32)) hx hb dX4_goAway_16 (by decide) ?_
    refine lv_sipush (v := (300 : Int32)) hx hb dX4_goAway_17 (by decide) ?_
    obtain ⟨r2, s3, hf2, h0⟩ := bn2_some h0
    refine x_VI (As := [.int a1, .int (0 : Int32), .int (300 : Int32)]) (rest := []) hC (kX4_freed l dC dI cA h ad a1 (0 : Int32) (300 : Int32) σ r2 s3 hf2) (cwV 3 hts gX4_goAway_X4_freed rfl rfl rfl (by decide +kernel) ⟨Nat.le_of_ble_eq_true rfl, Nat.le_of_ble_eq_true rfl⟩) 0 4 hV hN hK hP hD hS hA rfl rfl rfl rfl hl.1 rfl (Nat.le_of_ble_eq_true rfl) ⟨Nat.zero_le _, Nat.zero_le _⟩ dX4_goAway_20 (fun H locs hP hD hS => ?_)
    refine lv_istore_n (lv' := [(2, .int r2), (0, .ref h), (1, .int a1)]) hx hb dX4_goAway_23 rfl hl (by decide) rfl (fun ls hl => ?_)
    refine lv_aload_n hx hb dX4_goAway_24 rfl (lv_at hl 1 rfl) ?_
    obtain ⟨s5, hf3, h0⟩ := bnd_some h0
    refine x_VV (As := []) (rest := []) hC (kX4_goThrough l dC dI cA h ad s3 s5 hf3) (cwV 0 hts gX4_goAway_X4_goThrough rfl rfl rfl (by decide +kernel) ⟨Nat.le_of_ble_eq_true rfl, Nat.le_of_ble_eq_true rfl⟩) 0 4 hV hN hK hP hD hS hA rfl rfl rfl rfl hl.1 rfl (Nat.le_of_ble_eq_true rfl) ⟨Nat.zero_le _, Nat.zero_le _⟩ dX4_goAway_25 (fun H locs hP hD hS => ?_)
    refine lv_iload_n hx hb dX4_goAway_28 rfl (lv_at hl 0 rfl) ?_
    obtain ⟨e1, e2⟩ := Prod.mk.inj (Option.some.inj h0)
    exact x_retI hC hr hlocks rfl hP hD hS dX4_goAway_29 ⟨e1, by rw [← e2]⟩
  · have h0 := it_f h0 hc
    refine lv_aload_n hx hb dX4_goAway_9 rfl (lv_at hl 0 rfl) ?_
    refine lv_iload_n hx hb dX4_goAway_10 rfl (lv_at hl 1 rfl) ?_
    obtain ⟨s7, hf4, h0⟩ := bnd_some h0
    refine x_VV (As := [.int a1]) (rest := []) hC (kX4_leaveRow l dC dI cA h ad a1 σ s7 hf4) (cwV 1 hts gX4_goAway_X4_leaveRow rfl rfl rfl (by decide +kernel) ⟨Nat.le_of_ble_eq_true rfl, Nat.le_of_ble_eq_true rfl⟩) 0 4 hV hN hK hP hD hS hA rfl rfl rfl rfl hl.1 rfl (Nat.le_of_ble_eq_true rfl) ⟨Nat.zero_le _, Nat.zero_le _⟩ dX4_goAway_11 (fun H locs hP hD hS => ?_)
    refine lv_aload_n hx hb dX4_goAway_14 rfl (lv_at hl 0 rfl) ?_
    refine lv_iload_n hx hb dX4_goAway_15 rfl (lv_at hl 1 rfl) ?_
    refine lv_iconst (v := (0 : Int32)) hx hb dX4_goAway_16 (by decide) ?_
    refine lv_sipush (v := (300 : Int32)) hx hb dX4_goAway_17 (by decide) ?_
    obtain ⟨r8, s9, hf5, h0⟩ := bn2_some h0
    refine x_VI (As := [.int a1, .int (0 : Int32), .int (300 : Int32)]) (rest := []) hC (kX4_freed l dC dI cA h ad a1 (0 : Int32) (300 : Int32) s7 r8 s9 hf5) (cwV 3 hts gX4_goAway_X4_freed rfl rfl rfl (by decide +kernel) ⟨Nat.le_of_ble_eq_true rfl, Nat.le_of_ble_eq_true rfl⟩) 0 4 hV hN hK hP hD hS hA rfl rfl rfl rfl hl.1 rfl (Nat.le_of_ble_eq_true rfl) ⟨Nat.zero_le _, Nat.zero_le _⟩ dX4_goAway_20 (fun H locs hP hD hS => ?_)
    refine lv_istore_n (lv' := [(2, .int r8), (0, .ref h), (1, .int a1)]) hx hb dX4_goAway_23 rfl hl (by decide) rfl (fun ls hl => ?_)
    refine lv_aload_n hx hb dX4_goAway_24 rfl (lv_at hl 1 rfl) ?_
    obtain ⟨s11, hf6, h0⟩ := bnd_some h0
    refine x_VV (As := []) (rest := []) hC (kX4_goThrough l dC dI cA h ad s9 s11 hf6) (cwV 0 hts gX4_goAway_X4_goThrough rfl rfl rfl (by decide +kernel) ⟨Nat.le_of_ble_eq_true rfl, Nat.le_of_ble_eq_true rfl⟩) 0 4 hV hN hK hP hD hS hA rfl rfl rfl rfl hl.1 rfl (Nat.le_of_ble_eq_true rfl) ⟨Nat.zero_le _, Nat.zero_le _⟩ dX4_goAway_25 (fun H locs hP hD hS => ?_)
    refine lv_iload_n hx hb dX4_goAway_28 rfl (lv_at hl 0 rfl) ?_
    obtain ⟨e1, e2⟩ := Prod.mk.inj (Option.some.inj h0)
    exact x_retI hC hr hlocks rfl hP hD hS dX4_goAway_29 ⟨e1, by rw [← e2]⟩
def fX4_tryLeave (a1 : Int32) (a2 : Int32) (σ : St) : Option (Int32 × St) := bnd (fX4_isOwner a1) fun r1 => if (r1 : Int32) = (0 : Int32) then (some ((-1 : Int32), σ)) else (bnd (fX4_keepIf a2 σ) fun s3 => bn2 (fX4_goAway a1 s3) fun r4 s5 => some (r4, s5))
abbrev rmX4_tryLeave : Room := { frames := 8, cells := 0, slots := 0, locals := 189 }
set_option maxHeartbeats 4000000 in
set_option maxRecDepth 100000 in
theorem kX4_tryLeave (l : Launch) (dC : Nat → ClassId) (dI : Nat → Nat → Nat) (cA : Nat → ClassId) (h : Nat) (ad : Nat → Nat) (a1 : Int32) (a2 : Int32) (σ : St) (R0 : Int32) (σ' : St) (h0 : fX4_tryLeave a1 a2 σ = some (R0, σ')) : CI l yX4_tryLeave wsX4_tryLeave rmX4_tryLeave (dC, dI) vwCl (tysW cA) [.ref h, .int a1, .int a2] (wM cA h ad σ) R0 (wM cA h ad σ') := by
  refine CGI_of (cc := cX4_tryLeave) (nL := 3) (ret := (some .int)) (by decide) rfl (Nat.le_of_ble_eq_true rfl) ?_
  intro p e s m av below meth c A ls H locs hC hl
  obtain ⟨hC, hr, hlocks, hV, hN, hK, hP, hD, hS, hA⟩ := hC
  have hC : CallFix p m c cX4_tryLeave 3 s _ wsX4_tryLeave RX4 := hC
  obtain ⟨hx, hb, hml, hown, hts⟩ := id hC
  have hin0 : ∀ w ∈ u_ws RX4 TX4 16, w ∈ wsX4_tryLeave := fun _ h => (List.mem_cons_of_mem _ (List.mem_append_right _ h))
  have hl : lv_has ls 3 [(0, .ref h), (1, .int a1), (2, .int a2)] := hl
  unfold fX4_tryLeave at h0
  refine lv_iload_n hx hb dX4_tryLeave_0 rfl (lv_at hl 1 rfl) ?_
  obtain ⟨r1, hf1, h0⟩ := bnd_some h0
  refine x_SI (As := [.int a1]) (rest := []) hC (kX4_isOwner l dC dI cA a1 r1 hf1) (cwS 1 hts gX4_tryLeave_X4_isOwner rfl rfl rfl (by decide +kernel) ⟨Nat.le_of_ble_eq_true rfl, Nat.le_of_ble_eq_true rfl⟩) hV hN hK hP hD hS hA rfl hl.1 rfl (Nat.le_of_ble_eq_true rfl) ⟨Nat.zero_le _, Nat.zero_le _⟩ dX4_tryLeave_1 (fun H locs hP hD hS => ?_)
  refine lv_if_ne (tgt := 9) hx hb dX4_tryLeave_4 (by decide) (fun hc => ?_) (fun hc => ?_)
  · have h0 := it_f h0 hc
    refine lv_aload_n hx hb dX4_tryLeave_9 rfl (lv_at hl 0 rfl) ?_
    refine lv_iload_n hx hb dX4_tryLeave_10 rfl (lv_at hl 2 rfl) ?_
    obtain ⟨s3, hf2, h0⟩ := bnd_some h0
    refine x_VV (As := [.int a2]) (rest := []) hC (kX4_keepIf l dC dI cA h ad a2 σ s3 hf2) (cwV 1 hts gX4_tryLeave_X4_keepIf rfl rfl rfl (by decide +kernel) ⟨Nat.le_of_ble_eq_true rfl, Nat.le_of_ble_eq_true rfl⟩) 0 4 hV hN hK hP hD hS hA rfl rfl rfl rfl hl.1 rfl (Nat.le_of_ble_eq_true rfl) ⟨Nat.zero_le _, Nat.zero_le _⟩ dX4_tryLeave_11 (fun H locs hP hD hS => ?_)
    refine lv_aload_n hx hb dX4_tryLeave_14 rfl (lv_at hl 0 rfl) ?_
    refine lv_iload_n hx hb dX4_tryLeave_15 rfl (lv_at hl 1 rfl) ?_
    obtain ⟨r4, s5, hf3, h0⟩ := bn2_some h0
    refine x_VI (As := [.int a1]) (rest := []) hC (kX4_goAway l dC dI cA h ad a1 s3 r4 s5 hf3) (cwV 1 hts gX4_tryLeave_X4_goAway rfl rfl rfl (by decide +kernel) ⟨Nat.le_of_ble_eq_true rfl, Nat.le_of_ble_eq_true rfl⟩) 0 4 hV hN hK hP hD hS hA rfl rfl rfl rfl hl.1 rfl (Nat.le_of_ble_eq_true rfl) ⟨Nat.zero_le _, Nat.zero_le _⟩ dX4_tryLeave_16 (fun H locs hP hD hS => ?_)
    obtain ⟨e1, e2⟩ := Prod.mk.inj (Option.some.inj h0)
    exact x_retI hC hr hlocks rfl hP hD hS dX4_tryLeave_19 ⟨e1, by rw [← e2]⟩
  · have h0 := it_t h0 hc
    refine lv_iconst (v := (-1 : Int32)) hx hb dX4_tryLeave_7 (by decide) ?_
    obtain ⟨e1, e2⟩ := Prod.mk.inj (Option.some.inj h0)
    exact x_retI hC hr hlocks rfl hP hD hS dX4_tryLeave_8 ⟨e1, by rw [← e2]⟩
def bX4_sendAway_4  (x2 : Int32) (x1 : Int32) (s3 : St) : Option ((Int32 × Int32 × St) ⊕ (Int32 × Int32 × St)) := if (8 : Int32) ≤ x1 then (some (.inr (x2, x1, s3))) else (ax (4 : Int32) 2488 (if ((s3 0 ((4 : Int32) : Int32).toNatClampNeg) : Int32) ≤ (0 : Int32) then (some (.inr (x2, x1, s3))) else (bnd (fX4_of x1 (0 : Int32) s3) fun r4 => if (r4 : Int32) ≤ (0 : Int32) then (nm (x1 + (1 : Int32)) fun v5 => some (.inl (x2, v5, s3))) else (bnd (fX4_of x1 (3 : Int32) s3) fun r6 => ax (4 : Int32) 2488 (if (r6 : Int32) < (s3 0 ((4 : Int32) : Int32).toNatClampNeg) then (nm (x1 + (1 : Int32)) fun v7 => some (.inl (x2, v7, s3))) else (bnd (fX4_leaveRow x1 s3) fun s9 => nm (x2 + (1 : Int32)) fun v10 => nm (x1 + (1 : Int32)) fun v11 => some (.inl (v10, v11, s9))))))))
def fX4_sendAway (σ : St) : Option (Int32 × St) := bnd (lp (fun t : (Int32 × Int32 × St) => bX4_sendAway_4  t.1 t.2.1 t.2.2) FU ((0 : Int32), (0 : Int32), σ)) (fun e : (Int32 × Int32 × St) => nm e.1 fun x12 => nm e.2.1 fun x13 => nm e.2.2 fun s14 => ax (5 : Int32) 2488 (ax (5 : Int32) 2488 (nm (put s14 0 (upd (s14 0) ((5 : Int32) : Int32).toNatClampNeg ((s14 0 ((5 : Int32) : Int32).toNatClampNeg) + x12))) fun s15 => some (x12, s15))))
abbrev rmX4_sendAway : Room := { frames := 2, cells := 0, slots := 0, locals := 46 }
set_option maxHeartbeats 4000000 in
set_option maxRecDepth 100000 in
theorem kX4_sendAway (l : Launch) (dC : Nat → ClassId) (dI : Nat → Nat → Nat) (cA : Nat → ClassId) (h : Nat) (ad : Nat → Nat) (σ : St) (R0 : Int32) (σ' : St) (h0 : fX4_sendAway σ = some (R0, σ')) : CI l yX4_sendAway wsX4_sendAway rmX4_sendAway (dC, dI) vwCl (tysW cA) [.ref h] (wM cA h ad σ) R0 (wM cA h ad σ') := by
  refine CGI_of (cc := cX4_sendAway) (nL := 3) (ret := (some .int)) (by decide) rfl (Nat.le_of_ble_eq_true rfl) ?_
  intro p e s m av below meth c A ls H locs hC hl
  obtain ⟨hC, hr, hlocks, hV, hN, hK, hP, hD, hS, hA⟩ := hC
  have hC : CallFix p m c cX4_sendAway 3 s _ wsX4_sendAway RX4 := hC
  obtain ⟨hx, hb, hml, hown, hts⟩ := id hC
  have hin0 : ∀ w ∈ u_ws RX4 TX4 16, w ∈ wsX4_sendAway := fun _ h => (List.mem_cons_of_mem _ (List.mem_append_right _ h))
  have hl : lv_has ls 3 [(0, .ref h)] := hl
  unfold fX4_sendAway at h0
  refine lv_iconst (v := (0 : Int32)) hx hb dX4_sendAway_0 (by decide) ?_
  refine lv_istore_n (lv' := [(1, .int (0 : Int32)), (0, .ref h)]) hx hb dX4_sendAway_1 rfl hl (by decide) rfl (fun ls hl => ?_)
  refine lv_iconst (v := (0 : Int32)) hx hb dX4_sendAway_2 (by decide) ?_
  refine lv_istore_n (lv' := [(2, .int (0 : Int32)), (1, .int (0 : Int32)), (0, .ref h)]) hx hb dX4_sendAway_3 rfl hl (by decide) rfl (fun ls hl => ?_)
  obtain ⟨ε1, hl1, h0⟩ := bnd_some h0
  have KN1 : ∀ (x12 : Int32) (x13 : Int32) (s14 : St), ε1 = (x12, x13, s14) → ∀ (H : Heap) (locs : List Loc), va_P (dC, dI) vwCl (wM cA h ad s14) H → va_D A (wM cA h ad s14) → va_S A s.heap H locs → ∀ (ls : Array Slot), lv_has ls 3 [(2, .int x13), (1, .int x12), (0, .ref h)] → W p l e (headSpec wsX4_sendAway rmX4_sendAway).room s m av below meth c H locs 0 0 (MQ below (qI (dC, dI) A R0 (wM cA h ad σ')) av s 0 0 A) (F0 m 57 ls []) := by
    intro x12 x13 s14 hε H locs hP hD hS ls hl
    rw [hε] at h0
    have h0 := nm_at (z := x12) rfl h0
    have h0 := nm_at (z := x13) rfl h0
    have h0 := nm_at (z := s14) rfl h0
    refine lv_aload_n hx hb dX4_sendAway_57 rfl (lv_at hl 2 rfl) ?_
    refine va_get (D := (dC, dI)) (ci := 4) (v := .ref (ad 0)) (C := RX4) (T := TX4) (N := 16) hx hb hts hin0 hown hK hP 0 rfl rfl 0 (by decide) (hts (.fieldLink RX4 7 "MeanLocksModel" "at" "[I") (List.mem_of_getElem? (i := 1) rfl)) (fun _ h9 => h9) rfl dX4_sendAway_58 ?_
    refine lv_iconst (v := (5 : Int32)) hx hb dX4_sendAway_61 (by decide) ?_
    refine lv_dup2_11 hx hb dX4_sendAway_62 rfl rfl ?_
    obtain ⟨hi, h0⟩ := ax_some h0
    refine va_iald hx hb hK hP 1 0 rfl rfl hi dX4_sendAway_63 ?_
    refine lv_iload_n hx hb dX4_sendAway_64 rfl (lv_at hl 1 rfl) ?_
    refine lv_iadd hx hb dX4_sendAway_65 ?_
    obtain ⟨hi, h0⟩ := ax_some h0
    obtain ⟨s15, es15, h0⟩ := nm_some h0
    refine x_iast (ws' := wM cA h ad s15) hC hK hP hD hS 1 0 rfl rfl (by rw [es15]; exact wM_s0 _ _ _ _ _) hi dX4_sendAway_66 (fun H locs hP hD hS => ?_)
    refine lv_iload_n hx hb dX4_sendAway_67 rfl (lv_at hl 1 rfl) ?_
    obtain ⟨e1, e2⟩ := Prod.mk.inj (Option.some.inj h0)
    exact x_retI hC hr hlocks rfl hP hD hS dX4_sendAway_68 ⟨e1, by rw [← e2]⟩
  have LP1 : ∀ (n : Nat) (x2 : Int32) (x1 : Int32) (s3 : St), lp (fun t : (Int32 × Int32 × St) => bX4_sendAway_4  t.1 t.2.1 t.2.2) n (x2, x1, s3) = some ε1 → ∀ (H : Heap) (locs : List Loc), va_P (dC, dI) vwCl (wM cA h ad s3) H → va_D A (wM cA h ad s3) → va_S A s.heap H locs → ∀ (ls : Array Slot), lv_has ls 3 [(2, .int x1), (1, .int x2), (0, .ref h)] → W p l e (headSpec wsX4_sendAway rmX4_sendAway).room s m av below meth c H locs 0 0 (MQ below (qI (dC, dI) A R0 (wM cA h ad σ')) av s 0 0 A) (F0 m 4 ls []) := by
    intro n
    induction n with
    | zero => intro x2 x1 s3 hl0; exact (lp_0 hl0).elim
    | succ n ih1 =>
      intro x2 x1 s3 hl0 H locs hP hD hS ls hl
      obtain ⟨z1, h1, hz1⟩ := lp_s hl0
      have h1 : bX4_sendAway_4  x2 x1 s3 = some z1 := h1
      unfold bX4_sendAway_4 at h1
      refine lv_iload_n hx hb dX4_sendAway_4 rfl (lv_at hl 0 rfl) ?_
      refine lv_bipush (v := (8 : Int32)) hx hb dX4_sendAway_5 (by decide) ?_
      refine lv_icmp_ge (tgt := 57) hx hb dX4_sendAway_7 (by decide) (fun hc => ?_) (fun hc => ?_)
      · have h1 := it_t h1 hc
        have he := lp_r h1 hz1
        exact KN1 x2 x1 s3 he _ _ hP hD hS ls (lv_sub hl [0, 1, 2] rfl)
      · have h1 := it_f h1 hc
        refine lv_aload_n hx hb dX4_sendAway_10 rfl (lv_at hl 2 rfl) ?_
        refine va_get (D := (dC, dI)) (ci := 4) (v := .ref (ad 0)) (C := RX4) (T := TX4) (N := 16) hx hb hts hin0 hown hK hP 0 rfl rfl 0 (by decide) (hts (.fieldLink RX4 7 "MeanLocksModel" "at" "[I") (List.mem_of_getElem? (i := 1) rfl)) (fun _ h9 => h9) rfl dX4_sendAway_11 ?_
        refine lv_iconst (v := (4 : Int32)) hx hb dX4_sendAway_14 (by decide) ?_
        obtain ⟨hi, h1⟩ := ax_some h1
        refine va_iald hx hb hK hP 1 0 rfl rfl hi dX4_sendAway_15 ?_
        refine lv_if_le (tgt := 57) hx hb dX4_sendAway_16 (by decide) (fun hc => ?_) (fun hc => ?_)
        · have h1 := it_t h1 hc
          have he := lp_r h1 hz1
          exact KN1 x2 x1 s3 he _ _ hP hD hS ls (lv_sub hl [0, 1, 2] rfl)
        · have h1 := it_f h1 hc
          refine lv_aload_n hx hb dX4_sendAway_19 rfl (lv_at hl 2 rfl) ?_
          refine lv_iload_n hx hb dX4_sendAway_20 rfl (lv_at hl 0 rfl) ?_
          refine lv_iconst (v := (0 : Int32)) hx hb dX4_sendAway_21 (by decide) ?_
          obtain ⟨r4, hf2, h1⟩ := bnd_some h1
          refine x_VI (As := [.int x1, .int (0 : Int32)]) (rest := []) hC (kX4_of l dC dI cA h ad x1 (0 : Int32) s3 r4  hf2) (cwV 2 hts gX4_sendAway_X4_of rfl rfl rfl (by decide +kernel) ⟨Nat.le_of_ble_eq_true rfl, Nat.le_of_ble_eq_true rfl⟩) 0 4 hV hN hK hP hD hS hA rfl rfl rfl rfl hl.1 rfl (Nat.le_of_ble_eq_true rfl) ⟨Nat.zero_le _, Nat.zero_le _⟩ dX4_sendAway_22 (fun H locs hP hD hS => ?_)
          refine lv_if_le (tgt := 51) hx hb dX4_sendAway_25 (by decide) (fun hc => ?_) (fun hc => ?_)
          · have h1 := it_t h1 hc
            obtain ⟨v5, ev5, h1⟩ := nm_some h1
            refine lv_iinc (v := v5) (lv' := [(2, .int v5), (1, .int x2), (0, .ref h)]) hx hb dX4_sendAway_51 hl (k := 0) rfl (by rw [ev5]; rfl) (by decide) rfl (fun ls hl => ?_)
            refine lv_goto (tgt := 4) hx hb dX4_sendAway_54 (by decide) ?_
            have hc := lp_l h1 hz1
            exact ih1 x2 v5 s3 hc _ _ hP hD hS ls (lv_sub hl [0, 1, 2] rfl)
          · have h1 := it_f h1 hc
            refine lv_aload_n hx hb dX4_sendAway_28 rfl (lv_at hl 2 rfl) ?_
            refine lv_iload_n hx hb dX4_sendAway_29 rfl (lv_at hl 0 rfl) ?_
            refine lv_iconst (v := (3 : Int32)) hx hb dX4_sendAway_30 (by decide) ?_
            obtain ⟨r6, hf3, h1⟩ := bnd_some h1
            refine x_VI (As := [.int x1, .int (3 : Int32)]) (rest := []) hC (kX4_of l dC dI cA h ad x1 (3 : Int32) s3 r6  hf3) (cwV 2 hts gX4_sendAway_X4_of rfl rfl rfl (by decide +kernel) ⟨Nat.le_of_ble_eq_true rfl, Nat.le_of_ble_eq_true rfl⟩) 0 4 hV hN hK hP hD hS hA rfl rfl rfl rfl hl.1 rfl (Nat.le_of_ble_eq_true rfl) ⟨Nat.zero_le _, Nat.zero_le _⟩ dX4_sendAway_31 (fun H locs hP hD hS => ?_)
            refine lv_aload_n hx hb dX4_sendAway_34 rfl (lv_at hl 2 rfl) ?_
            refine va_get (D := (dC, dI)) (ci := 4) (v := .ref (ad 0)) (C := RX4) (T := TX4) (N := 16) hx hb hts hin0 hown hK hP 0 rfl rfl 0 (by decide) (hts (.fieldLink RX4 7 "MeanLocksModel" "at" "[I") (List.mem_of_getElem? (i := 1) rfl)) (fun _ h9 => h9) rfl dX4_sendAway_35 ?_
            refine lv_iconst (v := (4 : Int32)) hx hb dX4_sendAway_38 (by decide) ?_
            obtain ⟨hi, h1⟩ := ax_some h1
            refine va_iald hx hb hK hP 1 0 rfl rfl hi dX4_sendAway_39 ?_
            refine lv_icmp_lt (tgt := 51) hx hb dX4_sendAway_40 (by decide) (fun hc => ?_) (fun hc => ?_)
            · have h1 := it_t h1 hc
              obtain ⟨v7, ev7, h1⟩ := nm_some h1
              refine lv_iinc (v := v7) (lv' := [(2, .int v7), (1, .int x2), (0, .ref h)]) hx hb dX4_sendAway_51 hl (k := 0) rfl (by rw [ev7]; rfl) (by decide) rfl (fun ls hl => ?_)
              refine lv_goto (tgt := 4) hx hb dX4_sendAway_54 (by decide) ?_
              have hc := lp_l h1 hz1
              exact ih1 x2 v7 s3 hc _ _ hP hD hS ls (lv_sub hl [0, 1, 2] rfl)
            · have h1 := it_f h1 hc
              refine lv_aload_n hx hb dX4_sendAway_43 rfl (lv_at hl 2 rfl) ?_
              refine lv_iload_n hx hb dX4_sendAway_44 rfl (lv_at hl 0 rfl) ?_
              obtain ⟨s9, hf4, h1⟩ := bnd_some h1
              refine x_VV (As := [.int x1]) (rest := []) hC (kX4_leaveRow l dC dI cA h ad x1 s3 s9 hf4) (cwV 1 hts gX4_sendAway_X4_leaveRow rfl rfl rfl (by decide +kernel) ⟨Nat.le_of_ble_eq_true rfl, Nat.le_of_ble_eq_true rfl⟩) 0 4 hV hN hK hP hD hS hA rfl rfl rfl rfl hl.1 rfl (Nat.le_of_ble_eq_true rfl) ⟨Nat.zero_le _, Nat.zero_le _⟩ dX4_sendAway_45 (fun H locs hP hD hS => ?_)
              obtain ⟨v10, ev10, h1⟩ := nm_some h1
              refine lv_iinc (v := v10) (lv' := [(1, .int v10), (2, .int x1), (0, .ref h)]) hx hb dX4_sendAway_48 hl (k := 1) rfl (by rw [ev10]; rfl) (by decide) rfl (fun ls hl => ?_)
              obtain ⟨v11, ev11, h1⟩ := nm_some h1
              refine lv_iinc (v := v11) (lv' := [(2, .int v11), (1, .int v10), (0, .ref h)]) hx hb dX4_sendAway_51 hl (k := 1) rfl (by rw [ev11]; rfl) (by decide) rfl (fun ls hl => ?_)
              refine lv_goto (tgt := 4) hx hb dX4_sendAway_54 (by decide) ?_
              have hc := lp_l h1 hz1
              exact ih1 v10 v11 s9 hc _ _ hP hD hS ls (lv_sub hl [0, 1, 2] rfl)
  exact LP1 FU (0 : Int32) (0 : Int32) σ hl1 _ _ hP hD hS ls hl
def bX4_tryTicks_33  (x7 : Int32) (s8 : St) : Option ((Int32 × St) ⊕ (Int32 × St)) := if (8 : Int32) ≤ x7 then (some (.inr (x7, s8))) else (bnd (fX4_of x7 (0 : Int32) s8) fun r9 => if (r9 : Int32) ≤ (0 : Int32) then (bnd (fX4_more x7 (3 : Int32) (0 : Int32) s8) fun s11 => nm (x7 + (1 : Int32)) fun v12 => some (.inl (v12, s11))) else (bnd (fX4_more x7 (3 : Int32) (1 : Int32) s8) fun s14 => nm (x7 + (1 : Int32)) fun v15 => some (.inl (v15, s14))))
def bX4_tryTicks_24 (a1 : Int32) (x5 : Int32) (x4 : Int32) (s6 : St) : Option ((Int32 × Int32 × St) ⊕ (Int32 × Int32 × St)) := if a1 ≤ x4 then (some (.inr (x5, x4, s6))) else (bnd (lp (fun t : (Int32 × St) => bX4_tryTicks_33  t.1 t.2) FU ((0 : Int32), s6)) (fun e : (Int32 × St) => nm e.1 fun x16 => nm e.2 fun s17 => bn2 (fX4_sendAway  s17) fun r18 s19 => nm (x5 + r18) fun v20 => bnd (fX4_goThrough  s19) fun s22 => ax (0 : Int32) 2488 (ax (0 : Int32) 2488 (nm (put s22 0 (upd (s22 0) ((0 : Int32) : Int32).toNatClampNeg ((s22 0 ((0 : Int32) : Int32).toNatClampNeg) + (1 : Int32)))) fun s23 => nm (x4 + (1 : Int32)) fun v24 => some (.inl (v20, v24, s23))))))
def fX4_tryTicks (a1 : Int32) (a2 : Int32) (σ : St) : Option (Int32 × St) := bnd (fX4_in a1 (1 : Int32) (300 : Int32)) fun r1 => if (r1 : Int32) = (0 : Int32) then (some ((-2 : Int32), σ)) else (bnd (fX4_keepIf a2 σ) fun s3 => bnd (lp (fun t : (Int32 × Int32 × St) => bX4_tryTicks_24 a1 t.1 t.2.1 t.2.2) FU ((0 : Int32), (0 : Int32), s3)) (fun e : (Int32 × Int32 × St) => nm e.1 fun x25 => nm e.2.1 fun x26 => nm e.2.2 fun s27 => some (x25, s27)))
abbrev rmX4_tryTicks : Room := { frames := 7, cells := 0, slots := 0, locals := 167 }
set_option maxHeartbeats 4000000 in
set_option maxRecDepth 100000 in
theorem kX4_tryTicks (l : Launch) (dC : Nat → ClassId) (dI : Nat → Nat → Nat) (cA : Nat → ClassId) (h : Nat) (ad : Nat → Nat) (a1 : Int32) (a2 : Int32) (σ : St) (R0 : Int32) (σ' : St) (h0 : fX4_tryTicks a1 a2 σ = some (R0, σ')) : CI l yX4_tryTicks wsX4_tryTicks rmX4_tryTicks (dC, dI) vwCl (tysW cA) [.ref h, .int a1, .int a2] (wM cA h ad σ) R0 (wM cA h ad σ') := by
  refine CGI_of (cc := cX4_tryTicks) (nL := 6) (ret := (some .int)) (by decide) rfl (Nat.le_of_ble_eq_true rfl) ?_
  intro p e s m av below meth c A ls H locs hC hl
  obtain ⟨hC, hr, hlocks, hV, hN, hK, hP, hD, hS, hA⟩ := hC
  have hC : CallFix p m c cX4_tryTicks 6 s _ wsX4_tryTicks RX4 := hC
  obtain ⟨hx, hb, hml, hown, hts⟩ := id hC
  have hin0 : ∀ w ∈ u_ws RX4 TX4 16, w ∈ wsX4_tryTicks := fun _ h => (List.mem_cons_of_mem _ (List.mem_append_right _ h))
  have hl : lv_has ls 6 [(0, .ref h), (1, .int a1), (2, .int a2)] := hl
  unfold fX4_tryTicks at h0
  refine lv_iload_n hx hb dX4_tryTicks_0 rfl (lv_at hl 1 rfl) ?_
  refine lv_iconst (v := (1 : Int32)) hx hb dX4_tryTicks_1 (by decide) ?_
  refine lv_sipush (v := (300 : Int32)) hx hb dX4_tryTicks_2 (by decide) ?_
  obtain ⟨r1, hf1, h0⟩ := bnd_some h0
  refine x_SI (As := [.int a1, .int (1 : Int32), .int (300 : Int32)]) (rest := []) hC (kX4_in l dC dI cA a1 (1 : Int32) (300 : Int32) r1 hf1) (cwS 3 hts gX4_tryTicks_X4_in rfl rfl rfl (by decide +kernel) ⟨Nat.le_of_ble_eq_true rfl, Nat.le_of_ble_eq_true rfl⟩) hV hN hK hP hD hS hA rfl hl.1 rfl (Nat.le_of_ble_eq_true rfl) ⟨Nat.zero_le _, Nat.zero_le _⟩ dX4_tryTicks_5 (fun H locs hP hD hS => ?_)
  refine lv_if_ne (tgt := 14) hx hb dX4_tryTicks_8 (by decide) (fun hc => ?_) (fun hc => ?_)
  · have h0 := it_f h0 hc
    refine lv_aload_n hx hb dX4_tryTicks_14 rfl (lv_at hl 0 rfl) ?_
    refine lv_iload_n hx hb dX4_tryTicks_15 rfl (lv_at hl 2 rfl) ?_
    obtain ⟨s3, hf2, h0⟩ := bnd_some h0
    refine x_VV (As := [.int a2]) (rest := []) hC (kX4_keepIf l dC dI cA h ad a2 σ s3 hf2) (cwV 1 hts gX4_tryTicks_X4_keepIf rfl rfl rfl (by decide +kernel) ⟨Nat.le_of_ble_eq_true rfl, Nat.le_of_ble_eq_true rfl⟩) 0 4 hV hN hK hP hD hS hA rfl rfl rfl rfl hl.1 rfl (Nat.le_of_ble_eq_true rfl) ⟨Nat.zero_le _, Nat.zero_le _⟩ dX4_tryTicks_16 (fun H locs hP hD hS => ?_)
    refine lv_iconst (v := (0 : Int32)) hx hb dX4_tryTicks_19 (by decide) ?_
    refine lv_istore_n (lv' := [(3, .int (0 : Int32)), (0, .ref h), (1, .int a1), (2, .int a2)]) hx hb dX4_tryTicks_20 rfl hl (by decide) rfl (fun ls hl => ?_)
    refine lv_iconst (v := (0 : Int32)) hx hb dX4_tryTicks_21 (by decide) ?_
    refine lv_istore (lv' := [(4, .int (0 : Int32)), (3, .int (0 : Int32)), (0, .ref h), (1, .int a1), (2, .int a2)]) hx hb dX4_tryTicks_22 hl (by decide) rfl (fun ls hl => ?_)
    obtain ⟨ε3, hl3, h0⟩ := bnd_some h0
    have KN3 : ∀ (x25 : Int32) (x26 : Int32) (s27 : St), ε3 = (x25, x26, s27) → ∀ (H : Heap) (locs : List Loc), va_P (dC, dI) vwCl (wM cA h ad s27) H → va_D A (wM cA h ad s27) → va_S A s.heap H locs → ∀ (ls : Array Slot), lv_has ls 6 [(4, .int x26), (3, .int x25), (0, .ref h), (1, .int a1), (2, .int a2)] → W p l e (headSpec wsX4_tryTicks rmX4_tryTicks).room s m av below meth c H locs 0 0 (MQ below (qI (dC, dI) A R0 (wM cA h ad σ')) av s 0 0 A) (F0 m 95 ls []) := by
      intro x25 x26 s27 hε H locs hP hD hS ls hl
      rw [hε] at h0
      have h0 := nm_at (z := x25) rfl h0
      have h0 := nm_at (z := x26) rfl h0
      have h0 := nm_at (z := s27) rfl h0
      refine lv_iload_n hx hb dX4_tryTicks_95 rfl (lv_at hl 1 rfl) ?_
      obtain ⟨e1, e2⟩ := Prod.mk.inj (Option.some.inj h0)
      exact x_retI hC hr hlocks rfl hP hD hS dX4_tryTicks_96 ⟨e1, by rw [← e2]⟩
    have LP3 : ∀ (n : Nat) (x5 : Int32) (x4 : Int32) (s6 : St), lp (fun t : (Int32 × Int32 × St) => bX4_tryTicks_24 a1 t.1 t.2.1 t.2.2) n (x5, x4, s6) = some ε3 → ∀ (H : Heap) (locs : List Loc), va_P (dC, dI) vwCl (wM cA h ad s6) H → va_D A (wM cA h ad s6) → va_S A s.heap H locs → ∀ (ls : Array Slot), lv_has ls 6 [(4, .int x4), (3, .int x5), (0, .ref h), (1, .int a1), (2, .int a2)] → W p l e (headSpec wsX4_tryTicks rmX4_tryTicks).room s m av below meth c H locs 0 0 (MQ below (qI (dC, dI) A R0 (wM cA h ad σ')) av s 0 0 A) (F0 m 24 ls []) := by
      intro n
      induction n with
      | zero => intro x5 x4 s6 hl0; exact (lp_0 hl0).elim
      | succ n ih3 =>
        intro x5 x4 s6 hl0 H locs hP hD hS ls hl
        obtain ⟨z3, h1, hz3⟩ := lp_s hl0
        have h1 : bX4_tryTicks_24 a1 x5 x4 s6 = some z3 := h1
        unfold bX4_tryTicks_24 at h1
        refine lv_iload hx hb dX4_tryTicks_24 (lv_at hl 0 rfl) ?_
        refine lv_iload_n hx hb dX4_tryTicks_26 rfl (lv_at hl 3 rfl) ?_
        refine lv_icmp_ge (tgt := 95) hx hb dX4_tryTicks_27 (by decide) (fun hc => ?_) (fun hc => ?_)
        · have h1 := it_t h1 hc
          have he := lp_r h1 hz3
          exact KN3 x5 x4 s6 he _ _ hP hD hS ls (lv_sub hl [0, 1, 2, 3, 4] rfl)
        · have h1 := it_f h1 hc
          refine lv_iconst (v := (0 : Int32)) hx hb dX4_tryTicks_30 (by decide) ?_
          refine lv_istore (lv' := [(5, .int (0 : Int32)), (4, .int x4), (3, .int x5), (0, .ref h), (1, .int a1), (2, .int a2)]) hx hb dX4_tryTicks_31 hl (by decide) rfl (fun ls hl => ?_)
          obtain ⟨ε4, hl4, h1⟩ := bnd_some h1
          have KN4 : ∀ (x16 : Int32) (s17 : St), ε4 = (x16, s17) → ∀ (H : Heap) (locs : List Loc), va_P (dC, dI) vwCl (wM cA h ad s17) H → va_D A (wM cA h ad s17) → va_S A s.heap H locs → ∀ (ls : Array Slot), lv_has ls 6 [(5, .int x16), (4, .int x4), (3, .int x5), (0, .ref h), (1, .int a1), (2, .int a2)] → W p l e (headSpec wsX4_tryTicks rmX4_tryTicks).room s m av below meth c H locs 0 0 (MQ below (qI (dC, dI) A R0 (wM cA h ad σ')) av s 0 0 A) (F0 m 68 ls []) := by
            intro x16 s17 hε H locs hP hD hS ls hl
            rw [hε] at h1
            have h1 := nm_at (z := x16) rfl h1
            have h1 := nm_at (z := s17) rfl h1
            refine lv_iload_n hx hb dX4_tryTicks_68 rfl (lv_at hl 2 rfl) ?_
            refine lv_aload_n hx hb dX4_tryTicks_69 rfl (lv_at hl 3 rfl) ?_
            obtain ⟨r18, s19, hf8, h1⟩ := bn2_some h1
            refine x_VI (As := []) (rest := [.int x5]) hC (kX4_sendAway l dC dI cA h ad s17 r18 s19 hf8) (cwV 0 hts gX4_tryTicks_X4_sendAway rfl rfl rfl (by decide +kernel) ⟨Nat.le_of_ble_eq_true rfl, Nat.le_of_ble_eq_true rfl⟩) 0 4 hV hN hK hP hD hS hA rfl rfl rfl rfl hl.1 rfl (Nat.le_of_ble_eq_true rfl) ⟨Nat.zero_le _, Nat.zero_le _⟩ dX4_tryTicks_70 (fun H locs hP hD hS => ?_)
            refine lv_iadd hx hb dX4_tryTicks_73 ?_
            refine lv_topi (fun v20 ev20 => ?_)
            have h1 := nm_at ev20 h1
            refine lv_istore_n (lv' := [(3, .int v20), (5, .int x16), (4, .int x4), (0, .ref h), (1, .int a1), (2, .int a2)]) hx hb dX4_tryTicks_74 rfl hl (by decide) rfl (fun ls hl => ?_)
            refine lv_aload_n hx hb dX4_tryTicks_75 rfl (lv_at hl 3 rfl) ?_
            obtain ⟨s22, hf9, h1⟩ := bnd_some h1
            refine x_VV (As := []) (rest := []) hC (kX4_goThrough l dC dI cA h ad s19 s22 hf9) (cwV 0 hts gX4_tryTicks_X4_goThrough rfl rfl rfl (by decide +kernel) ⟨Nat.le_of_ble_eq_true rfl, Nat.le_of_ble_eq_true rfl⟩) 0 4 hV hN hK hP hD hS hA rfl rfl rfl rfl hl.1 rfl (Nat.le_of_ble_eq_true rfl) ⟨Nat.zero_le _, Nat.zero_le _⟩ dX4_tryTicks_76 (fun H locs hP hD hS => ?_)
            refine lv_aload_n hx hb dX4_tryTicks_79 rfl (lv_at hl 3 rfl) ?_
            refine va_get (D := (dC, dI)) (ci := 4) (v := .ref (ad 0)) (C := RX4) (T := TX4) (N := 16) hx hb hts hin0 hown hK hP 0 rfl rfl 0 (by decide) (hts (.fieldLink RX4 7 "MeanLocksModel" "at" "[I") (List.mem_of_getElem? (i := 1) rfl)) (fun _ h9 => h9) rfl dX4_tryTicks_80 ?_
            refine lv_iconst (v := (0 : Int32)) hx hb dX4_tryTicks_83 (by decide) ?_
            refine lv_dup2_11 hx hb dX4_tryTicks_84 rfl rfl ?_
            obtain ⟨hi, h1⟩ := ax_some h1
            refine va_iald hx hb hK hP 1 0 rfl rfl hi dX4_tryTicks_85 ?_
            refine lv_iconst (v := (1 : Int32)) hx hb dX4_tryTicks_86 (by decide) ?_
            refine lv_iadd hx hb dX4_tryTicks_87 ?_
            obtain ⟨hi, h1⟩ := ax_some h1
            obtain ⟨s23, es23, h1⟩ := nm_some h1
            refine x_iast (ws' := wM cA h ad s23) hC hK hP hD hS 1 0 rfl rfl (by rw [es23]; exact wM_s0 _ _ _ _ _) hi dX4_tryTicks_88 (fun H locs hP hD hS => ?_)
            obtain ⟨v24, ev24, h1⟩ := nm_some h1
            refine lv_iinc (v := v24) (lv' := [(4, .int v24), (3, .int v20), (5, .int x16), (0, .ref h), (1, .int a1), (2, .int a2)]) hx hb dX4_tryTicks_89 hl (k := 2) rfl (by rw [ev24]; rfl) (by decide) rfl (fun ls hl => ?_)
            refine lv_goto (tgt := 24) hx hb dX4_tryTicks_92 (by decide) ?_
            have hc := lp_l h1 hz3
            exact ih3 v20 v24 s23 hc _ _ hP hD hS ls (lv_sub hl [0, 1, 3, 4, 5] rfl)
          have LP4 : ∀ (n : Nat) (x7 : Int32) (s8 : St), lp (fun t : (Int32 × St) => bX4_tryTicks_33  t.1 t.2) n (x7, s8) = some ε4 → ∀ (H : Heap) (locs : List Loc), va_P (dC, dI) vwCl (wM cA h ad s8) H → va_D A (wM cA h ad s8) → va_S A s.heap H locs → ∀ (ls : Array Slot), lv_has ls 6 [(5, .int x7), (4, .int x4), (3, .int x5), (0, .ref h), (1, .int a1), (2, .int a2)] → W p l e (headSpec wsX4_tryTicks rmX4_tryTicks).room s m av below meth c H locs 0 0 (MQ below (qI (dC, dI) A R0 (wM cA h ad σ')) av s 0 0 A) (F0 m 33 ls []) := by
            intro n
            induction n with
            | zero => intro x7 s8 hl0; exact (lp_0 hl0).elim
            | succ n ih4 =>
              intro x7 s8 hl0 H locs hP hD hS ls hl
              obtain ⟨z4, h2, hz4⟩ := lp_s hl0
              have h2 : bX4_tryTicks_33  x7 s8 = some z4 := h2
              unfold bX4_tryTicks_33 at h2
              refine lv_iload hx hb dX4_tryTicks_33 (lv_at hl 0 rfl) ?_
              refine lv_bipush (v := (8 : Int32)) hx hb dX4_tryTicks_35 (by decide) ?_
              refine lv_icmp_ge (tgt := 68) hx hb dX4_tryTicks_37 (by decide) (fun hc => ?_) (fun hc => ?_)
              · have h2 := it_t h2 hc
                have he := lp_r h2 hz4
                exact KN4 x7 s8 he _ _ hP hD hS ls (lv_sub hl [0, 1, 2, 3, 4, 5] rfl)
              · have h2 := it_f h2 hc
                refine lv_aload_n hx hb dX4_tryTicks_40 rfl (lv_at hl 3 rfl) ?_
                refine lv_iload hx hb dX4_tryTicks_41 (lv_at hl 0 rfl) ?_
                refine lv_iconst (v := (3 : Int32)) hx hb dX4_tryTicks_43 (by decide) ?_
                refine lv_aload_n hx hb dX4_tryTicks_44 rfl (lv_at hl 3 rfl) ?_
                refine lv_iload hx hb dX4_tryTicks_45 (lv_at hl 0 rfl) ?_
                refine lv_iconst (v := (0 : Int32)) hx hb dX4_tryTicks_47 (by decide) ?_
                obtain ⟨r9, hf5, h2⟩ := bnd_some h2
                refine x_VI (As := [.int x7, .int (0 : Int32)]) (rest := [.int (3 : Int32), .int x7, .ref h]) hC (kX4_of l dC dI cA h ad x7 (0 : Int32) s8 r9  hf5) (cwV 2 hts gX4_tryTicks_X4_of rfl rfl rfl (by decide +kernel) ⟨Nat.le_of_ble_eq_true rfl, Nat.le_of_ble_eq_true rfl⟩) 0 4 hV hN hK hP hD hS hA rfl rfl rfl rfl hl.1 rfl (Nat.le_of_ble_eq_true rfl) ⟨Nat.zero_le _, Nat.zero_le _⟩ dX4_tryTicks_48 (fun H locs hP hD hS => ?_)
                refine lv_if_le (tgt := 58) hx hb dX4_tryTicks_51 (by decide) (fun hc => ?_) (fun hc => ?_)
                · have h2 := it_t h2 hc
                  refine lv_iconst (v := (0 : Int32)) hx hb dX4_tryTicks_58 (by decide) ?_
                  obtain ⟨s11, hf6, h2⟩ := bnd_some h2
                  refine x_VV (As := [.int x7, .int (3 : Int32), .int (0 : Int32)]) (rest := []) hC (kX4_more l dC dI cA h ad x7 (3 : Int32) (0 : Int32) s8 s11 hf6) (cwV 3 hts gX4_tryTicks_X4_more rfl rfl rfl (by decide +kernel) ⟨Nat.le_of_ble_eq_true rfl, Nat.le_of_ble_eq_true rfl⟩) 0 4 hV hN hK hP hD hS hA rfl rfl rfl rfl hl.1 rfl (Nat.le_of_ble_eq_true rfl) ⟨Nat.zero_le _, Nat.zero_le _⟩ dX4_tryTicks_59 (fun H locs hP hD hS => ?_)
                  obtain ⟨v12, ev12, h2⟩ := nm_some h2
                  refine lv_iinc (v := v12) (lv' := [(5, .int v12), (4, .int x4), (3, .int x5), (0, .ref h), (1, .int a1), (2, .int a2)]) hx hb dX4_tryTicks_62 hl (k := 0) rfl (by rw [ev12]; rfl) (by decide) rfl (fun ls hl => ?_)
                  refine lv_goto (tgt := 33) hx hb dX4_tryTicks_65 (by decide) ?_
                  have hc := lp_l h2 hz4
                  exact ih4 v12 s11 hc _ _ hP hD hS ls (lv_sub hl [0, 1, 2, 3, 4, 5] rfl)
                · have h2 := it_f h2 hc
                  refine lv_iconst (v := (1 : Int32)) hx hb dX4_tryTicks_54 (by decide) ?_
                  refine lv_goto (tgt := 59) hx hb dX4_tryTicks_55 (by decide) ?_
                  obtain ⟨s14, hf7, h2⟩ := bnd_some h2
                  refine x_VV (As := [.int x7, .int (3 : Int32), .int (1 : Int32)]) (rest := []) hC (kX4_more l dC dI cA h ad x7 (3 : Int32) (1 : Int32) s8 s14 hf7) (cwV 3 hts gX4_tryTicks_X4_more rfl rfl rfl (by decide +kernel) ⟨Nat.le_of_ble_eq_true rfl, Nat.le_of_ble_eq_true rfl⟩) 0 4 hV hN hK hP hD hS hA rfl rfl rfl rfl hl.1 rfl (Nat.le_of_ble_eq_true rfl) ⟨Nat.zero_le _, Nat.zero_le _⟩ dX4_tryTicks_59 (fun H locs hP hD hS => ?_)
                  obtain ⟨v15, ev15, h2⟩ := nm_some h2
                  refine lv_iinc (v := v15) (lv' := [(5, .int v15), (4, .int x4), (3, .int x5), (0, .ref h), (1, .int a1), (2, .int a2)]) hx hb dX4_tryTicks_62 hl (k := 0) rfl (by rw [ev15]; rfl) (by decide) rfl (fun ls hl => ?_)
                  refine lv_goto (tgt := 33) hx hb dX4_tryTicks_65 (by decide) ?_
                  have hc := lp_l h2 hz4
                  exact ih4 v15 s14 hc _ _ hP hD hS ls (lv_sub hl [0, 1, 2, 3, 4, 5] rfl)
          exact LP4 FU (0 : Int32) s6 hl4 _ _ hP hD hS ls hl
    exact LP3 FU (0 : Int32) (0 : Int32) s3 hl3 _ _ hP hD hS ls hl
  · have h0 := it_t h0 hc
    refine lv_bipush (v := (-2 : Int32)) hx hb dX4_tryTicks_11 (by decide) ?_
    obtain ⟨e1, e2⟩ := Prod.mk.inj (Option.some.inj h0)
    exact x_retI hC hr hlocks rfl hP hD hS dX4_tryTicks_13 ⟨e1, by rw [← e2]⟩
def fX4_carry (a1 : Int32) (σ : St) : Option (Int32 × St) := nm ((4 : Int32) * a1) fun v1 => ax a1 29 (if ((σ 14 (a1 : Int32).toNatClampNeg) : Int32) = (99 : Int32) then (ax v1 116 (bn2 (fX4_tryCancel (σ 15 (v1 : Int32).toNatClampNeg) (0 : Int32) σ) fun r2 s3 => some (r2, s3))) else (if ((σ 14 (a1 : Int32).toNatClampNeg) : Int32) = (102 : Int32) then (ax v1 116 (ax (v1 + (1 : Int32)) 116 (ax (v1 + (2 : Int32)) 116 (bn2 (fX4_tryFree (σ 15 (v1 : Int32).toNatClampNeg) (σ 15 (v1 + (1 : Int32) : Int32).toNatClampNeg) (σ 15 (v1 + (2 : Int32) : Int32).toNatClampNeg) (0 : Int32) σ) fun r4 s5 => some (r4, s5))))) else (if ((σ 14 (a1 : Int32).toNatClampNeg) : Int32) = (109 : Int32) then (ax v1 116 (ax (v1 + (1 : Int32)) 116 (ax (v1 + (2 : Int32)) 116 (ax (v1 + (3 : Int32)) 116 (bn2 (fX4_tryRequest (σ 15 (v1 : Int32).toNatClampNeg) (2 : Int32) (σ 15 (v1 + (1 : Int32) : Int32).toNatClampNeg) (σ 15 (v1 + (2 : Int32) : Int32).toNatClampNeg) (σ 15 (v1 + (3 : Int32) : Int32).toNatClampNeg) (0 : Int32) σ) fun r6 s7 => some (r6, s7)))))) else (if ((σ 14 (a1 : Int32).toNatClampNeg) : Int32) = (114 : Int32) then (ax v1 116 (ax (v1 + (1 : Int32)) 116 (ax (v1 + (2 : Int32)) 116 (ax (v1 + (3 : Int32)) 116 (bn2 (fX4_tryRequest (σ 15 (v1 : Int32).toNatClampNeg) (1 : Int32) (σ 15 (v1 + (1 : Int32) : Int32).toNatClampNeg) (σ 15 (v1 + (2 : Int32) : Int32).toNatClampNeg) (σ 15 (v1 + (3 : Int32) : Int32).toNatClampNeg) (0 : Int32) σ) fun r8 s9 => some (r8, s9)))))) else (if ((σ 14 (a1 : Int32).toNatClampNeg) : Int32) = (119 : Int32) then (ax v1 116 (ax (v1 + (1 : Int32)) 116 (ax (v1 + (2 : Int32)) 116 (ax (v1 + (3 : Int32)) 116 (bn2 (fX4_tryRequest (σ 15 (v1 : Int32).toNatClampNeg) (3 : Int32) (σ 15 (v1 + (1 : Int32) : Int32).toNatClampNeg) (σ 15 (v1 + (2 : Int32) : Int32).toNatClampNeg) (σ 15 (v1 + (3 : Int32) : Int32).toNatClampNeg) (0 : Int32) σ) fun r10 s11 => some (r10, s11)))))) else (if ((σ 14 (a1 : Int32).toNatClampNeg) : Int32) = (120 : Int32) then (ax v1 116 (bn2 (fX4_tryLeave (σ 15 (v1 : Int32).toNatClampNeg) (0 : Int32) σ) fun r12 s13 => some (r12, s13))) else (ax v1 116 (bn2 (fX4_tryTicks (σ 15 (v1 : Int32).toNatClampNeg) (0 : Int32) σ) fun r14 s15 => some (r14, s15)))))))))
abbrev rmX4_carry : Room := { frames := 9, cells := 0, slots := 0, locals := 223 }
set_option maxHeartbeats 4000000 in
set_option maxRecDepth 100000 in
theorem kX4_carry (l : Launch) (dC : Nat → ClassId) (dI : Nat → Nat → Nat) (cA : Nat → ClassId) (h : Nat) (ad : Nat → Nat) (a1 : Int32) (σ : St) (R0 : Int32) (σ' : St) (h0 : fX4_carry a1 σ = some (R0, σ')) : CI l yX4_carry wsX4_carry rmX4_carry (dC, dI) vwCl (tysW cA) [.ref h, .int a1] (wM cA h ad σ) R0 (wM cA h ad σ') := by
  refine CGI_of (cc := cX4_carry) (nL := 3) (ret := (some .int)) (by decide) rfl (Nat.le_of_ble_eq_true rfl) ?_
  intro p e s m av below meth c A ls H locs hC hl
  obtain ⟨hC, hr, hlocks, hV, hN, hK, hP, hD, hS, hA⟩ := hC
  have hC : CallFix p m c cX4_carry 3 s _ wsX4_carry RX4 := hC
  obtain ⟨hx, hb, hml, hown, hts⟩ := id hC
  have hin0 : ∀ w ∈ u_ws RX4 TX4 16, w ∈ wsX4_carry := fun _ h => (List.mem_cons_of_mem _ (List.mem_append_right _ h))
  have hl : lv_has ls 3 [(0, .ref h), (1, .int a1)] := hl
  unfold fX4_carry at h0
  refine lv_iconst (v := (4 : Int32)) hx hb dX4_carry_0 (by decide) ?_
  refine lv_iload_n hx hb dX4_carry_1 rfl (lv_at hl 1 rfl) ?_
  refine lv_imul hx hb dX4_carry_2 ?_
  refine lv_topi (fun v1 ev1 => ?_)
  have h0 := nm_at ev1 h0
  refine lv_istore_n (lv' := [(2, .int v1), (0, .ref h), (1, .int a1)]) hx hb dX4_carry_3 rfl hl (by decide) rfl (fun ls hl => ?_)
  refine lv_aload_n hx hb dX4_carry_4 rfl (lv_at hl 1 rfl) ?_
  refine va_get (D := (dC, dI)) (ci := 4) (v := .ref (ad 14)) (C := RX4) (T := TX4) (N := 16) hx hb hts hin0 hown hK hP 0 rfl rfl 14 (by decide) (hts (.fieldLink RX4 35 "MeanLocksModel" "sort" "[I") (List.mem_of_getElem? (i := 1) rfl)) (fun _ h9 => h9) rfl dX4_carry_5 ?_
  refine lv_iload_n hx hb dX4_carry_8 rfl (lv_at hl 2 rfl) ?_
  obtain ⟨hi, h0⟩ := ax_some h0
  refine va_iald hx hb hK hP 9 0 rfl rfl hi dX4_carry_9 ?_
  by_cases hq99 : ((σ 14 (a1 : Int32).toNatClampNeg) : Int32) = (99 : Int32)
  · have h0 := it_t h0 hq99
    refine lv_lookup (tgt := 207) hx hb dX4_carry_10 (by decide) (off := 197) (by rw [hq99]; rfl) (by decide) ?_
    refine lv_aload_n hx hb dX4_carry_207 rfl (lv_at hl 1 rfl) ?_
    refine lv_aload_n hx hb dX4_carry_208 rfl (lv_at hl 1 rfl) ?_
    refine va_get (D := (dC, dI)) (ci := 4) (v := .ref (ad 15)) (C := RX4) (T := TX4) (N := 16) hx hb hts hin0 hown hK hP 0 rfl rfl 15 (by decide) (hts (.fieldLink RX4 38 "MeanLocksModel" "numbers" "[I") (List.mem_of_getElem? (i := 2) rfl)) (fun _ h9 => h9) rfl dX4_carry_209 ?_
    refine lv_iload_n hx hb dX4_carry_212 rfl (lv_at hl 0 rfl) ?_
    obtain ⟨hi, h0⟩ := ax_some h0
    refine va_iald hx hb hK hP 10 0 rfl rfl hi dX4_carry_213 ?_
    refine lv_iconst (v := (0 : Int32)) hx hb dX4_carry_214 (by decide) ?_
    obtain ⟨r2, s3, hf1, h0⟩ := bn2_some h0
    refine x_VI (As := [.int (σ 15 (v1 : Int32).toNatClampNeg), .int (0 : Int32)]) (rest := []) hC (kX4_tryCancel l dC dI cA h ad (σ 15 (v1 : Int32).toNatClampNeg) (0 : Int32) σ r2 s3 hf1) (cwV 2 hts gX4_carry_X4_tryCancel rfl rfl rfl (by decide +kernel) ⟨Nat.le_of_ble_eq_true rfl, Nat.le_of_ble_eq_true rfl⟩) 0 4 hV hN hK hP hD hS hA rfl rfl rfl rfl hl.1 rfl (Nat.le_of_ble_eq_true rfl) ⟨Nat.zero_le _, Nat.zero_le _⟩ dX4_carry_215 (fun H locs hP hD hS => ?_)
    obtain ⟨e1, e2⟩ := Prod.mk.inj (Option.some.inj h0)
    exact x_retI hC hr hlocks rfl hP hD hS dX4_carry_218 ⟨e1, by rw [← e2]⟩
  have h0 := it_f h0 hq99
  by_cases hq102 : ((σ 14 (a1 : Int32).toNatClampNeg) : Int32) = (102 : Int32)
  · have h0 := it_t h0 hq102
    refine lv_lookup (tgt := 179) hx hb dX4_carry_10 (by decide) (off := 169) (by rw [hq102]; rfl) (by decide) ?_
    refine lv_aload_n hx hb dX4_carry_179 rfl (lv_at hl 1 rfl) ?_
    refine lv_aload_n hx hb dX4_carry_180 rfl (lv_at hl 1 rfl) ?_
    refine va_get (D := (dC, dI)) (ci := 4) (v := .ref (ad 15)) (C := RX4) (T := TX4) (N := 16) hx hb hts hin0 hown hK hP 0 rfl rfl 15 (by decide) (hts (.fieldLink RX4 38 "MeanLocksModel" "numbers" "[I") (List.mem_of_getElem? (i := 2) rfl)) (fun _ h9 => h9) rfl dX4_carry_181 ?_
    refine lv_iload_n hx hb dX4_carry_184 rfl (lv_at hl 0 rfl) ?_
    obtain ⟨hi, h0⟩ := ax_some h0
    refine va_iald hx hb hK hP 10 0 rfl rfl hi dX4_carry_185 ?_
    refine lv_aload_n hx hb dX4_carry_186 rfl (lv_at hl 1 rfl) ?_
    refine va_get (D := (dC, dI)) (ci := 4) (v := .ref (ad 15)) (C := RX4) (T := TX4) (N := 16) hx hb hts hin0 hown hK hP 0 rfl rfl 15 (by decide) (hts (.fieldLink RX4 38 "MeanLocksModel" "numbers" "[I") (List.mem_of_getElem? (i := 2) rfl)) (fun _ h9 => h9) rfl dX4_carry_187 ?_
    refine lv_iload_n hx hb dX4_carry_190 rfl (lv_at hl 0 rfl) ?_
    refine lv_iconst (v := (1 : Int32)) hx hb dX4_carry_191 (by decide) ?_
    refine lv_iadd hx hb dX4_carry_192 ?_
    obtain ⟨hi, h0⟩ := ax_some h0
    refine va_iald hx hb hK hP 10 0 rfl rfl hi dX4_carry_193 ?_
    refine lv_aload_n hx hb dX4_carry_194 rfl (lv_at hl 1 rfl) ?_
    refine va_get (D := (dC, dI)) (ci := 4) (v := .ref (ad 15)) (C := RX4) (T := TX4) (N := 16) hx hb hts hin0 hown hK hP 0 rfl rfl 15 (by decide) (hts (.fieldLink RX4 38 "MeanLocksModel" "numbers" "[I") (List.mem_of_getElem? (i := 2) rfl)) (fun _ h9 => h9) rfl dX4_carry_195 ?_
    refine lv_iload_n hx hb dX4_carry_198 rfl (lv_at hl 0 rfl) ?_
    refine lv_iconst (v := (2 : Int32)) hx hb dX4_carry_199 (by decide) ?_
    refine lv_iadd hx hb dX4_carry_200 ?_
    obtain ⟨hi, h0⟩ := ax_some h0
    refine va_iald hx hb hK hP 10 0 rfl rfl hi dX4_carry_201 ?_
    refine lv_iconst (v := (0 : Int32)) hx hb dX4_carry_202 (by decide) ?_
    obtain ⟨r4, s5, hf2, h0⟩ := bn2_some h0
    refine x_VI (As := [.int (σ 15 (v1 : Int32).toNatClampNeg), .int (σ 15 (v1 + (1 : Int32) : Int32).toNatClampNeg), .int (σ 15 (v1 + (2 : Int32) : Int32).toNatClampNeg), .int (0 : Int32)]) (rest := []) hC (kX4_tryFree l dC dI cA h ad (σ 15 (v1 : Int32).toNatClampNeg) (σ 15 (v1 + (1 : Int32) : Int32).toNatClampNeg) (σ 15 (v1 + (2 : Int32) : Int32).toNatClampNeg) (0 : Int32) σ r4 s5 hf2) (cwV 4 hts gX4_carry_X4_tryFree rfl rfl rfl (by decide +kernel) ⟨Nat.le_of_ble_eq_true rfl, Nat.le_of_ble_eq_true rfl⟩) 0 4 hV hN hK hP hD hS hA rfl rfl rfl rfl hl.1 rfl (Nat.le_of_ble_eq_true rfl) ⟨Nat.zero_le _, Nat.zero_le _⟩ dX4_carry_203 (fun H locs hP hD hS => ?_)
    obtain ⟨e1, e2⟩ := Prod.mk.inj (Option.some.inj h0)
    exact x_retI hC hr hlocks rfl hP hD hS dX4_carry_206 ⟨e1, by rw [← e2]⟩
  have h0 := it_f h0 hq102
  by_cases hq109 : ((σ 14 (a1 : Int32).toNatClampNeg) : Int32) = (109 : Int32)
  · have h0 := it_t h0 hq109
    refine lv_lookup (tgt := 105) hx hb dX4_carry_10 (by decide) (off := 95) (by rw [hq109]; rfl) (by decide) ?_
    refine lv_aload_n hx hb dX4_carry_105 rfl (lv_at hl 1 rfl) ?_
    refine lv_aload_n hx hb dX4_carry_106 rfl (lv_at hl 1 rfl) ?_
    refine va_get (D := (dC, dI)) (ci := 4) (v := .ref (ad 15)) (C := RX4) (T := TX4) (N := 16) hx hb hts hin0 hown hK hP 0 rfl rfl 15 (by decide) (hts (.fieldLink RX4 38 "MeanLocksModel" "numbers" "[I") (List.mem_of_getElem? (i := 2) rfl)) (fun _ h9 => h9) rfl dX4_carry_107 ?_
    refine lv_iload_n hx hb dX4_carry_110 rfl (lv_at hl 0 rfl) ?_
    obtain ⟨hi, h0⟩ := ax_some h0
    refine va_iald hx hb hK hP 10 0 rfl rfl hi dX4_carry_111 ?_
    refine lv_iconst (v := (2 : Int32)) hx hb dX4_carry_112 (by decide) ?_
    refine lv_aload_n hx hb dX4_carry_113 rfl (lv_at hl 1 rfl) ?_
    refine va_get (D := (dC, dI)) (ci := 4) (v := .ref (ad 15)) (C := RX4) (T := TX4) (N := 16) hx hb hts hin0 hown hK hP 0 rfl rfl 15 (by decide) (hts (.fieldLink RX4 38 "MeanLocksModel" "numbers" "[I") (List.mem_of_getElem? (i := 2) rfl)) (fun _ h9 => h9) rfl dX4_carry_114 ?_
    refine lv_iload_n hx hb dX4_carry_117 rfl (lv_at hl 0 rfl) ?_
    refine lv_iconst (v := (1 : Int32)) hx hb dX4_carry_118 (by decide) ?_
    refine lv_iadd hx hb dX4_carry_119 ?_
    obtain ⟨hi, h0⟩ := ax_some h0
    refine va_iald hx hb hK hP 10 0 rfl rfl hi dX4_carry_120 ?_
    refine lv_aload_n hx hb dX4_carry_121 rfl (lv_at hl 1 rfl) ?_
    refine va_get (D := (dC, dI)) (ci := 4) (v := .ref (ad 15)) (C := RX4) (T := TX4) (N := 16) hx hb hts hin0 hown hK hP 0 rfl rfl 15 (by decide) (hts (.fieldLink RX4 38 "MeanLocksModel" "numbers" "[I") (List.mem_of_getElem? (i := 2) rfl)) (fun _ h9 => h9) rfl dX4_carry_122 ?_
    refine lv_iload_n hx hb dX4_carry_125 rfl (lv_at hl 0 rfl) ?_
    refine lv_iconst (v := (2 : Int32)) hx hb dX4_carry_126 (by decide) ?_
    refine lv_iadd hx hb dX4_carry_127 ?_
    obtain ⟨hi, h0⟩ := ax_some h0
    refine va_iald hx hb hK hP 10 0 rfl rfl hi dX4_carry_128 ?_
    refine lv_aload_n hx hb dX4_carry_129 rfl (lv_at hl 1 rfl) ?_
    refine va_get (D := (dC, dI)) (ci := 4) (v := .ref (ad 15)) (C := RX4) (T := TX4) (N := 16) hx hb hts hin0 hown hK hP 0 rfl rfl 15 (by decide) (hts (.fieldLink RX4 38 "MeanLocksModel" "numbers" "[I") (List.mem_of_getElem? (i := 2) rfl)) (fun _ h9 => h9) rfl dX4_carry_130 ?_
    refine lv_iload_n hx hb dX4_carry_133 rfl (lv_at hl 0 rfl) ?_
    refine lv_iconst (v := (3 : Int32)) hx hb dX4_carry_134 (by decide) ?_
    refine lv_iadd hx hb dX4_carry_135 ?_
    obtain ⟨hi, h0⟩ := ax_some h0
    refine va_iald hx hb hK hP 10 0 rfl rfl hi dX4_carry_136 ?_
    refine lv_iconst (v := (0 : Int32)) hx hb dX4_carry_137 (by decide) ?_
    obtain ⟨r6, s7, hf3, h0⟩ := bn2_some h0
    refine x_VI (As := [.int (σ 15 (v1 : Int32).toNatClampNeg), .int (2 : Int32), .int (σ 15 (v1 + (1 : Int32) : Int32).toNatClampNeg), .int (σ 15 (v1 + (2 : Int32) : Int32).toNatClampNeg), .int (σ 15 (v1 + (3 : Int32) : Int32).toNatClampNeg), .int (0 : Int32)]) (rest := []) hC (kX4_tryRequest l dC dI cA h ad (σ 15 (v1 : Int32).toNatClampNeg) (2 : Int32) (σ 15 (v1 + (1 : Int32) : Int32).toNatClampNeg) (σ 15 (v1 + (2 : Int32) : Int32).toNatClampNeg) (σ 15 (v1 + (3 : Int32) : Int32).toNatClampNeg) (0 : Int32) σ r6 s7 hf3) (cwV 6 hts gX4_carry_X4_tryRequest rfl rfl rfl (by decide +kernel) ⟨Nat.le_of_ble_eq_true rfl, Nat.le_of_ble_eq_true rfl⟩) 0 4 hV hN hK hP hD hS hA rfl rfl rfl rfl hl.1 rfl (Nat.le_of_ble_eq_true rfl) ⟨Nat.zero_le _, Nat.zero_le _⟩ dX4_carry_138 (fun H locs hP hD hS => ?_)
    obtain ⟨e1, e2⟩ := Prod.mk.inj (Option.some.inj h0)
    exact x_retI hC hr hlocks rfl hP hD hS dX4_carry_141 ⟨e1, by rw [← e2]⟩
  have h0 := it_f h0 hq109
  by_cases hq114 : ((σ 14 (a1 : Int32).toNatClampNeg) : Int32) = (114 : Int32)
  · have h0 := it_t h0 hq114
    refine lv_lookup (tgt := 68) hx hb dX4_carry_10 (by decide) (off := 58) (by rw [hq114]; rfl) (by decide) ?_
    refine lv_aload_n hx hb dX4_carry_68 rfl (lv_at hl 1 rfl) ?_
    refine lv_aload_n hx hb dX4_carry_69 rfl (lv_at hl 1 rfl) ?_
    refine va_get (D := (dC, dI)) (ci := 4) (v := .ref (ad 15)) (C := RX4) (T := TX4) (N := 16) hx hb hts hin0 hown hK hP 0 rfl rfl 15 (by decide) (hts (.fieldLink RX4 38 "MeanLocksModel" "numbers" "[I") (List.mem_of_getElem? (i := 2) rfl)) (fun _ h9 => h9) rfl dX4_carry_70 ?_
    refine lv_iload_n hx hb dX4_carry_73 rfl (lv_at hl 0 rfl) ?_
    obtain ⟨hi, h0⟩ := ax_some h0
    refine va_iald hx hb hK hP 10 0 rfl rfl hi dX4_carry_74 ?_
    refine lv_iconst (v := (1 : Int32)) hx hb dX4_carry_75 (by decide) ?_
    refine lv_aload_n hx hb dX4_carry_76 rfl (lv_at hl 1 rfl) ?_
    refine va_get (D := (dC, dI)) (ci := 4) (v := .ref (ad 15)) (C := RX4) (T := TX4) (N := 16) hx hb hts hin0 hown hK hP 0 rfl rfl 15 (by decide) (hts (.fieldLink RX4 38 "MeanLocksModel" "numbers" "[I") (List.mem_of_getElem? (i := 2) rfl)) (fun _ h9 => h9) rfl dX4_carry_77 ?_
    refine lv_iload_n hx hb dX4_carry_80 rfl (lv_at hl 0 rfl) ?_
    refine lv_iconst (v := (1 : Int32)) hx hb dX4_carry_81 (by decide) ?_
    refine lv_iadd hx hb dX4_carry_82 ?_
    obtain ⟨hi, h0⟩ := ax_some h0
    refine va_iald hx hb hK hP 10 0 rfl rfl hi dX4_carry_83 ?_
    refine lv_aload_n hx hb dX4_carry_84 rfl (lv_at hl 1 rfl) ?_
    refine va_get (D := (dC, dI)) (ci := 4) (v := .ref (ad 15)) (C := RX4) (T := TX4) (N := 16) hx hb hts hin0 hown hK hP 0 rfl rfl 15 (by decide) (hts (.fieldLink RX4 38 "MeanLocksModel" "numbers" "[I") (List.mem_of_getElem? (i := 2) rfl)) (fun _ h9 => h9) rfl dX4_carry_85 ?_
    refine lv_iload_n hx hb dX4_carry_88 rfl (lv_at hl 0 rfl) ?_
    refine lv_iconst (v := (2 : Int32)) hx hb dX4_carry_89 (by decide) ?_
    refine lv_iadd hx hb dX4_carry_90 ?_
    obtain ⟨hi, h0⟩ := ax_some h0
    refine va_iald hx hb hK hP 10 0 rfl rfl hi dX4_carry_91 ?_
    refine lv_aload_n hx hb dX4_carry_92 rfl (lv_at hl 1 rfl) ?_
    refine va_get (D := (dC, dI)) (ci := 4) (v := .ref (ad 15)) (C := RX4) (T := TX4) (N := 16) hx hb hts hin0 hown hK hP 0 rfl rfl 15 (by decide) (hts (.fieldLink RX4 38 "MeanLocksModel" "numbers" "[I") (List.mem_of_getElem? (i := 2) rfl)) (fun _ h9 => h9) rfl dX4_carry_93 ?_
    refine lv_iload_n hx hb dX4_carry_96 rfl (lv_at hl 0 rfl) ?_
    refine lv_iconst (v := (3 : Int32)) hx hb dX4_carry_97 (by decide) ?_
    refine lv_iadd hx hb dX4_carry_98 ?_
    obtain ⟨hi, h0⟩ := ax_some h0
    refine va_iald hx hb hK hP 10 0 rfl rfl hi dX4_carry_99 ?_
    refine lv_iconst (v := (0 : Int32)) hx hb dX4_carry_100 (by decide) ?_
    obtain ⟨r8, s9, hf4, h0⟩ := bn2_some h0
    refine x_VI (As := [.int (σ 15 (v1 : Int32).toNatClampNeg), .int (1 : Int32), .int (σ 15 (v1 + (1 : Int32) : Int32).toNatClampNeg), .int (σ 15 (v1 + (2 : Int32) : Int32).toNatClampNeg), .int (σ 15 (v1 + (3 : Int32) : Int32).toNatClampNeg), .int (0 : Int32)]) (rest := []) hC (kX4_tryRequest l dC dI cA h ad (σ 15 (v1 : Int32).toNatClampNeg) (1 : Int32) (σ 15 (v1 + (1 : Int32) : Int32).toNatClampNeg) (σ 15 (v1 + (2 : Int32) : Int32).toNatClampNeg) (σ 15 (v1 + (3 : Int32) : Int32).toNatClampNeg) (0 : Int32) σ r8 s9 hf4) (cwV 6 hts gX4_carry_X4_tryRequest rfl rfl rfl (by decide +kernel) ⟨Nat.le_of_ble_eq_true rfl, Nat.le_of_ble_eq_true rfl⟩) 0 4 hV hN hK hP hD hS hA rfl rfl rfl rfl hl.1 rfl (Nat.le_of_ble_eq_true rfl) ⟨Nat.zero_le _, Nat.zero_le _⟩ dX4_carry_101 (fun H locs hP hD hS => ?_)
    obtain ⟨e1, e2⟩ := Prod.mk.inj (Option.some.inj h0)
    exact x_retI hC hr hlocks rfl hP hD hS dX4_carry_104 ⟨e1, by rw [← e2]⟩
  have h0 := it_f h0 hq114
  by_cases hq119 : ((σ 14 (a1 : Int32).toNatClampNeg) : Int32) = (119 : Int32)
  · have h0 := it_t h0 hq119
    refine lv_lookup (tgt := 142) hx hb dX4_carry_10 (by decide) (off := 132) (by rw [hq119]; rfl) (by decide) ?_
    refine lv_aload_n hx hb dX4_carry_142 rfl (lv_at hl 1 rfl) ?_
    refine lv_aload_n hx hb dX4_carry_143 rfl (lv_at hl 1 rfl) ?_
    refine va_get (D := (dC, dI)) (ci := 4) (v := .ref (ad 15)) (C := RX4) (T := TX4) (N := 16) hx hb hts hin0 hown hK hP 0 rfl rfl 15 (by decide) (hts (.fieldLink RX4 38 "MeanLocksModel" "numbers" "[I") (List.mem_of_getElem? (i := 2) rfl)) (fun _ h9 => h9) rfl dX4_carry_144 ?_
    refine lv_iload_n hx hb dX4_carry_147 rfl (lv_at hl 0 rfl) ?_
    obtain ⟨hi, h0⟩ := ax_some h0
    refine va_iald hx hb hK hP 10 0 rfl rfl hi dX4_carry_148 ?_
    refine lv_iconst (v := (3 : Int32)) hx hb dX4_carry_149 (by decide) ?_
    refine lv_aload_n hx hb dX4_carry_150 rfl (lv_at hl 1 rfl) ?_
    refine va_get (D := (dC, dI)) (ci := 4) (v := .ref (ad 15)) (C := RX4) (T := TX4) (N := 16) hx hb hts hin0 hown hK hP 0 rfl rfl 15 (by decide) (hts (.fieldLink RX4 38 "MeanLocksModel" "numbers" "[I") (List.mem_of_getElem? (i := 2) rfl)) (fun _ h9 => h9) rfl dX4_carry_151 ?_
    refine lv_iload_n hx hb dX4_carry_154 rfl (lv_at hl 0 rfl) ?_
    refine lv_iconst (v := (1 : Int32)) hx hb dX4_carry_155 (by decide) ?_
    refine lv_iadd hx hb dX4_carry_156 ?_
    obtain ⟨hi, h0⟩ := ax_some h0
    refine va_iald hx hb hK hP 10 0 rfl rfl hi dX4_carry_157 ?_
    refine lv_aload_n hx hb dX4_carry_158 rfl (lv_at hl 1 rfl) ?_
    refine va_get (D := (dC, dI)) (ci := 4) (v := .ref (ad 15)) (C := RX4) (T := TX4) (N := 16) hx hb hts hin0 hown hK hP 0 rfl rfl 15 (by decide) (hts (.fieldLink RX4 38 "MeanLocksModel" "numbers" "[I") (List.mem_of_getElem? (i := 2) rfl)) (fun _ h9 => h9) rfl dX4_carry_159 ?_
    refine lv_iload_n hx hb dX4_carry_162 rfl (lv_at hl 0 rfl) ?_
    refine lv_iconst (v := (2 : Int32)) hx hb dX4_carry_163 (by decide) ?_
    refine lv_iadd hx hb dX4_carry_164 ?_
    obtain ⟨hi, h0⟩ := ax_some h0
    refine va_iald hx hb hK hP 10 0 rfl rfl hi dX4_carry_165 ?_
    refine lv_aload_n hx hb dX4_carry_166 rfl (lv_at hl 1 rfl) ?_
    refine va_get (D := (dC, dI)) (ci := 4) (v := .ref (ad 15)) (C := RX4) (T := TX4) (N := 16) hx hb hts hin0 hown hK hP 0 rfl rfl 15 (by decide) (hts (.fieldLink RX4 38 "MeanLocksModel" "numbers" "[I") (List.mem_of_getElem? (i := 2) rfl)) (fun _ h9 => h9) rfl dX4_carry_167 ?_
    refine lv_iload_n hx hb dX4_carry_170 rfl (lv_at hl 0 rfl) ?_
    refine lv_iconst (v := (3 : Int32)) hx hb dX4_carry_171 (by decide) ?_
    refine lv_iadd hx hb dX4_carry_172 ?_
    obtain ⟨hi, h0⟩ := ax_some h0
    refine va_iald hx hb hK hP 10 0 rfl rfl hi dX4_carry_173 ?_
    refine lv_iconst (v := (0 : Int32)) hx hb dX4_carry_174 (by decide) ?_
    obtain ⟨r10, s11, hf5, h0⟩ := bn2_some h0
    refine x_VI (As := [.int (σ 15 (v1 : Int32).toNatClampNeg), .int (3 : Int32), .int (σ 15 (v1 + (1 : Int32) : Int32).toNatClampNeg), .int (σ 15 (v1 + (2 : Int32) : Int32).toNatClampNeg), .int (σ 15 (v1 + (3 : Int32) : Int32).toNatClampNeg), .int (0 : Int32)]) (rest := []) hC (kX4_tryRequest l dC dI cA h ad (σ 15 (v1 : Int32).toNatClampNeg) (3 : Int32) (σ 15 (v1 + (1 : Int32) : Int32).toNatClampNeg) (σ 15 (v1 + (2 : Int32) : Int32).toNatClampNeg) (σ 15 (v1 + (3 : Int32) : Int32).toNatClampNeg) (0 : Int32) σ r10 s11 hf5) (cwV 6 hts gX4_carry_X4_tryRequest rfl rfl rfl (by decide +kernel) ⟨Nat.le_of_ble_eq_true rfl, Nat.le_of_ble_eq_true rfl⟩) 0 4 hV hN hK hP hD hS hA rfl rfl rfl rfl hl.1 rfl (Nat.le_of_ble_eq_true rfl) ⟨Nat.zero_le _, Nat.zero_le _⟩ dX4_carry_175 (fun H locs hP hD hS => ?_)
    obtain ⟨e1, e2⟩ := Prod.mk.inj (Option.some.inj h0)
    exact x_retI hC hr hlocks rfl hP hD hS dX4_carry_178 ⟨e1, by rw [← e2]⟩
  have h0 := it_f h0 hq119
  by_cases hq120 : ((σ 14 (a1 : Int32).toNatClampNeg) : Int32) = (120 : Int32)
  · have h0 := it_t h0 hq120
    refine lv_lookup (tgt := 219) hx hb dX4_carry_10 (by decide) (off := 209) (by rw [hq120]; rfl) (by decide) ?_
    refine lv_aload_n hx hb dX4_carry_219 rfl (lv_at hl 1 rfl) ?_
    refine lv_aload_n hx hb dX4_carry_220 rfl (lv_at hl 1 rfl) ?_
    refine va_get (D := (dC, dI)) (ci := 4) (v := .ref (ad 15)) (C := RX4) (T := TX4) (N := 16) hx hb hts hin0 hown hK hP 0 rfl rfl 15 (by decide) (hts (.fieldLink RX4 38 "MeanLocksModel" "numbers" "[I") (List.mem_of_getElem? (i := 2) rfl)) (fun _ h9 => h9) rfl dX4_carry_221 ?_
    refine lv_iload_n hx hb dX4_carry_224 rfl (lv_at hl 0 rfl) ?_
    obtain ⟨hi, h0⟩ := ax_some h0
    refine va_iald hx hb hK hP 10 0 rfl rfl hi dX4_carry_225 ?_
    refine lv_iconst (v := (0 : Int32)) hx hb dX4_carry_226 (by decide) ?_
    obtain ⟨r12, s13, hf6, h0⟩ := bn2_some h0
    refine x_VI (As := [.int (σ 15 (v1 : Int32).toNatClampNeg), .int (0 : Int32)]) (rest := []) hC (kX4_tryLeave l dC dI cA h ad (σ 15 (v1 : Int32).toNatClampNeg) (0 : Int32) σ r12 s13 hf6) (cwV 2 hts gX4_carry_X4_tryLeave rfl rfl rfl (by decide +kernel) ⟨Nat.le_of_ble_eq_true rfl, Nat.le_of_ble_eq_true rfl⟩) 0 4 hV hN hK hP hD hS hA rfl rfl rfl rfl hl.1 rfl (Nat.le_of_ble_eq_true rfl) ⟨Nat.zero_le _, Nat.zero_le _⟩ dX4_carry_227 (fun H locs hP hD hS => ?_)
    obtain ⟨e1, e2⟩ := Prod.mk.inj (Option.some.inj h0)
    exact x_retI hC hr hlocks rfl hP hD hS dX4_carry_230 ⟨e1, by rw [← e2]⟩
  have h0 := it_f h0 hq120
  refine lv_lookup (tgt := 231) hx hb dX4_carry_10 (by decide) (off := 221) (by show Op.lookupswitch.offset [(99, 197), (102, 169), (109, 95), (114, 58), (119, 132), (120, 209)] (221) ((σ 14 (a1 : Int32).toNatClampNeg) : Int32).toInt = (221); rw [lv_osw (a := 99) (k := (99 : Int32)) hq99 rfl]; rw [lv_osw (a := 102) (k := (102 : Int32)) hq102 rfl]; rw [lv_osw (a := 109) (k := (109 : Int32)) hq109 rfl]; rw [lv_osw (a := 114) (k := (114 : Int32)) hq114 rfl]; rw [lv_osw (a := 119) (k := (119 : Int32)) hq119 rfl]; rw [lv_osw (a := 120) (k := (120 : Int32)) hq120 rfl]; rfl) (by decide) ?_
  refine lv_aload_n hx hb dX4_carry_231 rfl (lv_at hl 1 rfl) ?_
  refine lv_aload_n hx hb dX4_carry_232 rfl (lv_at hl 1 rfl) ?_
  refine va_get (D := (dC, dI)) (ci := 4) (v := .ref (ad 15)) (C := RX4) (T := TX4) (N := 16) hx hb hts hin0 hown hK hP 0 rfl rfl 15 (by decide) (hts (.fieldLink RX4 38 "MeanLocksModel" "numbers" "[I") (List.mem_of_getElem? (i := 2) rfl)) (fun _ h9 => h9) rfl dX4_carry_233 ?_
  refine lv_iload_n hx hb dX4_carry_236 rfl (lv_at hl 0 rfl) ?_
  obtain ⟨hi, h0⟩ := ax_some h0
  refine va_iald hx hb hK hP 10 0 rfl rfl hi dX4_carry_237 ?_
  refine lv_iconst (v := (0 : Int32)) hx hb dX4_carry_238 (by decide) ?_
  obtain ⟨r14, s15, hf7, h0⟩ := bn2_some h0
  refine x_VI (As := [.int (σ 15 (v1 : Int32).toNatClampNeg), .int (0 : Int32)]) (rest := []) hC (kX4_tryTicks l dC dI cA h ad (σ 15 (v1 : Int32).toNatClampNeg) (0 : Int32) σ r14 s15 hf7) (cwV 2 hts gX4_carry_X4_tryTicks rfl rfl rfl (by decide +kernel) ⟨Nat.le_of_ble_eq_true rfl, Nat.le_of_ble_eq_true rfl⟩) 0 4 hV hN hK hP hD hS hA rfl rfl rfl rfl hl.1 rfl (Nat.le_of_ble_eq_true rfl) ⟨Nat.zero_le _, Nat.zero_le _⟩ dX4_carry_239 (fun H locs hP hD hS => ?_)
  obtain ⟨e1, e2⟩ := Prod.mk.inj (Option.some.inj h0)
  exact x_retI hC hr hlocks rfl hP hD hS dX4_carry_242 ⟨e1, by rw [← e2]⟩
def fX4_next (σ : St) : Option Int32 := if (σ 8 0) ≤ (σ 11 0) then (some (0 : Int32)) else (ax (σ 11 0) 80 (some (σ 7 (σ 11 0 : Int32).toNatClampNeg)))
abbrev rmX4_next : Room := { frames := 0, cells := 0, slots := 0, locals := 0 }
set_option maxHeartbeats 4000000 in
set_option maxRecDepth 100000 in
theorem kX4_next (l : Launch) (dC : Nat → ClassId) (dI : Nat → Nat → Nat) (cA : Nat → ClassId) (h : Nat) (ad : Nat → Nat) (σ : St) (R0 : Int32) (h0 : fX4_next σ = some R0) : CI l yX4_next wsX4_next rmX4_next (dC, dI) vwCl (tysW cA) [.ref h] (wM cA h ad σ) R0 (wM cA h ad σ) := by
  refine CGI_of (cc := cX4_next) (nL := 1) (ret := (some .int)) (by decide) rfl (Nat.le_of_ble_eq_true rfl) ?_
  intro p e s m av below meth c A ls H locs hC hl
  obtain ⟨hC, hr, hlocks, hV, hN, hK, hP, hD, hS, hA⟩ := hC
  have hC : CallFix p m c cX4_next 1 s _ wsX4_next RX4 := hC
  obtain ⟨hx, hb, hml, hown, hts⟩ := id hC
  have hin0 : ∀ w ∈ u_ws RX4 TX4 16, w ∈ wsX4_next := fun _ h => (List.mem_cons_of_mem _ (List.mem_append_right _ h))
  have hl : lv_has ls 1 [(0, .ref h)] := hl
  unfold fX4_next at h0
  refine lv_aload_n hx hb dX4_next_0 rfl (lv_at hl 0 rfl) ?_
  refine va_get (D := (dC, dI)) (ci := 4) (v := .int (σ 11 0)) (C := RX4) (T := TX4) (N := 16) hx hb hts hin0 hown hK hP 0 rfl rfl 11 (by decide) (hts (.fieldLink RX4 216 "MeanLocksModel" "spot" "I") (List.mem_of_getElem? (i := 1) rfl)) (fun _ h9 => h9) rfl dX4_next_1 ?_
  refine lv_aload_n hx hb dX4_next_4 rfl (lv_at hl 0 rfl) ?_
  refine va_get (D := (dC, dI)) (ci := 4) (v := .int (σ 8 0)) (C := RX4) (T := TX4) (N := 16) hx hb hts hin0 hown hK hP 0 rfl rfl 8 (by decide) (hts (.fieldLink RX4 193 "MeanLocksModel" "padMany" "I") (List.mem_of_getElem? (i := 2) rfl)) (fun _ h9 => h9) rfl dX4_next_5 ?_
  refine lv_icmp_ge (tgt := 23) hx hb dX4_next_8 (by decide) (fun hc => ?_) (fun hc => ?_)
  · have h0 := it_t h0 hc
    refine lv_iconst (v := (0 : Int32)) hx hb dX4_next_23 (by decide) ?_
    have e1 := Option.some.inj h0
    exact x_retI hC hr hlocks rfl hP hD hS dX4_next_24 ⟨e1, rfl⟩
  · have h0 := it_f h0 hc
    refine lv_aload_n hx hb dX4_next_11 rfl (lv_at hl 0 rfl) ?_
    refine va_get (D := (dC, dI)) (ci := 4) (v := .ref (ad 7)) (C := RX4) (T := TX4) (N := 16) hx hb hts hin0 hown hK hP 0 rfl rfl 7 (by decide) (hts (.fieldLink RX4 26 "MeanLocksModel" "pad" "[I") (List.mem_of_getElem? (i := 3) rfl)) (fun _ h9 => h9) rfl dX4_next_12 ?_
    refine lv_aload_n hx hb dX4_next_15 rfl (lv_at hl 0 rfl) ?_
    refine va_get (D := (dC, dI)) (ci := 4) (v := .int (σ 11 0)) (C := RX4) (T := TX4) (N := 16) hx hb hts hin0 hown hK hP 0 rfl rfl 11 (by decide) (hts (.fieldLink RX4 216 "MeanLocksModel" "spot" "I") (List.mem_of_getElem? (i := 1) rfl)) (fun _ h9 => h9) rfl dX4_next_16 ?_
    obtain ⟨hi, h0⟩ := ax_some h0
    refine va_iald hx hb hK hP 6 0 rfl rfl hi dX4_next_19 ?_
    refine lv_goto (tgt := 24) hx hb dX4_next_20 (by decide) ?_
    have e1 := Option.some.inj h0
    exact x_retI hC hr hlocks rfl hP hD hS dX4_next_24 ⟨e1, rfl⟩
def fX4_takeOne (a1 : Int32) (a2 : Int32) (σ : St) : Option St := if ((σ 12 0) : Int32) = (0 : Int32) then (bnd (fX4_next  σ) fun r5 => bnd (fX4_in r5 (48 : Int32) a2) fun r6 => if (r6 : Int32) = (0 : Int32) then (nm (put σ 12 (fun _ => (1 : Int32))) fun s11 => if ((s11 12 0) : Int32) = (0 : Int32) then (bnd (fX4_next  s11) fun r12 => ax (((4 : Int32) * (s11 13 0)) + a1) 116 (nm (put s11 15 (upd (s11 15) (((4 : Int32) * (s11 13 0)) + a1 : Int32).toNatClampNeg (r12 - (48 : Int32)))) fun s13 => nm (put s13 11 (fun _ => (s13 11 0) + (1 : Int32))) fun s14 => some s14)) else (some s11)) else (nm (put σ 12 (fun _ => (0 : Int32))) fun s7 => if ((s7 12 0) : Int32) = (0 : Int32) then (bnd (fX4_next  s7) fun r8 => ax (((4 : Int32) * (s7 13 0)) + a1) 116 (nm (put s7 15 (upd (s7 15) (((4 : Int32) * (s7 13 0)) + a1 : Int32).toNatClampNeg (r8 - (48 : Int32)))) fun s9 => nm (put s9 11 (fun _ => (s9 11 0) + (1 : Int32))) fun s10 => some s10)) else (some s7))) else (nm (put σ 12 (fun _ => (1 : Int32))) fun s1 => if ((s1 12 0) : Int32) = (0 : Int32) then (bnd (fX4_next  s1) fun r2 => ax (((4 : Int32) * (s1 13 0)) + a1) 116 (nm (put s1 15 (upd (s1 15) (((4 : Int32) * (s1 13 0)) + a1 : Int32).toNatClampNeg (r2 - (48 : Int32)))) fun s3 => nm (put s3 11 (fun _ => (s3 11 0) + (1 : Int32))) fun s4 => some s4)) else (some s1))
abbrev rmX4_takeOne : Room := { frames := 1, cells := 0, slots := 0, locals := 22 }
set_option maxHeartbeats 4000000 in
set_option maxRecDepth 100000 in
theorem kX4_takeOne (l : Launch) (dC : Nat → ClassId) (dI : Nat → Nat → Nat) (cA : Nat → ClassId) (h : Nat) (ad : Nat → Nat) (a1 : Int32) (a2 : Int32) (σ : St) (σ' : St) (h0 : fX4_takeOne a1 a2 σ = some σ') : CV l yX4_takeOne wsX4_takeOne rmX4_takeOne (dC, dI) vwCl (tysW cA) [.ref h, .int a1, .int a2] (wM cA h ad σ) (wM cA h ad σ') := by
  refine CGV_of (cc := cX4_takeOne) (nL := 3) (ret := none) (by decide) rfl (Nat.le_of_ble_eq_true rfl) ?_
  intro p e s m av below meth c A ls H locs hC hl
  obtain ⟨hC, hr, hlocks, hV, hN, hK, hP, hD, hS, hA⟩ := hC
  have hC : CallFix p m c cX4_takeOne 3 s _ wsX4_takeOne RX4 := hC
  obtain ⟨hx, hb, hml, hown, hts⟩ := id hC
  have hin0 : ∀ w ∈ u_ws RX4 TX4 16, w ∈ wsX4_takeOne := fun _ h => (List.mem_cons_of_mem _ (List.mem_append_right _ h))
  have hl : lv_has ls 3 [(0, .ref h), (1, .int a1), (2, .int a2)] := hl
  unfold fX4_takeOne at h0
  refine lv_aload_n hx hb dX4_takeOne_0 rfl (lv_at hl 0 rfl) ?_
  refine lv_aload_n hx hb dX4_takeOne_1 rfl (lv_at hl 0 rfl) ?_
  refine va_get (D := (dC, dI)) (ci := 4) (v := .int (σ 12 0)) (C := RX4) (T := TX4) (N := 16) hx hb hts hin0 hown hK hP 0 rfl rfl 12 (by decide) (hts (.fieldLink RX4 219 "MeanLocksModel" "isWrong" "Z") (List.mem_of_getElem? (i := 1) rfl)) (fun _ h9 => h9) rfl dX4_takeOne_2 ?_
  refine lv_if_ne (tgt := 21) hx hb dX4_takeOne_5 (by decide) (fun hc => ?_) (fun hc => ?_)
  · have h0 := it_f h0 hc
    refine lv_iconst (v := (1 : Int32)) hx hb dX4_takeOne_21 (by decide) ?_
    refine lv_goto (tgt := 26) hx hb dX4_takeOne_22 (by decide) ?_
    obtain ⟨s1, es1, h0⟩ := nm_some h0
    refine x_put (D := (dC, dI)) (ws' := wM cA h ad s1) (ci := 4) (fs := [.ref (ad 0), .ref (ad 1), .int (σ 2 0), .int (σ 3 0), .ref (ad 4), .ref (ad 5), .ref (ad 6), .ref (ad 7), .int (σ 8 0), .ref (ad 9), .ref (ad 10), .int (σ 11 0), .int (σ 12 0), .int (σ 13 0), .ref (ad 14), .ref (ad 15)]) (v := .int (1 : Int32)) (ty := .boolean) (C := RX4) (T := TX4) (N := 16) hC hin0 tyX4 tyX4_ok nmX4 hK hP hD hS 0 rfl rfl 12 (by decide) (hts (.fieldLink RX4 219 "MeanLocksModel" "isWrong" "Z") (List.mem_of_getElem? (i := 1) rfl)) rfl rfl rfl rfl (by decide +kernel) (Nat.le_of_ble_eq_true rfl) (by rw [es1]; exact wM_s12 _ _ _ _ _) dX4_takeOne_26 (fun H locs hP hD hS => ?_)
    refine lv_aload_n hx hb dX4_takeOne_29 rfl (lv_at hl 0 rfl) ?_
    refine va_get (D := (dC, dI)) (ci := 4) (v := .int (s1 12 0)) (C := RX4) (T := TX4) (N := 16) hx hb hts hin0 hown hK hP 0 rfl rfl 12 (by decide) (hts (.fieldLink RX4 219 "MeanLocksModel" "isWrong" "Z") (List.mem_of_getElem? (i := 1) rfl)) (fun _ h9 => h9) rfl dX4_takeOne_30 ?_
    refine lv_if_ne (tgt := 66) hx hb dX4_takeOne_33 (by decide) (fun hc => ?_) (fun hc => ?_)
    · have h0 := it_f h0 hc
      have e1 := Option.some.inj h0
      exact x_retV hC hr hlocks hP hD hS dX4_takeOne_66 (by rw [← e1])
    · have h0 := it_t h0 hc
      refine lv_aload_n hx hb dX4_takeOne_36 rfl (lv_at hl 0 rfl) ?_
      refine va_get (D := (dC, dI)) (ci := 4) (v := .ref (ad 15)) (C := RX4) (T := TX4) (N := 16) hx hb hts hin0 hown hK hP 0 rfl rfl 15 (by decide) (hts (.fieldLink RX4 38 "MeanLocksModel" "numbers" "[I") (List.mem_of_getElem? (i := 2) rfl)) (fun _ h9 => h9) rfl dX4_takeOne_37 ?_
      refine lv_iconst (v := (4 : Int32)) hx hb dX4_takeOne_40 (by decide) ?_
      refine lv_aload_n hx hb dX4_takeOne_41 rfl (lv_at hl 0 rfl) ?_
      refine va_get (D := (dC, dI)) (ci := 4) (v := .int (s1 13 0)) (C := RX4) (T := TX4) (N := 16) hx hb hts hin0 hown hK hP 0 rfl rfl 13 (by decide) (hts (.fieldLink RX4 226 "MeanLocksModel" "orders" "I") (List.mem_of_getElem? (i := 3) rfl)) (fun _ h9 => h9) rfl dX4_takeOne_42 ?_
      refine lv_imul hx hb dX4_takeOne_45 ?_
      refine lv_iload_n hx hb dX4_takeOne_46 rfl (lv_at hl 1 rfl) ?_
      refine lv_iadd hx hb dX4_takeOne_47 ?_
      refine lv_aload_n hx hb dX4_takeOne_48 rfl (lv_at hl 0 rfl) ?_
      obtain ⟨r2, hf1, h0⟩ := bnd_some h0
      refine x_VI (As := []) (rest := [.int (((4 : Int32) * (s1 13 0)) + a1), .ref (ad 15)]) hC (kX4_next l dC dI cA h ad s1 r2  hf1) (cwV 0 hts gX4_takeOne_X4_next rfl rfl rfl (by decide +kernel) ⟨Nat.le_of_ble_eq_true rfl, Nat.le_of_ble_eq_true rfl⟩) 0 4 hV hN hK hP hD hS hA rfl rfl rfl rfl hl.1 rfl (Nat.le_of_ble_eq_true rfl) ⟨Nat.zero_le _, Nat.zero_le _⟩ dX4_takeOne_49 (fun H locs hP hD hS => ?_)
      refine lv_bipush (v := (48 : Int32)) hx hb dX4_takeOne_52 (by decide) ?_
      refine lv_isub hx hb dX4_takeOne_54 ?_
      obtain ⟨hi, h0⟩ := ax_some h0
      obtain ⟨s3, es3, h0⟩ := nm_some h0
      refine x_iast (ws' := wM cA h ad s3) hC hK hP hD hS 10 0 rfl rfl (by rw [es3]; exact wM_s15 _ _ _ _ _) hi dX4_takeOne_55 (fun H locs hP hD hS => ?_)
      refine lv_aload_n hx hb dX4_takeOne_56 rfl (lv_at hl 0 rfl) ?_
      refine lv_dup hx hb dX4_takeOne_57 rfl ?_
      refine va_get (D := (dC, dI)) (ci := 4) (v := .int (s3 11 0)) (C := RX4) (T := TX4) (N := 16) hx hb hts hin0 hown hK hP 0 rfl rfl 11 (by decide) (hts (.fieldLink RX4 216 "MeanLocksModel" "spot" "I") (List.mem_of_getElem? (i := 4) rfl)) (fun _ h9 => h9) rfl dX4_takeOne_58 ?_
      refine lv_iconst (v := (1 : Int32)) hx hb dX4_takeOne_61 (by decide) ?_
      refine lv_iadd hx hb dX4_takeOne_62 ?_
      obtain ⟨s4, es4, h0⟩ := nm_some h0
      refine x_put (D := (dC, dI)) (ws' := wM cA h ad s4) (ci := 4) (fs := [.ref (ad 0), .ref (ad 1), .int (s3 2 0), .int (s3 3 0), .ref (ad 4), .ref (ad 5), .ref (ad 6), .ref (ad 7), .int (s3 8 0), .ref (ad 9), .ref (ad 10), .int (s3 11 0), .int (s3 12 0), .int (s3 13 0), .ref (ad 14), .ref (ad 15)]) (v := .int ((s3 11 0) + (1 : Int32))) (ty := .int) (C := RX4) (T := TX4) (N := 16) hC hin0 tyX4 tyX4_ok nmX4 hK hP hD hS 0 rfl rfl 11 (by decide) (hts (.fieldLink RX4 216 "MeanLocksModel" "spot" "I") (List.mem_of_getElem? (i := 4) rfl)) rfl rfl rfl rfl (by decide +kernel) (Nat.le_of_ble_eq_true rfl) (by rw [es4]; exact wM_s11 _ _ _ _ _) dX4_takeOne_63 (fun H locs hP hD hS => ?_)
      have e1 := Option.some.inj h0
      exact x_retV hC hr hlocks hP hD hS dX4_takeOne_66 (by rw [← e1])
  · have h0 := it_t h0 hc
    refine lv_aload_n hx hb dX4_takeOne_8 rfl (lv_at hl 0 rfl) ?_
    obtain ⟨r5, hf2, h0⟩ := bnd_some h0
    refine x_VI (As := []) (rest := [.ref h]) hC (kX4_next l dC dI cA h ad σ r5  hf2) (cwV 0 hts gX4_takeOne_X4_next rfl rfl rfl (by decide +kernel) ⟨Nat.le_of_ble_eq_true rfl, Nat.le_of_ble_eq_true rfl⟩) 0 4 hV hN hK hP hD hS hA rfl rfl rfl rfl hl.1 rfl (Nat.le_of_ble_eq_true rfl) ⟨Nat.zero_le _, Nat.zero_le _⟩ dX4_takeOne_9 (fun H locs hP hD hS => ?_)
    refine lv_bipush (v := (48 : Int32)) hx hb dX4_takeOne_12 (by decide) ?_
    refine lv_iload_n hx hb dX4_takeOne_14 rfl (lv_at hl 2 rfl) ?_
    obtain ⟨r6, hf3, h0⟩ := bnd_some h0
    refine x_SI (As := [.int r5, .int (48 : Int32), .int a2]) (rest := [.ref h]) hC (kX4_in l dC dI cA r5 (48 : Int32) a2 r6 hf3) (cwS 3 hts gX4_takeOne_X4_in rfl rfl rfl (by decide +kernel) ⟨Nat.le_of_ble_eq_true rfl, Nat.le_of_ble_eq_true rfl⟩) hV hN hK hP hD hS hA rfl hl.1 rfl (Nat.le_of_ble_eq_true rfl) ⟨Nat.zero_le _, Nat.zero_le _⟩ dX4_takeOne_15 (fun H locs hP hD hS => ?_)
    refine lv_if_ne (tgt := 25) hx hb dX4_takeOne_18 (by decide) (fun hc => ?_) (fun hc => ?_)
    · have h0 := it_f h0 hc
      refine lv_iconst (v := (0 : Int32)) hx hb dX4_takeOne_25 (by decide) ?_
      obtain ⟨s7, es7, h0⟩ := nm_some h0
      refine x_put (D := (dC, dI)) (ws' := wM cA h ad s7) (ci := 4) (fs := [.ref (ad 0), .ref (ad 1), .int (σ 2 0), .int (σ 3 0), .ref (ad 4), .ref (ad 5), .ref (ad 6), .ref (ad 7), .int (σ 8 0), .ref (ad 9), .ref (ad 10), .int (σ 11 0), .int (σ 12 0), .int (σ 13 0), .ref (ad 14), .ref (ad 15)]) (v := .int (0 : Int32)) (ty := .boolean) (C := RX4) (T := TX4) (N := 16) hC hin0 tyX4 tyX4_ok nmX4 hK hP hD hS 0 rfl rfl 12 (by decide) (hts (.fieldLink RX4 219 "MeanLocksModel" "isWrong" "Z") (List.mem_of_getElem? (i := 1) rfl)) rfl rfl rfl rfl (by decide +kernel) (Nat.le_of_ble_eq_true rfl) (by rw [es7]; exact wM_s12 _ _ _ _ _) dX4_takeOne_26 (fun H locs hP hD hS => ?_)
      refine lv_aload_n hx hb dX4_takeOne_29 rfl (lv_at hl 0 rfl) ?_
      refine va_get (D := (dC, dI)) (ci := 4) (v := .int (s7 12 0)) (C := RX4) (T := TX4) (N := 16) hx hb hts hin0 hown hK hP 0 rfl rfl 12 (by decide) (hts (.fieldLink RX4 219 "MeanLocksModel" "isWrong" "Z") (List.mem_of_getElem? (i := 1) rfl)) (fun _ h9 => h9) rfl dX4_takeOne_30 ?_
      refine lv_if_ne (tgt := 66) hx hb dX4_takeOne_33 (by decide) (fun hc => ?_) (fun hc => ?_)
      · have h0 := it_f h0 hc
        have e1 := Option.some.inj h0
        exact x_retV hC hr hlocks hP hD hS dX4_takeOne_66 (by rw [← e1])
      · have h0 := it_t h0 hc
        refine lv_aload_n hx hb dX4_takeOne_36 rfl (lv_at hl 0 rfl) ?_
        refine va_get (D := (dC, dI)) (ci := 4) (v := .ref (ad 15)) (C := RX4) (T := TX4) (N := 16) hx hb hts hin0 hown hK hP 0 rfl rfl 15 (by decide) (hts (.fieldLink RX4 38 "MeanLocksModel" "numbers" "[I") (List.mem_of_getElem? (i := 2) rfl)) (fun _ h9 => h9) rfl dX4_takeOne_37 ?_
        refine lv_iconst (v := (4 : Int32)) hx hb dX4_takeOne_40 (by decide) ?_
        refine lv_aload_n hx hb dX4_takeOne_41 rfl (lv_at hl 0 rfl) ?_
        refine va_get (D := (dC, dI)) (ci := 4) (v := .int (s7 13 0)) (C := RX4) (T := TX4) (N := 16) hx hb hts hin0 hown hK hP 0 rfl rfl 13 (by decide) (hts (.fieldLink RX4 226 "MeanLocksModel" "orders" "I") (List.mem_of_getElem? (i := 3) rfl)) (fun _ h9 => h9) rfl dX4_takeOne_42 ?_
        refine lv_imul hx hb dX4_takeOne_45 ?_
        refine lv_iload_n hx hb dX4_takeOne_46 rfl (lv_at hl 1 rfl) ?_
        refine lv_iadd hx hb dX4_takeOne_47 ?_
        refine lv_aload_n hx hb dX4_takeOne_48 rfl (lv_at hl 0 rfl) ?_
        obtain ⟨r8, hf4, h0⟩ := bnd_some h0
        refine x_VI (As := []) (rest := [.int (((4 : Int32) * (s7 13 0)) + a1), .ref (ad 15)]) hC (kX4_next l dC dI cA h ad s7 r8  hf4) (cwV 0 hts gX4_takeOne_X4_next rfl rfl rfl (by decide +kernel) ⟨Nat.le_of_ble_eq_true rfl, Nat.le_of_ble_eq_true rfl⟩) 0 4 hV hN hK hP hD hS hA rfl rfl rfl rfl hl.1 rfl (Nat.le_of_ble_eq_true rfl) ⟨Nat.zero_le _, Nat.zero_le _⟩ dX4_takeOne_49 (fun H locs hP hD hS => ?_)
        refine lv_bipush (v := (48 : Int32)) hx hb dX4_takeOne_52 (by decide) ?_
        refine lv_isub hx hb dX4_takeOne_54 ?_
        obtain ⟨hi, h0⟩ := ax_some h0
        obtain ⟨s9, es9, h0⟩ := nm_some h0
        refine x_iast (ws' := wM cA h ad s9) hC hK hP hD hS 10 0 rfl rfl (by rw [es9]; exact wM_s15 _ _ _ _ _) hi dX4_takeOne_55 (fun H locs hP hD hS => ?_)
        refine lv_aload_n hx hb dX4_takeOne_56 rfl (lv_at hl 0 rfl) ?_
        refine lv_dup hx hb dX4_takeOne_57 rfl ?_
        refine va_get (D := (dC, dI)) (ci := 4) (v := .int (s9 11 0)) (C := RX4) (T := TX4) (N := 16) hx hb hts hin0 hown hK hP 0 rfl rfl 11 (by decide) (hts (.fieldLink RX4 216 "MeanLocksModel" "spot" "I") (List.mem_of_getElem? (i := 4) rfl)) (fun _ h9 => h9) rfl dX4_takeOne_58 ?_
        refine lv_iconst (v := (1 : Int32)) hx hb dX4_takeOne_61 (by decide) ?_
        refine lv_iadd hx hb dX4_takeOne_62 ?_
        obtain ⟨s10, es10, h0⟩ := nm_some h0
        refine x_put (D := (dC, dI)) (ws' := wM cA h ad s10) (ci := 4) (fs := [.ref (ad 0), .ref (ad 1), .int (s9 2 0), .int (s9 3 0), .ref (ad 4), .ref (ad 5), .ref (ad 6), .ref (ad 7), .int (s9 8 0), .ref (ad 9), .ref (ad 10), .int (s9 11 0), .int (s9 12 0), .int (s9 13 0), .ref (ad 14), .ref (ad 15)]) (v := .int ((s9 11 0) + (1 : Int32))) (ty := .int) (C := RX4) (T := TX4) (N := 16) hC hin0 tyX4 tyX4_ok nmX4 hK hP hD hS 0 rfl rfl 11 (by decide) (hts (.fieldLink RX4 216 "MeanLocksModel" "spot" "I") (List.mem_of_getElem? (i := 4) rfl)) rfl rfl rfl rfl (by decide +kernel) (Nat.le_of_ble_eq_true rfl) (by rw [es10]; exact wM_s11 _ _ _ _ _) dX4_takeOne_63 (fun H locs hP hD hS => ?_)
        have e1 := Option.some.inj h0
        exact x_retV hC hr hlocks hP hD hS dX4_takeOne_66 (by rw [← e1])
    · have h0 := it_t h0 hc
      refine lv_iconst (v := (1 : Int32)) hx hb dX4_takeOne_21 (by decide) ?_
      refine lv_goto (tgt := 26) hx hb dX4_takeOne_22 (by decide) ?_
      obtain ⟨s11, es11, h0⟩ := nm_some h0
      refine x_put (D := (dC, dI)) (ws' := wM cA h ad s11) (ci := 4) (fs := [.ref (ad 0), .ref (ad 1), .int (σ 2 0), .int (σ 3 0), .ref (ad 4), .ref (ad 5), .ref (ad 6), .ref (ad 7), .int (σ 8 0), .ref (ad 9), .ref (ad 10), .int (σ 11 0), .int (σ 12 0), .int (σ 13 0), .ref (ad 14), .ref (ad 15)]) (v := .int (1 : Int32)) (ty := .boolean) (C := RX4) (T := TX4) (N := 16) hC hin0 tyX4 tyX4_ok nmX4 hK hP hD hS 0 rfl rfl 12 (by decide) (hts (.fieldLink RX4 219 "MeanLocksModel" "isWrong" "Z") (List.mem_of_getElem? (i := 1) rfl)) rfl rfl rfl rfl (by decide +kernel) (Nat.le_of_ble_eq_true rfl) (by rw [es11]; exact wM_s12 _ _ _ _ _) dX4_takeOne_26 (fun H locs hP hD hS => ?_)
      refine lv_aload_n hx hb dX4_takeOne_29 rfl (lv_at hl 0 rfl) ?_
      refine va_get (D := (dC, dI)) (ci := 4) (v := .int (s11 12 0)) (C := RX4) (T := TX4) (N := 16) hx hb hts hin0 hown hK hP 0 rfl rfl 12 (by decide) (hts (.fieldLink RX4 219 "MeanLocksModel" "isWrong" "Z") (List.mem_of_getElem? (i := 1) rfl)) (fun _ h9 => h9) rfl dX4_takeOne_30 ?_
      refine lv_if_ne (tgt := 66) hx hb dX4_takeOne_33 (by decide) (fun hc => ?_) (fun hc => ?_)
      · have h0 := it_f h0 hc
        have e1 := Option.some.inj h0
        exact x_retV hC hr hlocks hP hD hS dX4_takeOne_66 (by rw [← e1])
      · have h0 := it_t h0 hc
        refine lv_aload_n hx hb dX4_takeOne_36 rfl (lv_at hl 0 rfl) ?_
        refine va_get (D := (dC, dI)) (ci := 4) (v := .ref (ad 15)) (C := RX4) (T := TX4) (N := 16) hx hb hts hin0 hown hK hP 0 rfl rfl 15 (by decide) (hts (.fieldLink RX4 38 "MeanLocksModel" "numbers" "[I") (List.mem_of_getElem? (i := 2) rfl)) (fun _ h9 => h9) rfl dX4_takeOne_37 ?_
        refine lv_iconst (v := (4 : Int32)) hx hb dX4_takeOne_40 (by decide) ?_
        refine lv_aload_n hx hb dX4_takeOne_41 rfl (lv_at hl 0 rfl) ?_
        refine va_get (D := (dC, dI)) (ci := 4) (v := .int (s11 13 0)) (C := RX4) (T := TX4) (N := 16) hx hb hts hin0 hown hK hP 0 rfl rfl 13 (by decide) (hts (.fieldLink RX4 226 "MeanLocksModel" "orders" "I") (List.mem_of_getElem? (i := 3) rfl)) (fun _ h9 => h9) rfl dX4_takeOne_42 ?_
        refine lv_imul hx hb dX4_takeOne_45 ?_
        refine lv_iload_n hx hb dX4_takeOne_46 rfl (lv_at hl 1 rfl) ?_
        refine lv_iadd hx hb dX4_takeOne_47 ?_
        refine lv_aload_n hx hb dX4_takeOne_48 rfl (lv_at hl 0 rfl) ?_
        obtain ⟨r12, hf5, h0⟩ := bnd_some h0
        refine x_VI (As := []) (rest := [.int (((4 : Int32) * (s11 13 0)) + a1), .ref (ad 15)]) hC (kX4_next l dC dI cA h ad s11 r12  hf5) (cwV 0 hts gX4_takeOne_X4_next rfl rfl rfl (by decide +kernel) ⟨Nat.le_of_ble_eq_true rfl, Nat.le_of_ble_eq_true rfl⟩) 0 4 hV hN hK hP hD hS hA rfl rfl rfl rfl hl.1 rfl (Nat.le_of_ble_eq_true rfl) ⟨Nat.zero_le _, Nat.zero_le _⟩ dX4_takeOne_49 (fun H locs hP hD hS => ?_)
        refine lv_bipush (v := (48 : Int32)) hx hb dX4_takeOne_52 (by decide) ?_
        refine lv_isub hx hb dX4_takeOne_54 ?_
        obtain ⟨hi, h0⟩ := ax_some h0
        obtain ⟨s13, es13, h0⟩ := nm_some h0
        refine x_iast (ws' := wM cA h ad s13) hC hK hP hD hS 10 0 rfl rfl (by rw [es13]; exact wM_s15 _ _ _ _ _) hi dX4_takeOne_55 (fun H locs hP hD hS => ?_)
        refine lv_aload_n hx hb dX4_takeOne_56 rfl (lv_at hl 0 rfl) ?_
        refine lv_dup hx hb dX4_takeOne_57 rfl ?_
        refine va_get (D := (dC, dI)) (ci := 4) (v := .int (s13 11 0)) (C := RX4) (T := TX4) (N := 16) hx hb hts hin0 hown hK hP 0 rfl rfl 11 (by decide) (hts (.fieldLink RX4 216 "MeanLocksModel" "spot" "I") (List.mem_of_getElem? (i := 4) rfl)) (fun _ h9 => h9) rfl dX4_takeOne_58 ?_
        refine lv_iconst (v := (1 : Int32)) hx hb dX4_takeOne_61 (by decide) ?_
        refine lv_iadd hx hb dX4_takeOne_62 ?_
        obtain ⟨s14, es14, h0⟩ := nm_some h0
        refine x_put (D := (dC, dI)) (ws' := wM cA h ad s14) (ci := 4) (fs := [.ref (ad 0), .ref (ad 1), .int (s13 2 0), .int (s13 3 0), .ref (ad 4), .ref (ad 5), .ref (ad 6), .ref (ad 7), .int (s13 8 0), .ref (ad 9), .ref (ad 10), .int (s13 11 0), .int (s13 12 0), .int (s13 13 0), .ref (ad 14), .ref (ad 15)]) (v := .int ((s13 11 0) + (1 : Int32))) (ty := .int) (C := RX4) (T := TX4) (N := 16) hC hin0 tyX4 tyX4_ok nmX4 hK hP hD hS 0 rfl rfl 11 (by decide) (hts (.fieldLink RX4 216 "MeanLocksModel" "spot" "I") (List.mem_of_getElem? (i := 4) rfl)) rfl rfl rfl rfl (by decide +kernel) (Nat.le_of_ble_eq_true rfl) (by rw [es14]; exact wM_s11 _ _ _ _ _) dX4_takeOne_63 (fun H locs hP hD hS => ?_)
        have e1 := Option.some.inj h0
        exact x_retV hC hr hlocks hP hD hS dX4_takeOne_66 (by rw [← e1])
def fX4_takeSign (a1 : Int32) (σ : St) : Option St := if ((σ 12 0) : Int32) = (0 : Int32) then (bnd (fX4_next  σ) fun r4 => if (r4 : Int32) = a1 then (nm (put σ 12 (fun _ => (0 : Int32))) fun s5 => if ((s5 12 0) : Int32) = (0 : Int32) then (nm (put s5 11 (fun _ => (s5 11 0) + (1 : Int32))) fun s6 => some s6) else (nm (put s5 11 (fun _ => (s5 11 0) + (0 : Int32))) fun s7 => some s7)) else (nm (put σ 12 (fun _ => (1 : Int32))) fun s8 => if ((s8 12 0) : Int32) = (0 : Int32) then (nm (put s8 11 (fun _ => (s8 11 0) + (1 : Int32))) fun s9 => some s9) else (nm (put s8 11 (fun _ => (s8 11 0) + (0 : Int32))) fun s10 => some s10))) else (nm (put σ 12 (fun _ => (1 : Int32))) fun s1 => if ((s1 12 0) : Int32) = (0 : Int32) then (nm (put s1 11 (fun _ => (s1 11 0) + (1 : Int32))) fun s2 => some s2) else (nm (put s1 11 (fun _ => (s1 11 0) + (0 : Int32))) fun s3 => some s3))
abbrev rmX4_takeSign : Room := { frames := 1, cells := 0, slots := 0, locals := 20 }
set_option maxHeartbeats 4000000 in
set_option maxRecDepth 100000 in
theorem kX4_takeSign (l : Launch) (dC : Nat → ClassId) (dI : Nat → Nat → Nat) (cA : Nat → ClassId) (h : Nat) (ad : Nat → Nat) (a1 : Int32) (σ : St) (σ' : St) (h0 : fX4_takeSign a1 σ = some σ') : CV l yX4_takeSign wsX4_takeSign rmX4_takeSign (dC, dI) vwCl (tysW cA) [.ref h, .int a1] (wM cA h ad σ) (wM cA h ad σ') := by
  refine CGV_of (cc := cX4_takeSign) (nL := 2) (ret := none) (by decide) rfl (Nat.le_of_ble_eq_true rfl) ?_
  intro p e s m av below meth c A ls H locs hC hl
  obtain ⟨hC, hr, hlocks, hV, hN, hK, hP, hD, hS, hA⟩ := hC
  have hC : CallFix p m c cX4_takeSign 2 s _ wsX4_takeSign RX4 := hC
  obtain ⟨hx, hb, hml, hown, hts⟩ := id hC
  have hin0 : ∀ w ∈ u_ws RX4 TX4 16, w ∈ wsX4_takeSign := fun _ h => (List.mem_cons_of_mem _ (List.mem_append_right _ h))
  have hl : lv_has ls 2 [(0, .ref h), (1, .int a1)] := hl
  unfold fX4_takeSign at h0
  refine lv_aload_n hx hb dX4_takeSign_0 rfl (lv_at hl 0 rfl) ?_
  refine lv_aload_n hx hb dX4_takeSign_1 rfl (lv_at hl 0 rfl) ?_
  refine va_get (D := (dC, dI)) (ci := 4) (v := .int (σ 12 0)) (C := RX4) (T := TX4) (N := 16) hx hb hts hin0 hown hK hP 0 rfl rfl 12 (by decide) (hts (.fieldLink RX4 219 "MeanLocksModel" "isWrong" "Z") (List.mem_of_getElem? (i := 1) rfl)) (fun _ h9 => h9) rfl dX4_takeSign_2 ?_
  refine lv_if_ne (tgt := 16) hx hb dX4_takeSign_5 (by decide) (fun hc => ?_) (fun hc => ?_)
  · have h0 := it_f h0 hc
    refine lv_iconst (v := (1 : Int32)) hx hb dX4_takeSign_16 (by decide) ?_
    refine lv_goto (tgt := 21) hx hb dX4_takeSign_17 (by decide) ?_
    obtain ⟨s1, es1, h0⟩ := nm_some h0
    refine x_put (D := (dC, dI)) (ws' := wM cA h ad s1) (ci := 4) (fs := [.ref (ad 0), .ref (ad 1), .int (σ 2 0), .int (σ 3 0), .ref (ad 4), .ref (ad 5), .ref (ad 6), .ref (ad 7), .int (σ 8 0), .ref (ad 9), .ref (ad 10), .int (σ 11 0), .int (σ 12 0), .int (σ 13 0), .ref (ad 14), .ref (ad 15)]) (v := .int (1 : Int32)) (ty := .boolean) (C := RX4) (T := TX4) (N := 16) hC hin0 tyX4 tyX4_ok nmX4 hK hP hD hS 0 rfl rfl 12 (by decide) (hts (.fieldLink RX4 219 "MeanLocksModel" "isWrong" "Z") (List.mem_of_getElem? (i := 1) rfl)) rfl rfl rfl rfl (by decide +kernel) (Nat.le_of_ble_eq_true rfl) (by rw [es1]; exact wM_s12 _ _ _ _ _) dX4_takeSign_21 (fun H locs hP hD hS => ?_)
    refine lv_aload_n hx hb dX4_takeSign_24 rfl (lv_at hl 0 rfl) ?_
    refine lv_dup hx hb dX4_takeSign_25 rfl ?_
    refine va_get (D := (dC, dI)) (ci := 4) (v := .int (s1 11 0)) (C := RX4) (T := TX4) (N := 16) hx hb hts hin0 hown hK hP 0 rfl rfl 11 (by decide) (hts (.fieldLink RX4 216 "MeanLocksModel" "spot" "I") (List.mem_of_getElem? (i := 2) rfl)) (fun _ h9 => h9) rfl dX4_takeSign_26 ?_
    refine lv_aload_n hx hb dX4_takeSign_29 rfl (lv_at hl 0 rfl) ?_
    refine va_get (D := (dC, dI)) (ci := 4) (v := .int (s1 12 0)) (C := RX4) (T := TX4) (N := 16) hx hb hts hin0 hown hK hP 0 rfl rfl 12 (by decide) (hts (.fieldLink RX4 219 "MeanLocksModel" "isWrong" "Z") (List.mem_of_getElem? (i := 1) rfl)) (fun _ h9 => h9) rfl dX4_takeSign_30 ?_
    refine lv_if_eq (tgt := 40) hx hb dX4_takeSign_33 (by decide) (fun hc => ?_) (fun hc => ?_)
    · have h0 := it_t h0 hc
      refine lv_iconst (v := (1 : Int32)) hx hb dX4_takeSign_40 (by decide) ?_
      refine lv_iadd hx hb dX4_takeSign_41 ?_
      obtain ⟨s2, es2, h0⟩ := nm_some h0
      refine x_put (D := (dC, dI)) (ws' := wM cA h ad s2) (ci := 4) (fs := [.ref (ad 0), .ref (ad 1), .int (s1 2 0), .int (s1 3 0), .ref (ad 4), .ref (ad 5), .ref (ad 6), .ref (ad 7), .int (s1 8 0), .ref (ad 9), .ref (ad 10), .int (s1 11 0), .int (s1 12 0), .int (s1 13 0), .ref (ad 14), .ref (ad 15)]) (v := .int ((s1 11 0) + (1 : Int32))) (ty := .int) (C := RX4) (T := TX4) (N := 16) hC hin0 tyX4 tyX4_ok nmX4 hK hP hD hS 0 rfl rfl 11 (by decide) (hts (.fieldLink RX4 216 "MeanLocksModel" "spot" "I") (List.mem_of_getElem? (i := 2) rfl)) rfl rfl rfl rfl (by decide +kernel) (Nat.le_of_ble_eq_true rfl) (by rw [es2]; exact wM_s11 _ _ _ _ _) dX4_takeSign_42 (fun H locs hP hD hS => ?_)
      have e1 := Option.some.inj h0
      exact x_retV hC hr hlocks hP hD hS dX4_takeSign_45 (by rw [← e1])
    · have h0 := it_f h0 hc
      refine lv_iconst (v := (0 : Int32)) hx hb dX4_takeSign_36 (by decide) ?_
      refine lv_goto (tgt := 41) hx hb dX4_takeSign_37 (by decide) ?_
      refine lv_iadd hx hb dX4_takeSign_41 ?_
      obtain ⟨s3, es3, h0⟩ := nm_some h0
      refine x_put (D := (dC, dI)) (ws' := wM cA h ad s3) (ci := 4) (fs := [.ref (ad 0), .ref (ad 1), .int (s1 2 0), .int (s1 3 0), .ref (ad 4), .ref (ad 5), .ref (ad 6), .ref (ad 7), .int (s1 8 0), .ref (ad 9), .ref (ad 10), .int (s1 11 0), .int (s1 12 0), .int (s1 13 0), .ref (ad 14), .ref (ad 15)]) (v := .int ((s1 11 0) + (0 : Int32))) (ty := .int) (C := RX4) (T := TX4) (N := 16) hC hin0 tyX4 tyX4_ok nmX4 hK hP hD hS 0 rfl rfl 11 (by decide) (hts (.fieldLink RX4 216 "MeanLocksModel" "spot" "I") (List.mem_of_getElem? (i := 2) rfl)) rfl rfl rfl rfl (by decide +kernel) (Nat.le_of_ble_eq_true rfl) (by rw [es3]; exact wM_s11 _ _ _ _ _) dX4_takeSign_42 (fun H locs hP hD hS => ?_)
      have e1 := Option.some.inj h0
      exact x_retV hC hr hlocks hP hD hS dX4_takeSign_45 (by rw [← e1])
  · have h0 := it_t h0 hc
    refine lv_aload_n hx hb dX4_takeSign_8 rfl (lv_at hl 0 rfl) ?_
    obtain ⟨r4, hf1, h0⟩ := bnd_some h0
    refine x_VI (As := []) (rest := [.ref h]) hC (kX4_next l dC dI cA h ad σ r4  hf1) (cwV 0 hts gX4_takeSign_X4_next rfl rfl rfl (by decide +kernel) ⟨Nat.le_of_ble_eq_true rfl, Nat.le_of_ble_eq_true rfl⟩) 0 4 hV hN hK hP hD hS hA rfl rfl rfl rfl hl.1 rfl (Nat.le_of_ble_eq_true rfl) ⟨Nat.zero_le _, Nat.zero_le _⟩ dX4_takeSign_9 (fun H locs hP hD hS => ?_)
    refine lv_iload_n hx hb dX4_takeSign_12 rfl (lv_at hl 1 rfl) ?_
    refine lv_icmp_eq (tgt := 20) hx hb dX4_takeSign_13 (by decide) (fun hc => ?_) (fun hc => ?_)
    · have h0 := it_t h0 hc
      refine lv_iconst (v := (0 : Int32)) hx hb dX4_takeSign_20 (by decide) ?_
      obtain ⟨s5, es5, h0⟩ := nm_some h0
      refine x_put (D := (dC, dI)) (ws' := wM cA h ad s5) (ci := 4) (fs := [.ref (ad 0), .ref (ad 1), .int (σ 2 0), .int (σ 3 0), .ref (ad 4), .ref (ad 5), .ref (ad 6), .ref (ad 7), .int (σ 8 0), .ref (ad 9), .ref (ad 10), .int (σ 11 0), .int (σ 12 0), .int (σ 13 0), .ref (ad 14), .ref (ad 15)]) (v := .int (0 : Int32)) (ty := .boolean) (C := RX4) (T := TX4) (N := 16) hC hin0 tyX4 tyX4_ok nmX4 hK hP hD hS 0 rfl rfl 12 (by decide) (hts (.fieldLink RX4 219 "MeanLocksModel" "isWrong" "Z") (List.mem_of_getElem? (i := 1) rfl)) rfl rfl rfl rfl (by decide +kernel) (Nat.le_of_ble_eq_true rfl) (by rw [es5]; exact wM_s12 _ _ _ _ _) dX4_takeSign_21 (fun H locs hP hD hS => ?_)
      refine lv_aload_n hx hb dX4_takeSign_24 rfl (lv_at hl 0 rfl) ?_
      refine lv_dup hx hb dX4_takeSign_25 rfl ?_
      refine va_get (D := (dC, dI)) (ci := 4) (v := .int (s5 11 0)) (C := RX4) (T := TX4) (N := 16) hx hb hts hin0 hown hK hP 0 rfl rfl 11 (by decide) (hts (.fieldLink RX4 216 "MeanLocksModel" "spot" "I") (List.mem_of_getElem? (i := 2) rfl)) (fun _ h9 => h9) rfl dX4_takeSign_26 ?_
      refine lv_aload_n hx hb dX4_takeSign_29 rfl (lv_at hl 0 rfl) ?_
      refine va_get (D := (dC, dI)) (ci := 4) (v := .int (s5 12 0)) (C := RX4) (T := TX4) (N := 16) hx hb hts hin0 hown hK hP 0 rfl rfl 12 (by decide) (hts (.fieldLink RX4 219 "MeanLocksModel" "isWrong" "Z") (List.mem_of_getElem? (i := 1) rfl)) (fun _ h9 => h9) rfl dX4_takeSign_30 ?_
      refine lv_if_eq (tgt := 40) hx hb dX4_takeSign_33 (by decide) (fun hc => ?_) (fun hc => ?_)
      · have h0 := it_t h0 hc
        refine lv_iconst (v := (1 : Int32)) hx hb dX4_takeSign_40 (by decide) ?_
        refine lv_iadd hx hb dX4_takeSign_41 ?_
        obtain ⟨s6, es6, h0⟩ := nm_some h0
        refine x_put (D := (dC, dI)) (ws' := wM cA h ad s6) (ci := 4) (fs := [.ref (ad 0), .ref (ad 1), .int (s5 2 0), .int (s5 3 0), .ref (ad 4), .ref (ad 5), .ref (ad 6), .ref (ad 7), .int (s5 8 0), .ref (ad 9), .ref (ad 10), .int (s5 11 0), .int (s5 12 0), .int (s5 13 0), .ref (ad 14), .ref (ad 15)]) (v := .int ((s5 11 0) + (1 : Int32))) (ty := .int) (C := RX4) (T := TX4) (N := 16) hC hin0 tyX4 tyX4_ok nmX4 hK hP hD hS 0 rfl rfl 11 (by decide) (hts (.fieldLink RX4 216 "MeanLocksModel" "spot" "I") (List.mem_of_getElem? (i := 2) rfl)) rfl rfl rfl rfl (by decide +kernel) (Nat.le_of_ble_eq_true rfl) (by rw [es6]; exact wM_s11 _ _ _ _ _) dX4_takeSign_42 (fun H locs hP hD hS => ?_)
        have e1 := Option.some.inj h0
        exact x_retV hC hr hlocks hP hD hS dX4_takeSign_45 (by rw [← e1])
      · have h0 := it_f h0 hc
        refine lv_iconst (v := (0 : Int32)) hx hb dX4_takeSign_36 (by decide) ?_
        refine lv_goto (tgt := 41) hx hb dX4_takeSign_37 (by decide) ?_
        refine lv_iadd hx hb dX4_takeSign_41 ?_
        obtain ⟨s7, es7, h0⟩ := nm_some h0
        refine x_put (D := (dC, dI)) (ws' := wM cA h ad s7) (ci := 4) (fs := [.ref (ad 0), .ref (ad 1), .int (s5 2 0), .int (s5 3 0), .ref (ad 4), .ref (ad 5), .ref (ad 6), .ref (ad 7), .int (s5 8 0), .ref (ad 9), .ref (ad 10), .int (s5 11 0), .int (s5 12 0), .int (s5 13 0), .ref (ad 14), .ref (ad 15)]) (v := .int ((s5 11 0) + (0 : Int32))) (ty := .int) (C := RX4) (T := TX4) (N := 16) hC hin0 tyX4 tyX4_ok nmX4 hK hP hD hS 0 rfl rfl 11 (by decide) (hts (.fieldLink RX4 216 "MeanLocksModel" "spot" "I") (List.mem_of_getElem? (i := 2) rfl)) rfl rfl rfl rfl (by decide +kernel) (Nat.le_of_ble_eq_true rfl) (by rw [es7]; exact wM_s11 _ _ _ _ _) dX4_takeSign_42 (fun H locs hP hD hS => ?_)
        have e1 := Option.some.inj h0
        exact x_retV hC hr hlocks hP hD hS dX4_takeSign_45 (by rw [← e1])
    · have h0 := it_f h0 hc
      refine lv_iconst (v := (1 : Int32)) hx hb dX4_takeSign_16 (by decide) ?_
      refine lv_goto (tgt := 21) hx hb dX4_takeSign_17 (by decide) ?_
      obtain ⟨s8, es8, h0⟩ := nm_some h0
      refine x_put (D := (dC, dI)) (ws' := wM cA h ad s8) (ci := 4) (fs := [.ref (ad 0), .ref (ad 1), .int (σ 2 0), .int (σ 3 0), .ref (ad 4), .ref (ad 5), .ref (ad 6), .ref (ad 7), .int (σ 8 0), .ref (ad 9), .ref (ad 10), .int (σ 11 0), .int (σ 12 0), .int (σ 13 0), .ref (ad 14), .ref (ad 15)]) (v := .int (1 : Int32)) (ty := .boolean) (C := RX4) (T := TX4) (N := 16) hC hin0 tyX4 tyX4_ok nmX4 hK hP hD hS 0 rfl rfl 12 (by decide) (hts (.fieldLink RX4 219 "MeanLocksModel" "isWrong" "Z") (List.mem_of_getElem? (i := 1) rfl)) rfl rfl rfl rfl (by decide +kernel) (Nat.le_of_ble_eq_true rfl) (by rw [es8]; exact wM_s12 _ _ _ _ _) dX4_takeSign_21 (fun H locs hP hD hS => ?_)
      refine lv_aload_n hx hb dX4_takeSign_24 rfl (lv_at hl 0 rfl) ?_
      refine lv_dup hx hb dX4_takeSign_25 rfl ?_
      refine va_get (D := (dC, dI)) (ci := 4) (v := .int (s8 11 0)) (C := RX4) (T := TX4) (N := 16) hx hb hts hin0 hown hK hP 0 rfl rfl 11 (by decide) (hts (.fieldLink RX4 216 "MeanLocksModel" "spot" "I") (List.mem_of_getElem? (i := 2) rfl)) (fun _ h9 => h9) rfl dX4_takeSign_26 ?_
      refine lv_aload_n hx hb dX4_takeSign_29 rfl (lv_at hl 0 rfl) ?_
      refine va_get (D := (dC, dI)) (ci := 4) (v := .int (s8 12 0)) (C := RX4) (T := TX4) (N := 16) hx hb hts hin0 hown hK hP 0 rfl rfl 12 (by decide) (hts (.fieldLink RX4 219 "MeanLocksModel" "isWrong" "Z") (List.mem_of_getElem? (i := 1) rfl)) (fun _ h9 => h9) rfl dX4_takeSign_30 ?_
      refine lv_if_eq (tgt := 40) hx hb dX4_takeSign_33 (by decide) (fun hc => ?_) (fun hc => ?_)
      · have h0 := it_t h0 hc
        refine lv_iconst (v := (1 : Int32)) hx hb dX4_takeSign_40 (by decide) ?_
        refine lv_iadd hx hb dX4_takeSign_41 ?_
        obtain ⟨s9, es9, h0⟩ := nm_some h0
        refine x_put (D := (dC, dI)) (ws' := wM cA h ad s9) (ci := 4) (fs := [.ref (ad 0), .ref (ad 1), .int (s8 2 0), .int (s8 3 0), .ref (ad 4), .ref (ad 5), .ref (ad 6), .ref (ad 7), .int (s8 8 0), .ref (ad 9), .ref (ad 10), .int (s8 11 0), .int (s8 12 0), .int (s8 13 0), .ref (ad 14), .ref (ad 15)]) (v := .int ((s8 11 0) + (1 : Int32))) (ty := .int) (C := RX4) (T := TX4) (N := 16) hC hin0 tyX4 tyX4_ok nmX4 hK hP hD hS 0 rfl rfl 11 (by decide) (hts (.fieldLink RX4 216 "MeanLocksModel" "spot" "I") (List.mem_of_getElem? (i := 2) rfl)) rfl rfl rfl rfl (by decide +kernel) (Nat.le_of_ble_eq_true rfl) (by rw [es9]; exact wM_s11 _ _ _ _ _) dX4_takeSign_42 (fun H locs hP hD hS => ?_)
        have e1 := Option.some.inj h0
        exact x_retV hC hr hlocks hP hD hS dX4_takeSign_45 (by rw [← e1])
      · have h0 := it_f h0 hc
        refine lv_iconst (v := (0 : Int32)) hx hb dX4_takeSign_36 (by decide) ?_
        refine lv_goto (tgt := 41) hx hb dX4_takeSign_37 (by decide) ?_
        refine lv_iadd hx hb dX4_takeSign_41 ?_
        obtain ⟨s10, es10, h0⟩ := nm_some h0
        refine x_put (D := (dC, dI)) (ws' := wM cA h ad s10) (ci := 4) (fs := [.ref (ad 0), .ref (ad 1), .int (s8 2 0), .int (s8 3 0), .ref (ad 4), .ref (ad 5), .ref (ad 6), .ref (ad 7), .int (s8 8 0), .ref (ad 9), .ref (ad 10), .int (s8 11 0), .int (s8 12 0), .int (s8 13 0), .ref (ad 14), .ref (ad 15)]) (v := .int ((s8 11 0) + (0 : Int32))) (ty := .int) (C := RX4) (T := TX4) (N := 16) hC hin0 tyX4 tyX4_ok nmX4 hK hP hD hS 0 rfl rfl 11 (by decide) (hts (.fieldLink RX4 216 "MeanLocksModel" "spot" "I") (List.mem_of_getElem? (i := 2) rfl)) rfl rfl rfl rfl (by decide +kernel) (Nat.le_of_ble_eq_true rfl) (by rw [es10]; exact wM_s11 _ _ _ _ _) dX4_takeSign_42 (fun H locs hP hD hS => ?_)
        have e1 := Option.some.inj h0
        exact x_retV hC hr hlocks hP hD hS dX4_takeSign_45 (by rw [← e1])
def bX4_takeNumber_38 (v3 : Int32) (x4 : Int32) (s5 : St) : Option ((Int32 × St) ⊕ (Int32 × St)) := if (x4 : Int32) = (0 : Int32) then (some (.inr (x4, s5))) else (bnd (fX4_next  s5) fun r6 => bnd (fX4_in r6 (48 : Int32) (57 : Int32)) fun r7 => if (r7 : Int32) = (0 : Int32) then (some (.inr (x4, s5))) else (ax v3 116 (bnd (fX4_next  s5) fun r8 => nm ((((10 : Int32) * (s5 15 (v3 : Int32).toNatClampNeg)) + r8) - (48 : Int32)) fun v9 => if (v9 : Int32) ≤ (300 : Int32) then (ax v3 116 (nm (put s5 15 (upd (s5 15) (v3 : Int32).toNatClampNeg (v9))) fun s10 => nm (put s10 11 (fun _ => (s10 11 0) + (1 : Int32))) fun s11 => some (.inl (x4, s11)))) else (nm (put s5 12 (fun _ => (1 : Int32))) fun s12 => some (.inl ((0 : Int32), s12))))))
def bX4_takeNumber_38_2 (v3 : Int32) (x15 : Int32) (s16 : St) : Option ((Int32 × St) ⊕ (Int32 × St)) := if (x15 : Int32) = (0 : Int32) then (some (.inr (x15, s16))) else (bnd (fX4_next  s16) fun r17 => bnd (fX4_in r17 (48 : Int32) (57 : Int32)) fun r18 => if (r18 : Int32) = (0 : Int32) then (some (.inr (x15, s16))) else (ax v3 116 (bnd (fX4_next  s16) fun r19 => nm ((((10 : Int32) * (s16 15 (v3 : Int32).toNatClampNeg)) + r19) - (48 : Int32)) fun v20 => if (v20 : Int32) ≤ (300 : Int32) then (ax v3 116 (nm (put s16 15 (upd (s16 15) (v3 : Int32).toNatClampNeg (v20))) fun s21 => nm (put s21 11 (fun _ => (s21 11 0) + (1 : Int32))) fun s22 => some (.inl (x15, s22)))) else (nm (put s16 12 (fun _ => (1 : Int32))) fun s23 => some (.inl ((0 : Int32), s23))))))
def bX4_takeNumber_38_3 (v3 : Int32) (x26 : Int32) (s27 : St) : Option ((Int32 × St) ⊕ (Int32 × St)) := if (x26 : Int32) = (0 : Int32) then (some (.inr (x26, s27))) else (bnd (fX4_next  s27) fun r28 => bnd (fX4_in r28 (48 : Int32) (57 : Int32)) fun r29 => if (r29 : Int32) = (0 : Int32) then (some (.inr (x26, s27))) else (ax v3 116 (bnd (fX4_next  s27) fun r30 => nm ((((10 : Int32) * (s27 15 (v3 : Int32).toNatClampNeg)) + r30) - (48 : Int32)) fun v31 => if (v31 : Int32) ≤ (300 : Int32) then (ax v3 116 (nm (put s27 15 (upd (s27 15) (v3 : Int32).toNatClampNeg (v31))) fun s32 => nm (put s32 11 (fun _ => (s32 11 0) + (1 : Int32))) fun s33 => some (.inl (x26, s33)))) else (nm (put s27 12 (fun _ => (1 : Int32))) fun s34 => some (.inl ((0 : Int32), s34))))))
def fX4_takeNumber (a1 : Int32) (σ : St) : Option St := bnd (fX4_takeOne a1 (57 : Int32) σ) fun s2 => nm (((4 : Int32) * (s2 13 0)) + a1) fun v3 => if ((s2 12 0) : Int32) = (0 : Int32) then (ax v3 116 (if ((s2 15 (v3 : Int32).toNatClampNeg) : Int32) ≤ (0 : Int32) then (bnd (lp (fun t : (Int32 × St) => bX4_takeNumber_38_2 v3 t.1 t.2) FU ((0 : Int32), s2)) (fun e : (Int32 × St) => nm e.1 fun x24 => nm e.2 fun s25 => some s25)) else (bnd (lp (fun t : (Int32 × St) => bX4_takeNumber_38_3 v3 t.1 t.2) FU ((1 : Int32), s2)) (fun e : (Int32 × St) => nm e.1 fun x35 => nm e.2 fun s36 => some s36)))) else (bnd (lp (fun t : (Int32 × St) => bX4_takeNumber_38 v3 t.1 t.2) FU ((0 : Int32), s2)) (fun e : (Int32 × St) => nm e.1 fun x13 => nm e.2 fun s14 => some s14))
abbrev rmX4_takeNumber : Room := { frames := 2, cells := 0, slots := 0, locals := 44 }
set_option maxHeartbeats 4000000 in
set_option maxRecDepth 100000 in
theorem kX4_takeNumber (l : Launch) (dC : Nat → ClassId) (dI : Nat → Nat → Nat) (cA : Nat → ClassId) (h : Nat) (ad : Nat → Nat) (a1 : Int32) (σ : St) (σ' : St) (h0 : fX4_takeNumber a1 σ = some σ') : CV l yX4_takeNumber wsX4_takeNumber rmX4_takeNumber (dC, dI) vwCl (tysW cA) [.ref h, .int a1] (wM cA h ad σ) (wM cA h ad σ') := by
  refine CGV_of (cc := cX4_takeNumber) (nL := 5) (ret := none) (by decide) rfl (Nat.le_of_ble_eq_true rfl) ?_
  intro p e s m av below meth c A ls H locs hC hl
  obtain ⟨hC, hr, hlocks, hV, hN, hK, hP, hD, hS, hA⟩ := hC
  have hC : CallFix p m c cX4_takeNumber 5 s _ wsX4_takeNumber RX4 := hC
  obtain ⟨hx, hb, hml, hown, hts⟩ := id hC
  have hin0 : ∀ w ∈ u_ws RX4 TX4 16, w ∈ wsX4_takeNumber := fun _ h => (List.mem_cons_of_mem _ (List.mem_append_right _ h))
  have hl : lv_has ls 5 [(0, .ref h), (1, .int a1)] := hl
  unfold fX4_takeNumber at h0
  refine lv_aload_n hx hb dX4_takeNumber_0 rfl (lv_at hl 0 rfl) ?_
  refine lv_iload_n hx hb dX4_takeNumber_1 rfl (lv_at hl 1 rfl) ?_
  refine lv_bipush (v := (57 : Int32)) hx hb dX4_takeNumber_2 (by decide) ?_
  obtain ⟨s2, hf1, h0⟩ := bnd_some h0
  refine x_VV (As := [.int a1, .int (57 : Int32)]) (rest := []) hC (kX4_takeOne l dC dI cA h ad a1 (57 : Int32) σ s2 hf1) (cwV 2 hts gX4_takeNumber_X4_takeOne rfl rfl rfl (by decide +kernel) ⟨Nat.le_of_ble_eq_true rfl, Nat.le_of_ble_eq_true rfl⟩) 0 4 hV hN hK hP hD hS hA rfl rfl rfl rfl hl.1 rfl (Nat.le_of_ble_eq_true rfl) ⟨Nat.zero_le _, Nat.zero_le _⟩ dX4_takeNumber_4 (fun H locs hP hD hS => ?_)
  refine lv_iconst (v := (4 : Int32)) hx hb dX4_takeNumber_7 (by decide) ?_
  refine lv_aload_n hx hb dX4_takeNumber_8 rfl (lv_at hl 0 rfl) ?_
  refine va_get (D := (dC, dI)) (ci := 4) (v := .int (s2 13 0)) (C := RX4) (T := TX4) (N := 16) hx hb hts hin0 hown hK hP 0 rfl rfl 13 (by decide) (hts (.fieldLink RX4 226 "MeanLocksModel" "orders" "I") (List.mem_of_getElem? (i := 1) rfl)) (fun _ h9 => h9) rfl dX4_takeNumber_9 ?_
  refine lv_imul hx hb dX4_takeNumber_12 ?_
  refine lv_iload_n hx hb dX4_takeNumber_13 rfl (lv_at hl 1 rfl) ?_
  refine lv_iadd hx hb dX4_takeNumber_14 ?_
  refine lv_topi (fun v3 ev3 => ?_)
  have h0 := nm_at ev3 h0
  refine lv_istore_n (lv' := [(2, .int v3), (0, .ref h), (1, .int a1)]) hx hb dX4_takeNumber_15 rfl hl (by decide) rfl (fun ls hl => ?_)
  refine lv_aload_n hx hb dX4_takeNumber_16 rfl (lv_at hl 1 rfl) ?_
  refine va_get (D := (dC, dI)) (ci := 4) (v := .int (s2 12 0)) (C := RX4) (T := TX4) (N := 16) hx hb hts hin0 hown hK hP 0 rfl rfl 12 (by decide) (hts (.fieldLink RX4 219 "MeanLocksModel" "isWrong" "Z") (List.mem_of_getElem? (i := 2) rfl)) (fun _ h9 => h9) rfl dX4_takeNumber_17 ?_
  refine lv_if_ne (tgt := 36) hx hb dX4_takeNumber_20 (by decide) (fun hc => ?_) (fun hc => ?_)
  · have h0 := it_f h0 hc
    refine lv_iconst (v := (0 : Int32)) hx hb dX4_takeNumber_36 (by decide) ?_
    refine lv_istore_n (lv' := [(3, .int (0 : Int32)), (2, .int v3), (0, .ref h), (1, .int a1)]) hx hb dX4_takeNumber_37 rfl hl (by decide) rfl (fun ls hl => ?_)
    obtain ⟨ε2, hl2, h0⟩ := bnd_some h0
    have KN2 : ∀ (x13 : Int32) (s14 : St), ε2 = (x13, s14) → ∀ (H : Heap) (locs : List Loc), va_P (dC, dI) vwCl (wM cA h ad s14) H → va_D A (wM cA h ad s14) → va_S A s.heap H locs → ∀ (ls : Array Slot), lv_has ls 5 [(3, .int x13), (2, .int v3), (0, .ref h), (1, .int a1)] → W p l e (headSpec wsX4_takeNumber rmX4_takeNumber).room s m av below meth c H locs 0 0 (MQ below (qV (dC, dI) A (wM cA h ad σ')) av s 0 0 A) (F0 m 114 ls []) := by
      intro x13 s14 hε H locs hP hD hS ls hl
      rw [hε] at h0
      have h0 := nm_at (z := x13) rfl h0
      have h0 := nm_at (z := s14) rfl h0
      have e1 := Option.some.inj h0
      exact x_retV hC hr hlocks hP hD hS dX4_takeNumber_114 (by rw [← e1])
    have LP2 : ∀ (n : Nat) (x4 : Int32) (s5 : St), lp (fun t : (Int32 × St) => bX4_takeNumber_38 v3 t.1 t.2) n (x4, s5) = some ε2 → ∀ (H : Heap) (locs : List Loc), va_P (dC, dI) vwCl (wM cA h ad s5) H → va_D A (wM cA h ad s5) → va_S A s.heap H locs → ∀ (ls : Array Slot), lv_has ls 5 [(3, .int x4), (2, .int v3), (0, .ref h), (1, .int a1)] → W p l e (headSpec wsX4_takeNumber rmX4_takeNumber).room s m av below meth c H locs 0 0 (MQ below (qV (dC, dI) A (wM cA h ad σ')) av s 0 0 A) (F0 m 38 ls []) := by
      intro n
      induction n with
      | zero => intro x4 s5 hl0; exact (lp_0 hl0).elim
      | succ n ih2 =>
        intro x4 s5 hl0 H locs hP hD hS ls hl
        obtain ⟨z2, h1, hz2⟩ := lp_s hl0
        have h1 : bX4_takeNumber_38 v3 x4 s5 = some z2 := h1
        unfold bX4_takeNumber_38 at h1
        refine lv_iload_n hx hb dX4_takeNumber_38 rfl (lv_at hl 0 rfl) ?_
        refine lv_if_eq (tgt := 114) hx hb dX4_takeNumber_39 (by decide) (fun hc => ?_) (fun hc => ?_)
        · have h1 := it_t h1 hc
          have he := lp_r h1 hz2
          exact KN2 x4 s5 he _ _ hP hD hS ls (lv_sub hl [0, 1, 2, 3] rfl)
        · have h1 := it_f h1 hc
          refine lv_aload_n hx hb dX4_takeNumber_42 rfl (lv_at hl 2 rfl) ?_
          obtain ⟨r6, hf3, h1⟩ := bnd_some h1
          refine x_VI (As := []) (rest := []) hC (kX4_next l dC dI cA h ad s5 r6  hf3) (cwV 0 hts gX4_takeNumber_X4_next rfl rfl rfl (by decide +kernel) ⟨Nat.le_of_ble_eq_true rfl, Nat.le_of_ble_eq_true rfl⟩) 0 4 hV hN hK hP hD hS hA rfl rfl rfl rfl hl.1 rfl (Nat.le_of_ble_eq_true rfl) ⟨Nat.zero_le _, Nat.zero_le _⟩ dX4_takeNumber_43 (fun H locs hP hD hS => ?_)
          refine lv_bipush (v := (48 : Int32)) hx hb dX4_takeNumber_46 (by decide) ?_
          refine lv_bipush (v := (57 : Int32)) hx hb dX4_takeNumber_48 (by decide) ?_
          obtain ⟨r7, hf4, h1⟩ := bnd_some h1
          refine x_SI (As := [.int r6, .int (48 : Int32), .int (57 : Int32)]) (rest := []) hC (kX4_in l dC dI cA r6 (48 : Int32) (57 : Int32) r7 hf4) (cwS 3 hts gX4_takeNumber_X4_in rfl rfl rfl (by decide +kernel) ⟨Nat.le_of_ble_eq_true rfl, Nat.le_of_ble_eq_true rfl⟩) hV hN hK hP hD hS hA rfl hl.1 rfl (Nat.le_of_ble_eq_true rfl) ⟨Nat.zero_le _, Nat.zero_le _⟩ dX4_takeNumber_50 (fun H locs hP hD hS => ?_)
          refine lv_if_eq (tgt := 114) hx hb dX4_takeNumber_53 (by decide) (fun hc => ?_) (fun hc => ?_)
          · have h1 := it_t h1 hc
            have he := lp_r h1 hz2
            exact KN2 x4 s5 he _ _ hP hD hS ls (lv_sub hl [0, 1, 2, 3] rfl)
          · have h1 := it_f h1 hc
            refine lv_bipush (v := (10 : Int32)) hx hb dX4_takeNumber_56 (by decide) ?_
            refine lv_aload_n hx hb dX4_takeNumber_58 rfl (lv_at hl 2 rfl) ?_
            refine va_get (D := (dC, dI)) (ci := 4) (v := .ref (ad 15)) (C := RX4) (T := TX4) (N := 16) hx hb hts hin0 hown hK hP 0 rfl rfl 15 (by decide) (hts (.fieldLink RX4 38 "MeanLocksModel" "numbers" "[I") (List.mem_of_getElem? (i := 3) rfl)) (fun _ h9 => h9) rfl dX4_takeNumber_59 ?_
            refine lv_iload_n hx hb dX4_takeNumber_62 rfl (lv_at hl 1 rfl) ?_
            obtain ⟨hi, h1⟩ := ax_some h1
            refine va_iald hx hb hK hP 10 0 rfl rfl hi dX4_takeNumber_63 ?_
            refine lv_imul hx hb dX4_takeNumber_64 ?_
            refine lv_aload_n hx hb dX4_takeNumber_65 rfl (lv_at hl 2 rfl) ?_
            obtain ⟨r8, hf5, h1⟩ := bnd_some h1
            refine x_VI (As := []) (rest := [.int ((10 : Int32) * (s5 15 (v3 : Int32).toNatClampNeg))]) hC (kX4_next l dC dI cA h ad s5 r8  hf5) (cwV 0 hts gX4_takeNumber_X4_next rfl rfl rfl (by decide +kernel) ⟨Nat.le_of_ble_eq_true rfl, Nat.le_of_ble_eq_true rfl⟩) 0 4 hV hN hK hP hD hS hA rfl rfl rfl rfl hl.1 rfl (Nat.le_of_ble_eq_true rfl) ⟨Nat.zero_le _, Nat.zero_le _⟩ dX4_takeNumber_66 (fun H locs hP hD hS => ?_)
            refine lv_iadd hx hb dX4_takeNumber_69 ?_
            refine lv_bipush (v := (48 : Int32)) hx hb dX4_takeNumber_70 (by decide) ?_
            refine lv_isub hx hb dX4_takeNumber_72 ?_
            refine lv_topi (fun v9 ev9 => ?_)
            have h1 := nm_at ev9 h1
            refine lv_istore (lv' := [(4, .int v9), (3, .int x4), (2, .int v3), (0, .ref h), (1, .int a1)]) hx hb dX4_takeNumber_73 hl (by decide) rfl (fun ls hl => ?_)
            refine lv_iload hx hb dX4_takeNumber_75 (lv_at hl 0 rfl) ?_
            refine lv_sipush (v := (300 : Int32)) hx hb dX4_takeNumber_77 (by decide) ?_
            refine lv_icmp_le (tgt := 93) hx hb dX4_takeNumber_80 (by decide) (fun hc => ?_) (fun hc => ?_)
            · have h1 := it_t h1 hc
              refine lv_aload_n hx hb dX4_takeNumber_93 rfl (lv_at hl 3 rfl) ?_
              refine va_get (D := (dC, dI)) (ci := 4) (v := .ref (ad 15)) (C := RX4) (T := TX4) (N := 16) hx hb hts hin0 hown hK hP 0 rfl rfl 15 (by decide) (hts (.fieldLink RX4 38 "MeanLocksModel" "numbers" "[I") (List.mem_of_getElem? (i := 3) rfl)) (fun _ h9 => h9) rfl dX4_takeNumber_94 ?_
              refine lv_iload_n hx hb dX4_takeNumber_97 rfl (lv_at hl 2 rfl) ?_
              refine lv_iload hx hb dX4_takeNumber_98 (lv_at hl 0 rfl) ?_
              obtain ⟨hi, h1⟩ := ax_some h1
              obtain ⟨s10, es10, h1⟩ := nm_some h1
              refine x_iast (ws' := wM cA h ad s10) hC hK hP hD hS 10 0 rfl rfl (by rw [es10]; exact wM_s15 _ _ _ _ _) hi dX4_takeNumber_100 (fun H locs hP hD hS => ?_)
              refine lv_aload_n hx hb dX4_takeNumber_101 rfl (lv_at hl 3 rfl) ?_
              refine lv_dup hx hb dX4_takeNumber_102 rfl ?_
              refine va_get (D := (dC, dI)) (ci := 4) (v := .int (s10 11 0)) (C := RX4) (T := TX4) (N := 16) hx hb hts hin0 hown hK hP 0 rfl rfl 11 (by decide) (hts (.fieldLink RX4 216 "MeanLocksModel" "spot" "I") (List.mem_of_getElem? (i := 4) rfl)) (fun _ h9 => h9) rfl dX4_takeNumber_103 ?_
              refine lv_iconst (v := (1 : Int32)) hx hb dX4_takeNumber_106 (by decide) ?_
              refine lv_iadd hx hb dX4_takeNumber_107 ?_
              obtain ⟨s11, es11, h1⟩ := nm_some h1
              refine x_put (D := (dC, dI)) (ws' := wM cA h ad s11) (ci := 4) (fs := [.ref (ad 0), .ref (ad 1), .int (s10 2 0), .int (s10 3 0), .ref (ad 4), .ref (ad 5), .ref (ad 6), .ref (ad 7), .int (s10 8 0), .ref (ad 9), .ref (ad 10), .int (s10 11 0), .int (s10 12 0), .int (s10 13 0), .ref (ad 14), .ref (ad 15)]) (v := .int ((s10 11 0) + (1 : Int32))) (ty := .int) (C := RX4) (T := TX4) (N := 16) hC hin0 tyX4 tyX4_ok nmX4 hK hP hD hS 0 rfl rfl 11 (by decide) (hts (.fieldLink RX4 216 "MeanLocksModel" "spot" "I") (List.mem_of_getElem? (i := 4) rfl)) rfl rfl rfl rfl (by decide +kernel) (Nat.le_of_ble_eq_true rfl) (by rw [es11]; exact wM_s11 _ _ _ _ _) dX4_takeNumber_108 (fun H locs hP hD hS => ?_)
              refine lv_goto (tgt := 38) hx hb dX4_takeNumber_111 (by decide) ?_
              have hc := lp_l h1 hz2
              exact ih2 x4 s11 hc _ _ hP hD hS ls (lv_sub hl [1, 2, 3, 4] rfl)
            · have h1 := it_f h1 hc
              refine lv_aload_n hx hb dX4_takeNumber_83 rfl (lv_at hl 3 rfl) ?_
              refine lv_iconst (v := (1 : Int32)) hx hb dX4_takeNumber_84 (by decide) ?_
              obtain ⟨s12, es12, h1⟩ := nm_some h1
              refine x_put (D := (dC, dI)) (ws' := wM cA h ad s12) (ci := 4) (fs := [.ref (ad 0), .ref (ad 1), .int (s5 2 0), .int (s5 3 0), .ref (ad 4), .ref (ad 5), .ref (ad 6), .ref (ad 7), .int (s5 8 0), .ref (ad 9), .ref (ad 10), .int (s5 11 0), .int (s5 12 0), .int (s5 13 0), .ref (ad 14), .ref (ad 15)]) (v := .int (1 : Int32)) (ty := .boolean) (C := RX4) (T := TX4) (N := 16) hC hin0 tyX4 tyX4_ok nmX4 hK hP hD hS 0 rfl rfl 12 (by decide) (hts (.fieldLink RX4 219 "MeanLocksModel" "isWrong" "Z") (List.mem_of_getElem? (i := 2) rfl)) rfl rfl rfl rfl (by decide +kernel) (Nat.le_of_ble_eq_true rfl) (by rw [es12]; exact wM_s12 _ _ _ _ _) dX4_takeNumber_85 (fun H locs hP hD hS => ?_)
              refine lv_iconst (v := (0 : Int32)) hx hb dX4_takeNumber_88 (by decide) ?_
              refine lv_istore_n (lv' := [(3, .int (0 : Int32)), (4, .int v9), (2, .int v3), (0, .ref h), (1, .int a1)]) hx hb dX4_takeNumber_89 rfl hl (by decide) rfl (fun ls hl => ?_)
              refine lv_goto (tgt := 111) hx hb dX4_takeNumber_90 (by decide) ?_
              refine lv_goto (tgt := 38) hx hb dX4_takeNumber_111 (by decide) ?_
              have hc := lp_l h1 hz2
              exact ih2 (0 : Int32) s12 hc _ _ hP hD hS ls (lv_sub hl [0, 2, 3, 4] rfl)
    exact LP2 FU (0 : Int32) s2 hl2 _ _ hP hD hS ls hl
  · have h0 := it_t h0 hc
    refine lv_aload_n hx hb dX4_takeNumber_23 rfl (lv_at hl 1 rfl) ?_
    refine va_get (D := (dC, dI)) (ci := 4) (v := .ref (ad 15)) (C := RX4) (T := TX4) (N := 16) hx hb hts hin0 hown hK hP 0 rfl rfl 15 (by decide) (hts (.fieldLink RX4 38 "MeanLocksModel" "numbers" "[I") (List.mem_of_getElem? (i := 3) rfl)) (fun _ h9 => h9) rfl dX4_takeNumber_24 ?_
    refine lv_iload_n hx hb dX4_takeNumber_27 rfl (lv_at hl 0 rfl) ?_
    obtain ⟨hi, h0⟩ := ax_some h0
    refine va_iald hx hb hK hP 10 0 rfl rfl hi dX4_takeNumber_28 ?_
    refine lv_if_le (tgt := 36) hx hb dX4_takeNumber_29 (by decide) (fun hc => ?_) (fun hc => ?_)
    · have h0 := it_t h0 hc
      refine lv_iconst (v := (0 : Int32)) hx hb dX4_takeNumber_36 (by decide) ?_
      refine lv_istore_n (lv' := [(3, .int (0 : Int32)), (2, .int v3), (0, .ref h), (1, .int a1)]) hx hb dX4_takeNumber_37 rfl hl (by decide) rfl (fun ls hl => ?_)
      obtain ⟨ε6, hl6, h0⟩ := bnd_some h0
      have KN6 : ∀ (x24 : Int32) (s25 : St), ε6 = (x24, s25) → ∀ (H : Heap) (locs : List Loc), va_P (dC, dI) vwCl (wM cA h ad s25) H → va_D A (wM cA h ad s25) → va_S A s.heap H locs → ∀ (ls : Array Slot), lv_has ls 5 [(3, .int x24), (2, .int v3), (0, .ref h), (1, .int a1)] → W p l e (headSpec wsX4_takeNumber rmX4_takeNumber).room s m av below meth c H locs 0 0 (MQ below (qV (dC, dI) A (wM cA h ad σ')) av s 0 0 A) (F0 m 114 ls []) := by
        intro x24 s25 hε H locs hP hD hS ls hl
        rw [hε] at h0
        have h0 := nm_at (z := x24) rfl h0
        have h0 := nm_at (z := s25) rfl h0
        have e1 := Option.some.inj h0
        exact x_retV hC hr hlocks hP hD hS dX4_takeNumber_114 (by rw [← e1])
      have LP6 : ∀ (n : Nat) (x15 : Int32) (s16 : St), lp (fun t : (Int32 × St) => bX4_takeNumber_38_2 v3 t.1 t.2) n (x15, s16) = some ε6 → ∀ (H : Heap) (locs : List Loc), va_P (dC, dI) vwCl (wM cA h ad s16) H → va_D A (wM cA h ad s16) → va_S A s.heap H locs → ∀ (ls : Array Slot), lv_has ls 5 [(3, .int x15), (2, .int v3), (0, .ref h), (1, .int a1)] → W p l e (headSpec wsX4_takeNumber rmX4_takeNumber).room s m av below meth c H locs 0 0 (MQ below (qV (dC, dI) A (wM cA h ad σ')) av s 0 0 A) (F0 m 38 ls []) := by
        intro n
        induction n with
        | zero => intro x15 s16 hl0; exact (lp_0 hl0).elim
        | succ n ih6 =>
          intro x15 s16 hl0 H locs hP hD hS ls hl
          obtain ⟨z6, h1, hz6⟩ := lp_s hl0
          have h1 : bX4_takeNumber_38_2 v3 x15 s16 = some z6 := h1
          unfold bX4_takeNumber_38_2 at h1
          refine lv_iload_n hx hb dX4_takeNumber_38 rfl (lv_at hl 0 rfl) ?_
          refine lv_if_eq (tgt := 114) hx hb dX4_takeNumber_39 (by decide) (fun hc => ?_) (fun hc => ?_)
          · have h1 := it_t h1 hc
            have he := lp_r h1 hz6
            exact KN6 x15 s16 he _ _ hP hD hS ls (lv_sub hl [0, 1, 2, 3] rfl)
          · have h1 := it_f h1 hc
            refine lv_aload_n hx hb dX4_takeNumber_42 rfl (lv_at hl 2 rfl) ?_
            obtain ⟨r17, hf7, h1⟩ := bnd_some h1
            refine x_VI (As := []) (rest := []) hC (kX4_next l dC dI cA h ad s16 r17  hf7) (cwV 0 hts gX4_takeNumber_X4_next rfl rfl rfl (by decide +kernel) ⟨Nat.le_of_ble_eq_true rfl, Nat.le_of_ble_eq_true rfl⟩) 0 4 hV hN hK hP hD hS hA rfl rfl rfl rfl hl.1 rfl (Nat.le_of_ble_eq_true rfl) ⟨Nat.zero_le _, Nat.zero_le _⟩ dX4_takeNumber_43 (fun H locs hP hD hS => ?_)
            refine lv_bipush (v := (48 : Int32)) hx hb dX4_takeNumber_46 (by decide) ?_
            refine lv_bipush (v := (57 : Int32)) hx hb dX4_takeNumber_48 (by decide) ?_
            obtain ⟨r18, hf8, h1⟩ := bnd_some h1
            refine x_SI (As := [.int r17, .int (48 : Int32), .int (57 : Int32)]) (rest := []) hC (kX4_in l dC dI cA r17 (48 : Int32) (57 : Int32) r18 hf8) (cwS 3 hts gX4_takeNumber_X4_in rfl rfl rfl (by decide +kernel) ⟨Nat.le_of_ble_eq_true rfl, Nat.le_of_ble_eq_true rfl⟩) hV hN hK hP hD hS hA rfl hl.1 rfl (Nat.le_of_ble_eq_true rfl) ⟨Nat.zero_le _, Nat.zero_le _⟩ dX4_takeNumber_50 (fun H locs hP hD hS => ?_)
            refine lv_if_eq (tgt := 114) hx hb dX4_takeNumber_53 (by decide) (fun hc => ?_) (fun hc => ?_)
            · have h1 := it_t h1 hc
              have he := lp_r h1 hz6
              exact KN6 x15 s16 he _ _ hP hD hS ls (lv_sub hl [0, 1, 2, 3] rfl)
            · have h1 := it_f h1 hc
              refine lv_bipush (v := (10 : Int32)) hx hb dX4_takeNumber_56 (by decide) ?_
              refine lv_aload_n hx hb dX4_takeNumber_58 rfl (lv_at hl 2 rfl) ?_
              refine va_get (D := (dC, dI)) (ci := 4) (v := .ref (ad 15)) (C := RX4) (T := TX4) (N := 16) hx hb hts hin0 hown hK hP 0 rfl rfl 15 (by decide) (hts (.fieldLink RX4 38 "MeanLocksModel" "numbers" "[I") (List.mem_of_getElem? (i := 3) rfl)) (fun _ h9 => h9) rfl dX4_takeNumber_59 ?_
              refine lv_iload_n hx hb dX4_takeNumber_62 rfl (lv_at hl 1 rfl) ?_
              obtain ⟨hi, h1⟩ := ax_some h1
              refine va_iald hx hb hK hP 10 0 rfl rfl hi dX4_takeNumber_63 ?_
              refine lv_imul hx hb dX4_takeNumber_64 ?_
              refine lv_aload_n hx hb dX4_takeNumber_65 rfl (lv_at hl 2 rfl) ?_
              obtain ⟨r19, hf9, h1⟩ := bnd_some h1
              refine x_VI (As := []) (rest := [.int ((10 : Int32) * (s16 15 (v3 : Int32).toNatClampNeg))]) hC (kX4_next l dC dI cA h ad s16 r19  hf9) (cwV 0 hts gX4_takeNumber_X4_next rfl rfl rfl (by decide +kernel) ⟨Nat.le_of_ble_eq_true rfl, Nat.le_of_ble_eq_true rfl⟩) 0 4 hV hN hK hP hD hS hA rfl rfl rfl rfl hl.1 rfl (Nat.le_of_ble_eq_true rfl) ⟨Nat.zero_le _, Nat.zero_le _⟩ dX4_takeNumber_66 (fun H locs hP hD hS => ?_)
              refine lv_iadd hx hb dX4_takeNumber_69 ?_
              refine lv_bipush (v := (48 : Int32)) hx hb dX4_takeNumber_70 (by decide) ?_
              refine lv_isub hx hb dX4_takeNumber_72 ?_
              refine lv_topi (fun v20 ev20 => ?_)
              have h1 := nm_at ev20 h1
              refine lv_istore (lv' := [(4, .int v20), (3, .int x15), (2, .int v3), (0, .ref h), (1, .int a1)]) hx hb dX4_takeNumber_73 hl (by decide) rfl (fun ls hl => ?_)
              refine lv_iload hx hb dX4_takeNumber_75 (lv_at hl 0 rfl) ?_
              refine lv_sipush (v := (300 : Int32)) hx hb dX4_takeNumber_77 (by decide) ?_
              refine lv_icmp_le (tgt := 93) hx hb dX4_takeNumber_80 (by decide) (fun hc => ?_) (fun hc => ?_)
              · have h1 := it_t h1 hc
                refine lv_aload_n hx hb dX4_takeNumber_93 rfl (lv_at hl 3 rfl) ?_
                refine va_get (D := (dC, dI)) (ci := 4) (v := .ref (ad 15)) (C := RX4) (T := TX4) (N := 16) hx hb hts hin0 hown hK hP 0 rfl rfl 15 (by decide) (hts (.fieldLink RX4 38 "MeanLocksModel" "numbers" "[I") (List.mem_of_getElem? (i := 3) rfl)) (fun _ h9 => h9) rfl dX4_takeNumber_94 ?_
                refine lv_iload_n hx hb dX4_takeNumber_97 rfl (lv_at hl 2 rfl) ?_
                refine lv_iload hx hb dX4_takeNumber_98 (lv_at hl 0 rfl) ?_
                obtain ⟨hi, h1⟩ := ax_some h1
                obtain ⟨s21, es21, h1⟩ := nm_some h1
                refine x_iast (ws' := wM cA h ad s21) hC hK hP hD hS 10 0 rfl rfl (by rw [es21]; exact wM_s15 _ _ _ _ _) hi dX4_takeNumber_100 (fun H locs hP hD hS => ?_)
                refine lv_aload_n hx hb dX4_takeNumber_101 rfl (lv_at hl 3 rfl) ?_
                refine lv_dup hx hb dX4_takeNumber_102 rfl ?_
                refine va_get (D := (dC, dI)) (ci := 4) (v := .int (s21 11 0)) (C := RX4) (T := TX4) (N := 16) hx hb hts hin0 hown hK hP 0 rfl rfl 11 (by decide) (hts (.fieldLink RX4 216 "MeanLocksModel" "spot" "I") (List.mem_of_getElem? (i := 4) rfl)) (fun _ h9 => h9) rfl dX4_takeNumber_103 ?_
                refine lv_iconst (v := (1 : Int32)) hx hb dX4_takeNumber_106 (by decide) ?_
                refine lv_iadd hx hb dX4_takeNumber_107 ?_
                obtain ⟨s22, es22, h1⟩ := nm_some h1
                refine x_put (D := (dC, dI)) (ws' := wM cA h ad s22) (ci := 4) (fs := [.ref (ad 0), .ref (ad 1), .int (s21 2 0), .int (s21 3 0), .ref (ad 4), .ref (ad 5), .ref (ad 6), .ref (ad 7), .int (s21 8 0), .ref (ad 9), .ref (ad 10), .int (s21 11 0), .int (s21 12 0), .int (s21 13 0), .ref (ad 14), .ref (ad 15)]) (v := .int ((s21 11 0) + (1 : Int32))) (ty := .int) (C := RX4) (T := TX4) (N := 16) hC hin0 tyX4 tyX4_ok nmX4 hK hP hD hS 0 rfl rfl 11 (by decide) (hts (.fieldLink RX4 216 "MeanLocksModel" "spot" "I") (List.mem_of_getElem? (i := 4) rfl)) rfl rfl rfl rfl (by decide +kernel) (Nat.le_of_ble_eq_true rfl) (by rw [es22]; exact wM_s11 _ _ _ _ _) dX4_takeNumber_108 (fun H locs hP hD hS => ?_)
                refine lv_goto (tgt := 38) hx hb dX4_takeNumber_111 (by decide) ?_
                have hc := lp_l h1 hz6
                exact ih6 x15 s22 hc _ _ hP hD hS ls (lv_sub hl [1, 2, 3, 4] rfl)
              · have h1 := it_f h1 hc
                refine lv_aload_n hx hb dX4_takeNumber_83 rfl (lv_at hl 3 rfl) ?_
                refine lv_iconst (v := (1 : Int32)) hx hb dX4_takeNumber_84 (by decide) ?_
                obtain ⟨s23, es23, h1⟩ := nm_some h1
                refine x_put (D := (dC, dI)) (ws' := wM cA h ad s23) (ci := 4) (fs := [.ref (ad 0), .ref (ad 1), .int (s16 2 0), .int (s16 3 0), .ref (ad 4), .ref (ad 5), .ref (ad 6), .ref (ad 7), .int (s16 8 0), .ref (ad 9), .ref (ad 10), .int (s16 11 0), .int (s16 12 0), .int (s16 13 0), .ref (ad 14), .ref (ad 15)]) (v := .int (1 : Int32)) (ty := .boolean) (C := RX4) (T := TX4) (N := 16) hC hin0 tyX4 tyX4_ok nmX4 hK hP hD hS 0 rfl rfl 12 (by decide) (hts (.fieldLink RX4 219 "MeanLocksModel" "isWrong" "Z") (List.mem_of_getElem? (i := 2) rfl)) rfl rfl rfl rfl (by decide +kernel) (Nat.le_of_ble_eq_true rfl) (by rw [es23]; exact wM_s12 _ _ _ _ _) dX4_takeNumber_85 (fun H locs hP hD hS => ?_)
                refine lv_iconst (v := (0 : Int32)) hx hb dX4_takeNumber_88 (by decide) ?_
                refine lv_istore_n (lv' := [(3, .int (0 : Int32)), (4, .int v20), (2, .int v3), (0, .ref h), (1, .int a1)]) hx hb dX4_takeNumber_89 rfl hl (by decide) rfl (fun ls hl => ?_)
                refine lv_goto (tgt := 111) hx hb dX4_takeNumber_90 (by decide) ?_
                refine lv_goto (tgt := 38) hx hb dX4_takeNumber_111 (by decide) ?_
                have hc := lp_l h1 hz6
                exact ih6 (0 : Int32) s23 hc _ _ hP hD hS ls (lv_sub hl [0, 2, 3, 4] rfl)
      exact LP6 FU (0 : Int32) s2 hl6 _ _ hP hD hS ls hl
    · have h0 := it_f h0 hc
      refine lv_iconst (v := (1 : Int32)) hx hb dX4_takeNumber_32 (by decide) ?_
      refine lv_goto (tgt := 37) hx hb dX4_takeNumber_33 (by decide) ?_
      refine lv_istore_n (lv' := [(3, .int (1 : Int32)), (2, .int v3), (0, .ref h), (1, .int a1)]) hx hb dX4_takeNumber_37 rfl hl (by decide) rfl (fun ls hl => ?_)
      obtain ⟨ε10, hl10, h0⟩ := bnd_some h0
      have KN10 : ∀ (x35 : Int32) (s36 : St), ε10 = (x35, s36) → ∀ (H : Heap) (locs : List Loc), va_P (dC, dI) vwCl (wM cA h ad s36) H → va_D A (wM cA h ad s36) → va_S A s.heap H locs → ∀ (ls : Array Slot), lv_has ls 5 [(3, .int x35), (2, .int v3), (0, .ref h), (1, .int a1)] → W p l e (headSpec wsX4_takeNumber rmX4_takeNumber).room s m av below meth c H locs 0 0 (MQ below (qV (dC, dI) A (wM cA h ad σ')) av s 0 0 A) (F0 m 114 ls []) := by
        intro x35 s36 hε H locs hP hD hS ls hl
        rw [hε] at h0
        have h0 := nm_at (z := x35) rfl h0
        have h0 := nm_at (z := s36) rfl h0
        have e1 := Option.some.inj h0
        exact x_retV hC hr hlocks hP hD hS dX4_takeNumber_114 (by rw [← e1])
      have LP10 : ∀ (n : Nat) (x26 : Int32) (s27 : St), lp (fun t : (Int32 × St) => bX4_takeNumber_38_3 v3 t.1 t.2) n (x26, s27) = some ε10 → ∀ (H : Heap) (locs : List Loc), va_P (dC, dI) vwCl (wM cA h ad s27) H → va_D A (wM cA h ad s27) → va_S A s.heap H locs → ∀ (ls : Array Slot), lv_has ls 5 [(3, .int x26), (2, .int v3), (0, .ref h), (1, .int a1)] → W p l e (headSpec wsX4_takeNumber rmX4_takeNumber).room s m av below meth c H locs 0 0 (MQ below (qV (dC, dI) A (wM cA h ad σ')) av s 0 0 A) (F0 m 38 ls []) := by
        intro n
        induction n with
        | zero => intro x26 s27 hl0; exact (lp_0 hl0).elim
        | succ n ih10 =>
          intro x26 s27 hl0 H locs hP hD hS ls hl
          obtain ⟨z10, h1, hz10⟩ := lp_s hl0
          have h1 : bX4_takeNumber_38_3 v3 x26 s27 = some z10 := h1
          unfold bX4_takeNumber_38_3 at h1
          refine lv_iload_n hx hb dX4_takeNumber_38 rfl (lv_at hl 0 rfl) ?_
          refine lv_if_eq (tgt := 114) hx hb dX4_takeNumber_39 (by decide) (fun hc => ?_) (fun hc => ?_)
          · have h1 := it_t h1 hc
            have he := lp_r h1 hz10
            exact KN10 x26 s27 he _ _ hP hD hS ls (lv_sub hl [0, 1, 2, 3] rfl)
          · have h1 := it_f h1 hc
            refine lv_aload_n hx hb dX4_takeNumber_42 rfl (lv_at hl 2 rfl) ?_
            obtain ⟨r28, hf11, h1⟩ := bnd_some h1
            refine x_VI (As := []) (rest := []) hC (kX4_next l dC dI cA h ad s27 r28  hf11) (cwV 0 hts gX4_takeNumber_X4_next rfl rfl rfl (by decide +kernel) ⟨Nat.le_of_ble_eq_true rfl, Nat.le_of_ble_eq_true rfl⟩) 0 4 hV hN hK hP hD hS hA rfl rfl rfl rfl hl.1 rfl (Nat.le_of_ble_eq_true rfl) ⟨Nat.zero_le _, Nat.zero_le _⟩ dX4_takeNumber_43 (fun H locs hP hD hS => ?_)
            refine lv_bipush (v := (48 : Int32)) hx hb dX4_takeNumber_46 (by decide) ?_
            refine lv_bipush (v := (57 : Int32)) hx hb dX4_takeNumber_48 (by decide) ?_
            obtain ⟨r29, hf12, h1⟩ := bnd_some h1
            refine x_SI (As := [.int r28, .int (48 : Int32), .int (57 : Int32)]) (rest := []) hC (kX4_in l dC dI cA r28 (48 : Int32) (57 : Int32) r29 hf12) (cwS 3 hts gX4_takeNumber_X4_in rfl rfl rfl (by decide +kernel) ⟨Nat.le_of_ble_eq_true rfl, Nat.le_of_ble_eq_true rfl⟩) hV hN hK hP hD hS hA rfl hl.1 rfl (Nat.le_of_ble_eq_true rfl) ⟨Nat.zero_le _, Nat.zero_le _⟩ dX4_takeNumber_50 (fun H locs hP hD hS => ?_)
            refine lv_if_eq (tgt := 114) hx hb dX4_takeNumber_53 (by decide) (fun hc => ?_) (fun hc => ?_)
            · have h1 := it_t h1 hc
              have he := lp_r h1 hz10
              exact KN10 x26 s27 he _ _ hP hD hS ls (lv_sub hl [0, 1, 2, 3] rfl)
            · have h1 := it_f h1 hc
              refine lv_bipush (v := (10 : Int32)) hx hb dX4_takeNumber_56 (by decide) ?_
              refine lv_aload_n hx hb dX4_takeNumber_58 rfl (lv_at hl 2 rfl) ?_
              refine va_get (D := (dC, dI)) (ci := 4) (v := .ref (ad 15)) (C := RX4) (T := TX4) (N := 16) hx hb hts hin0 hown hK hP 0 rfl rfl 15 (by decide) (hts (.fieldLink RX4 38 "MeanLocksModel" "numbers" "[I") (List.mem_of_getElem? (i := 3) rfl)) (fun _ h9 => h9) rfl dX4_takeNumber_59 ?_
              refine lv_iload_n hx hb dX4_takeNumber_62 rfl (lv_at hl 1 rfl) ?_
              obtain ⟨hi, h1⟩ := ax_some h1
              refine va_iald hx hb hK hP 10 0 rfl rfl hi dX4_takeNumber_63 ?_
              refine lv_imul hx hb dX4_takeNumber_64 ?_
              refine lv_aload_n hx hb dX4_takeNumber_65 rfl (lv_at hl 2 rfl) ?_
              obtain ⟨r30, hf13, h1⟩ := bnd_some h1
              refine x_VI (As := []) (rest := [.int ((10 : Int32) * (s27 15 (v3 : Int32).toNatClampNeg))]) hC (kX4_next l dC dI cA h ad s27 r30  hf13) (cwV 0 hts gX4_takeNumber_X4_next rfl rfl rfl (by decide +kernel) ⟨Nat.le_of_ble_eq_true rfl, Nat.le_of_ble_eq_true rfl⟩) 0 4 hV hN hK hP hD hS hA rfl rfl rfl rfl hl.1 rfl (Nat.le_of_ble_eq_true rfl) ⟨Nat.zero_le _, Nat.zero_le _⟩ dX4_takeNumber_66 (fun H locs hP hD hS => ?_)
              refine lv_iadd hx hb dX4_takeNumber_69 ?_
              refine lv_bipush (v := (48 : Int32)) hx hb dX4_takeNumber_70 (by decide) ?_
              refine lv_isub hx hb dX4_takeNumber_72 ?_
              refine lv_topi (fun v31 ev31 => ?_)
              have h1 := nm_at ev31 h1
              refine lv_istore (lv' := [(4, .int v31), (3, .int x26), (2, .int v3), (0, .ref h), (1, .int a1)]) hx hb dX4_takeNumber_73 hl (by decide) rfl (fun ls hl => ?_)
              refine lv_iload hx hb dX4_takeNumber_75 (lv_at hl 0 rfl) ?_
              refine lv_sipush (v := (300 : Int32)) hx hb dX4_takeNumber_77 (by decide) ?_
              refine lv_icmp_le (tgt := 93) hx hb dX4_takeNumber_80 (by decide) (fun hc => ?_) (fun hc => ?_)
              · have h1 := it_t h1 hc
                refine lv_aload_n hx hb dX4_takeNumber_93 rfl (lv_at hl 3 rfl) ?_
                refine va_get (D := (dC, dI)) (ci := 4) (v := .ref (ad 15)) (C := RX4) (T := TX4) (N := 16) hx hb hts hin0 hown hK hP 0 rfl rfl 15 (by decide) (hts (.fieldLink RX4 38 "MeanLocksModel" "numbers" "[I") (List.mem_of_getElem? (i := 3) rfl)) (fun _ h9 => h9) rfl dX4_takeNumber_94 ?_
                refine lv_iload_n hx hb dX4_takeNumber_97 rfl (lv_at hl 2 rfl) ?_
                refine lv_iload hx hb dX4_takeNumber_98 (lv_at hl 0 rfl) ?_
                obtain ⟨hi, h1⟩ := ax_some h1
                obtain ⟨s32, es32, h1⟩ := nm_some h1
                refine x_iast (ws' := wM cA h ad s32) hC hK hP hD hS 10 0 rfl rfl (by rw [es32]; exact wM_s15 _ _ _ _ _) hi dX4_takeNumber_100 (fun H locs hP hD hS => ?_)
                refine lv_aload_n hx hb dX4_takeNumber_101 rfl (lv_at hl 3 rfl) ?_
                refine lv_dup hx hb dX4_takeNumber_102 rfl ?_
                refine va_get (D := (dC, dI)) (ci := 4) (v := .int (s32 11 0)) (C := RX4) (T := TX4) (N := 16) hx hb hts hin0 hown hK hP 0 rfl rfl 11 (by decide) (hts (.fieldLink RX4 216 "MeanLocksModel" "spot" "I") (List.mem_of_getElem? (i := 4) rfl)) (fun _ h9 => h9) rfl dX4_takeNumber_103 ?_
                refine lv_iconst (v := (1 : Int32)) hx hb dX4_takeNumber_106 (by decide) ?_
                refine lv_iadd hx hb dX4_takeNumber_107 ?_
                obtain ⟨s33, es33, h1⟩ := nm_some h1
                refine x_put (D := (dC, dI)) (ws' := wM cA h ad s33) (ci := 4) (fs := [.ref (ad 0), .ref (ad 1), .int (s32 2 0), .int (s32 3 0), .ref (ad 4), .ref (ad 5), .ref (ad 6), .ref (ad 7), .int (s32 8 0), .ref (ad 9), .ref (ad 10), .int (s32 11 0), .int (s32 12 0), .int (s32 13 0), .ref (ad 14), .ref (ad 15)]) (v := .int ((s32 11 0) + (1 : Int32))) (ty := .int) (C := RX4) (T := TX4) (N := 16) hC hin0 tyX4 tyX4_ok nmX4 hK hP hD hS 0 rfl rfl 11 (by decide) (hts (.fieldLink RX4 216 "MeanLocksModel" "spot" "I") (List.mem_of_getElem? (i := 4) rfl)) rfl rfl rfl rfl (by decide +kernel) (Nat.le_of_ble_eq_true rfl) (by rw [es33]; exact wM_s11 _ _ _ _ _) dX4_takeNumber_108 (fun H locs hP hD hS => ?_)
                refine lv_goto (tgt := 38) hx hb dX4_takeNumber_111 (by decide) ?_
                have hc := lp_l h1 hz10
                exact ih10 x26 s33 hc _ _ hP hD hS ls (lv_sub hl [1, 2, 3, 4] rfl)
              · have h1 := it_f h1 hc
                refine lv_aload_n hx hb dX4_takeNumber_83 rfl (lv_at hl 3 rfl) ?_
                refine lv_iconst (v := (1 : Int32)) hx hb dX4_takeNumber_84 (by decide) ?_
                obtain ⟨s34, es34, h1⟩ := nm_some h1
                refine x_put (D := (dC, dI)) (ws' := wM cA h ad s34) (ci := 4) (fs := [.ref (ad 0), .ref (ad 1), .int (s27 2 0), .int (s27 3 0), .ref (ad 4), .ref (ad 5), .ref (ad 6), .ref (ad 7), .int (s27 8 0), .ref (ad 9), .ref (ad 10), .int (s27 11 0), .int (s27 12 0), .int (s27 13 0), .ref (ad 14), .ref (ad 15)]) (v := .int (1 : Int32)) (ty := .boolean) (C := RX4) (T := TX4) (N := 16) hC hin0 tyX4 tyX4_ok nmX4 hK hP hD hS 0 rfl rfl 12 (by decide) (hts (.fieldLink RX4 219 "MeanLocksModel" "isWrong" "Z") (List.mem_of_getElem? (i := 2) rfl)) rfl rfl rfl rfl (by decide +kernel) (Nat.le_of_ble_eq_true rfl) (by rw [es34]; exact wM_s12 _ _ _ _ _) dX4_takeNumber_85 (fun H locs hP hD hS => ?_)
                refine lv_iconst (v := (0 : Int32)) hx hb dX4_takeNumber_88 (by decide) ?_
                refine lv_istore_n (lv' := [(3, .int (0 : Int32)), (4, .int v31), (2, .int v3), (0, .ref h), (1, .int a1)]) hx hb dX4_takeNumber_89 rfl hl (by decide) rfl (fun ls hl => ?_)
                refine lv_goto (tgt := 111) hx hb dX4_takeNumber_90 (by decide) ?_
                refine lv_goto (tgt := 38) hx hb dX4_takeNumber_111 (by decide) ?_
                have hc := lp_l h1 hz10
                exact ih10 (0 : Int32) s34 hc _ _ hP hD hS ls (lv_sub hl [0, 2, 3, 4] rfl)
      exact LP10 FU (1 : Int32) s2 hl10 _ _ hP hD hS ls hl
def fX4_takeRange (σ : St) : Option St := bnd (fX4_takeOne (0 : Int32) (55 : Int32) σ) fun s2 => bnd (fX4_takeSign (58 : Int32) s2) fun s4 => bnd (fX4_takeNumber (1 : Int32) s4) fun s6 => bnd (fX4_takeSign (45 : Int32) s6) fun s8 => bnd (fX4_takeNumber (2 : Int32) s8) fun s10 => some s10
abbrev rmX4_takeRange : Room := { frames := 3, cells := 0, slots := 0, locals := 68 }
set_option maxHeartbeats 4000000 in
set_option maxRecDepth 100000 in
theorem kX4_takeRange (l : Launch) (dC : Nat → ClassId) (dI : Nat → Nat → Nat) (cA : Nat → ClassId) (h : Nat) (ad : Nat → Nat) (σ : St) (σ' : St) (h0 : fX4_takeRange σ = some σ') : CV l yX4_takeRange wsX4_takeRange rmX4_takeRange (dC, dI) vwCl (tysW cA) [.ref h] (wM cA h ad σ) (wM cA h ad σ') := by
  refine CGV_of (cc := cX4_takeRange) (nL := 1) (ret := none) (by decide) rfl (Nat.le_of_ble_eq_true rfl) ?_
  intro p e s m av below meth c A ls H locs hC hl
  obtain ⟨hC, hr, hlocks, hV, hN, hK, hP, hD, hS, hA⟩ := hC
  have hC : CallFix p m c cX4_takeRange 1 s _ wsX4_takeRange RX4 := hC
  obtain ⟨hx, hb, hml, hown, hts⟩ := id hC
  have hin0 : ∀ w ∈ u_ws RX4 TX4 16, w ∈ wsX4_takeRange := fun _ h => (List.mem_cons_of_mem _ (List.mem_append_right _ h))
  have hl : lv_has ls 1 [(0, .ref h)] := hl
  unfold fX4_takeRange at h0
  refine lv_aload_n hx hb dX4_takeRange_0 rfl (lv_at hl 0 rfl) ?_
  refine lv_iconst (v := (0 : Int32)) hx hb dX4_takeRange_1 (by decide) ?_
  refine lv_bipush (v := (55 : Int32)) hx hb dX4_takeRange_2 (by decide) ?_
  obtain ⟨s2, hf1, h0⟩ := bnd_some h0
  refine x_VV (As := [.int (0 : Int32), .int (55 : Int32)]) (rest := []) hC (kX4_takeOne l dC dI cA h ad (0 : Int32) (55 : Int32) σ s2 hf1) (cwV 2 hts gX4_takeRange_X4_takeOne rfl rfl rfl (by decide +kernel) ⟨Nat.le_of_ble_eq_true rfl, Nat.le_of_ble_eq_true rfl⟩) 0 4 hV hN hK hP hD hS hA rfl rfl rfl rfl hl.1 rfl (Nat.le_of_ble_eq_true rfl) ⟨Nat.zero_le _, Nat.zero_le _⟩ dX4_takeRange_4 (fun H locs hP hD hS => ?_)
  refine lv_aload_n hx hb dX4_takeRange_7 rfl (lv_at hl 0 rfl) ?_
  refine lv_bipush (v := (58 : Int32)) hx hb dX4_takeRange_8 (by decide) ?_
  obtain ⟨s4, hf2, h0⟩ := bnd_some h0
  refine x_VV (As := [.int (58 : Int32)]) (rest := []) hC (kX4_takeSign l dC dI cA h ad (58 : Int32) s2 s4 hf2) (cwV 1 hts gX4_takeRange_X4_takeSign rfl rfl rfl (by decide +kernel) ⟨Nat.le_of_ble_eq_true rfl, Nat.le_of_ble_eq_true rfl⟩) 0 4 hV hN hK hP hD hS hA rfl rfl rfl rfl hl.1 rfl (Nat.le_of_ble_eq_true rfl) ⟨Nat.zero_le _, Nat.zero_le _⟩ dX4_takeRange_10 (fun H locs hP hD hS => ?_)
  refine lv_aload_n hx hb dX4_takeRange_13 rfl (lv_at hl 0 rfl) ?_
  refine lv_iconst (v := (1 : Int32)) hx hb dX4_takeRange_14 (by decide) ?_
  obtain ⟨s6, hf3, h0⟩ := bnd_some h0
  refine x_VV (As := [.int (1 : Int32)]) (rest := []) hC (kX4_takeNumber l dC dI cA h ad (1 : Int32) s4 s6 hf3) (cwV 1 hts gX4_takeRange_X4_takeNumber rfl rfl rfl (by decide +kernel) ⟨Nat.le_of_ble_eq_true rfl, Nat.le_of_ble_eq_true rfl⟩) 0 4 hV hN hK hP hD hS hA rfl rfl rfl rfl hl.1 rfl (Nat.le_of_ble_eq_true rfl) ⟨Nat.zero_le _, Nat.zero_le _⟩ dX4_takeRange_15 (fun H locs hP hD hS => ?_)
  refine lv_aload_n hx hb dX4_takeRange_18 rfl (lv_at hl 0 rfl) ?_
  refine lv_bipush (v := (45 : Int32)) hx hb dX4_takeRange_19 (by decide) ?_
  obtain ⟨s8, hf4, h0⟩ := bnd_some h0
  refine x_VV (As := [.int (45 : Int32)]) (rest := []) hC (kX4_takeSign l dC dI cA h ad (45 : Int32) s6 s8 hf4) (cwV 1 hts gX4_takeRange_X4_takeSign rfl rfl rfl (by decide +kernel) ⟨Nat.le_of_ble_eq_true rfl, Nat.le_of_ble_eq_true rfl⟩) 0 4 hV hN hK hP hD hS hA rfl rfl rfl rfl hl.1 rfl (Nat.le_of_ble_eq_true rfl) ⟨Nat.zero_le _, Nat.zero_le _⟩ dX4_takeRange_21 (fun H locs hP hD hS => ?_)
  refine lv_aload_n hx hb dX4_takeRange_24 rfl (lv_at hl 0 rfl) ?_
  refine lv_iconst (v := (2 : Int32)) hx hb dX4_takeRange_25 (by decide) ?_
  obtain ⟨s10, hf5, h0⟩ := bnd_some h0
  refine x_VV (As := [.int (2 : Int32)]) (rest := []) hC (kX4_takeNumber l dC dI cA h ad (2 : Int32) s8 s10 hf5) (cwV 1 hts gX4_takeRange_X4_takeNumber rfl rfl rfl (by decide +kernel) ⟨Nat.le_of_ble_eq_true rfl, Nat.le_of_ble_eq_true rfl⟩) 0 4 hV hN hK hP hD hS hA rfl rfl rfl rfl hl.1 rfl (Nat.le_of_ble_eq_true rfl) ⟨Nat.zero_le _, Nat.zero_le _⟩ dX4_takeRange_26 (fun H locs hP hD hS => ?_)
  have e1 := Option.some.inj h0
  exact x_retV hC hr hlocks hP hD hS dX4_takeRange_29 (by rw [← e1])
def fX4_takeOrder (σ : St) : Option St := bnd (fX4_next  σ) fun r1 => nm (put σ 11 (fun _ => (σ 11 0) + (1 : Int32))) fun s2 => if (r1 : Int32) = (99 : Int32) ∨ (r1 : Int32) = (120 : Int32) then (bnd (fX4_takeOne (0 : Int32) (55 : Int32) s2) fun s4 => if ((s4 12 0) : Int32) = (0 : Int32) then (ax (s4 13 0) 29 (nm (put s4 14 (upd (s4 14) (s4 13 0 : Int32).toNatClampNeg (r1))) fun s5 => nm (put s5 13 (fun _ => (s5 13 0) + (1 : Int32))) fun s6 => some s6)) else (some s4)) else (if (r1 : Int32) = (102 : Int32) then (bnd (fX4_takeRange  s2) fun s8 => if ((s8 12 0) : Int32) = (0 : Int32) then (ax (s8 13 0) 29 (nm (put s8 14 (upd (s8 14) (s8 13 0 : Int32).toNatClampNeg (r1))) fun s9 => nm (put s9 13 (fun _ => (s9 13 0) + (1 : Int32))) fun s10 => some s10)) else (some s8)) else (if (r1 : Int32) = (109 : Int32) ∨ (r1 : Int32) = (114 : Int32) ∨ (r1 : Int32) = (119 : Int32) then (bnd (fX4_takeRange  s2) fun s12 => if ((s12 12 0) : Int32) = (0 : Int32) then (bnd (fX4_next  s12) fun r17 => if (r17 : Int32) = (33 : Int32) then (ax (((4 : Int32) * (s12 13 0)) + (3 : Int32)) 116 (nm (put s12 15 (upd (s12 15) (((4 : Int32) * (s12 13 0)) + (3 : Int32) : Int32).toNatClampNeg ((1 : Int32)))) fun s22 => ax (((4 : Int32) * (s22 13 0)) + (3 : Int32)) 116 (nm (put s22 11 (fun _ => (s22 11 0) + (s22 15 (((4 : Int32) * (s22 13 0)) + (3 : Int32) : Int32).toNatClampNeg))) fun s23 => if ((s23 12 0) : Int32) = (0 : Int32) then (ax (s23 13 0) 29 (nm (put s23 14 (upd (s23 14) (s23 13 0 : Int32).toNatClampNeg (r1))) fun s24 => nm (put s24 13 (fun _ => (s24 13 0) + (1 : Int32))) fun s25 => some s25)) else (some s23)))) else (ax (((4 : Int32) * (s12 13 0)) + (3 : Int32)) 116 (nm (put s12 15 (upd (s12 15) (((4 : Int32) * (s12 13 0)) + (3 : Int32) : Int32).toNatClampNeg ((0 : Int32)))) fun s18 => ax (((4 : Int32) * (s18 13 0)) + (3 : Int32)) 116 (nm (put s18 11 (fun _ => (s18 11 0) + (s18 15 (((4 : Int32) * (s18 13 0)) + (3 : Int32) : Int32).toNatClampNeg))) fun s19 => if ((s19 12 0) : Int32) = (0 : Int32) then (ax (s19 13 0) 29 (nm (put s19 14 (upd (s19 14) (s19 13 0 : Int32).toNatClampNeg (r1))) fun s20 => nm (put s20 13 (fun _ => (s20 13 0) + (1 : Int32))) fun s21 => some s21)) else (some s19))))) else (ax (((4 : Int32) * (s12 13 0)) + (3 : Int32)) 116 (nm (put s12 15 (upd (s12 15) (((4 : Int32) * (s12 13 0)) + (3 : Int32) : Int32).toNatClampNeg ((0 : Int32)))) fun s13 => ax (((4 : Int32) * (s13 13 0)) + (3 : Int32)) 116 (nm (put s13 11 (fun _ => (s13 11 0) + (s13 15 (((4 : Int32) * (s13 13 0)) + (3 : Int32) : Int32).toNatClampNeg))) fun s14 => if ((s14 12 0) : Int32) = (0 : Int32) then (ax (s14 13 0) 29 (nm (put s14 14 (upd (s14 14) (s14 13 0 : Int32).toNatClampNeg (r1))) fun s15 => nm (put s15 13 (fun _ => (s15 13 0) + (1 : Int32))) fun s16 => some s16)) else (some s14))))) else (if (r1 : Int32) = (116 : Int32) then (bnd (fX4_takeNumber (0 : Int32) s2) fun s27 => if ((s27 12 0) : Int32) = (0 : Int32) then (ax (s27 13 0) 29 (nm (put s27 14 (upd (s27 14) (s27 13 0 : Int32).toNatClampNeg (r1))) fun s28 => nm (put s28 13 (fun _ => (s28 13 0) + (1 : Int32))) fun s29 => some s29)) else (some s27)) else (nm (put s2 11 (fun _ => (s2 11 0) - (1 : Int32))) fun s30 => nm (put s30 12 (fun _ => (1 : Int32))) fun s31 => if ((s31 12 0) : Int32) = (0 : Int32) then (ax (s31 13 0) 29 (nm (put s31 14 (upd (s31 14) (s31 13 0 : Int32).toNatClampNeg (r1))) fun s32 => nm (put s32 13 (fun _ => (s32 13 0) + (1 : Int32))) fun s33 => some s33)) else (some s31)))))
abbrev rmX4_takeOrder : Room := { frames := 4, cells := 0, slots := 0, locals := 88 }
set_option maxHeartbeats 4000000 in
set_option maxRecDepth 100000 in
theorem kX4_takeOrder (l : Launch) (dC : Nat → ClassId) (dI : Nat → Nat → Nat) (cA : Nat → ClassId) (h : Nat) (ad : Nat → Nat) (σ : St) (σ' : St) (h0 : fX4_takeOrder σ = some σ') : CV l yX4_takeOrder wsX4_takeOrder rmX4_takeOrder (dC, dI) vwCl (tysW cA) [.ref h] (wM cA h ad σ) (wM cA h ad σ') := by
  refine CGV_of (cc := cX4_takeOrder) (nL := 2) (ret := none) (by decide) rfl (Nat.le_of_ble_eq_true rfl) ?_
  intro p e s m av below meth c A ls H locs hC hl
  obtain ⟨hC, hr, hlocks, hV, hN, hK, hP, hD, hS, hA⟩ := hC
  have hC : CallFix p m c cX4_takeOrder 2 s _ wsX4_takeOrder RX4 := hC
  obtain ⟨hx, hb, hml, hown, hts⟩ := id hC
  have hin0 : ∀ w ∈ u_ws RX4 TX4 16, w ∈ wsX4_takeOrder := fun _ h => (List.mem_cons_of_mem _ (List.mem_append_right _ h))
  have hl : lv_has ls 2 [(0, .ref h)] := hl
  unfold fX4_takeOrder at h0
  refine lv_aload_n hx hb dX4_takeOrder_0 rfl (lv_at hl 0 rfl) ?_
  obtain ⟨r1, hf1, h0⟩ := bnd_some h0
  refine x_VI (As := []) (rest := []) hC (kX4_next l dC dI cA h ad σ r1  hf1) (cwV 0 hts gX4_takeOrder_X4_next rfl rfl rfl (by decide +kernel) ⟨Nat.le_of_ble_eq_true rfl, Nat.le_of_ble_eq_true rfl⟩) 0 4 hV hN hK hP hD hS hA rfl rfl rfl rfl hl.1 rfl (Nat.le_of_ble_eq_true rfl) ⟨Nat.zero_le _, Nat.zero_le _⟩ dX4_takeOrder_1 (fun H locs hP hD hS => ?_)
  refine lv_istore_n (lv' := [(1, .int r1), (0, .ref h)]) hx hb dX4_takeOrder_4 rfl hl (by decide) rfl (fun ls hl => ?_)
  refine lv_aload_n hx hb dX4_takeOrder_5 rfl (lv_at hl 1 rfl) ?_
  refine lv_dup hx hb dX4_takeOrder_6 rfl ?_
  refine va_get (D := (dC, dI)) (ci := 4) (v := .int (σ 11 0)) (C := RX4) (T := TX4) (N := 16) hx hb hts hin0 hown hK hP 0 rfl rfl 11 (by decide) (hts (.fieldLink RX4 216 "MeanLocksModel" "spot" "I") (List.mem_of_getElem? (i := 1) rfl)) (fun _ h9 => h9) rfl dX4_takeOrder_7 ?_
  refine lv_iconst (v := (1 : Int32)) hx hb dX4_takeOrder_10 (by decide) ?_
  refine lv_iadd hx hb dX4_takeOrder_11 ?_
  obtain ⟨s2, es2, h0⟩ := nm_some h0
  refine x_put (D := (dC, dI)) (ws' := wM cA h ad s2) (ci := 4) (fs := [.ref (ad 0), .ref (ad 1), .int (σ 2 0), .int (σ 3 0), .ref (ad 4), .ref (ad 5), .ref (ad 6), .ref (ad 7), .int (σ 8 0), .ref (ad 9), .ref (ad 10), .int (σ 11 0), .int (σ 12 0), .int (σ 13 0), .ref (ad 14), .ref (ad 15)]) (v := .int ((σ 11 0) + (1 : Int32))) (ty := .int) (C := RX4) (T := TX4) (N := 16) hC hin0 tyX4 tyX4_ok nmX4 hK hP hD hS 0 rfl rfl 11 (by decide) (hts (.fieldLink RX4 216 "MeanLocksModel" "spot" "I") (List.mem_of_getElem? (i := 1) rfl)) rfl rfl rfl rfl (by decide +kernel) (Nat.le_of_ble_eq_true rfl) (by rw [es2]; exact wM_s11 _ _ _ _ _) dX4_takeOrder_12 (fun H locs hP hD hS => ?_)
  refine lv_iload_n hx hb dX4_takeOrder_15 rfl (lv_at hl 0 rfl) ?_
  by_cases hq99 : (r1 : Int32) = (99 : Int32) ∨ (r1 : Int32) = (120 : Int32)
  · have h0 := it_t h0 hq99
    have hg : W p l e (headSpec wsX4_takeOrder rmX4_takeOrder).room s m av below meth c H locs 0 0 (MQ below (qV (dC, dI) A (wM cA h ad σ')) av s 0 0 A) (F0 m 190 ls []) := by
      refine lv_aload_n hx hb dX4_takeOrder_190 rfl (lv_at hl 1 rfl) ?_
      refine lv_iconst (v := (0 : Int32)) hx hb dX4_takeOrder_191 (by decide) ?_
      refine lv_bipush (v := (55 : Int32)) hx hb dX4_takeOrder_192 (by decide) ?_
      obtain ⟨s4, hf2, h0⟩ := bnd_some h0
      refine x_VV (As := [.int (0 : Int32), .int (55 : Int32)]) (rest := []) hC (kX4_takeOne l dC dI cA h ad (0 : Int32) (55 : Int32) s2 s4 hf2) (cwV 2 hts gX4_takeOrder_X4_takeOne rfl rfl rfl (by decide +kernel) ⟨Nat.le_of_ble_eq_true rfl, Nat.le_of_ble_eq_true rfl⟩) 0 4 hV hN hK hP hD hS hA rfl rfl rfl rfl hl.1 rfl (Nat.le_of_ble_eq_true rfl) ⟨Nat.zero_le _, Nat.zero_le _⟩ dX4_takeOrder_194 (fun H locs hP hD hS => ?_)
      refine lv_goto (tgt := 223) hx hb dX4_takeOrder_197 (by decide) ?_
      refine lv_aload_n hx hb dX4_takeOrder_223 rfl (lv_at hl 1 rfl) ?_
      refine va_get (D := (dC, dI)) (ci := 4) (v := .int (s4 12 0)) (C := RX4) (T := TX4) (N := 16) hx hb hts hin0 hown hK hP 0 rfl rfl 12 (by decide) (hts (.fieldLink RX4 219 "MeanLocksModel" "isWrong" "Z") (List.mem_of_getElem? (i := 4) rfl)) (fun _ h9 => h9) rfl dX4_takeOrder_224 ?_
      refine lv_if_ne (tgt := 250) hx hb dX4_takeOrder_227 (by decide) (fun hc => ?_) (fun hc => ?_)
      · have h0 := it_f h0 hc
        have e1 := Option.some.inj h0
        exact x_retV hC hr hlocks hP hD hS dX4_takeOrder_250 (by rw [← e1])
      · have h0 := it_t h0 hc
        refine lv_aload_n hx hb dX4_takeOrder_230 rfl (lv_at hl 1 rfl) ?_
        refine va_get (D := (dC, dI)) (ci := 4) (v := .ref (ad 14)) (C := RX4) (T := TX4) (N := 16) hx hb hts hin0 hown hK hP 0 rfl rfl 14 (by decide) (hts (.fieldLink RX4 35 "MeanLocksModel" "sort" "[I") (List.mem_of_getElem? (i := 5) rfl)) (fun _ h9 => h9) rfl dX4_takeOrder_231 ?_
        refine lv_aload_n hx hb dX4_takeOrder_234 rfl (lv_at hl 1 rfl) ?_
        refine va_get (D := (dC, dI)) (ci := 4) (v := .int (s4 13 0)) (C := RX4) (T := TX4) (N := 16) hx hb hts hin0 hown hK hP 0 rfl rfl 13 (by decide) (hts (.fieldLink RX4 226 "MeanLocksModel" "orders" "I") (List.mem_of_getElem? (i := 3) rfl)) (fun _ h9 => h9) rfl dX4_takeOrder_235 ?_
        refine lv_iload_n hx hb dX4_takeOrder_238 rfl (lv_at hl 0 rfl) ?_
        obtain ⟨hi, h0⟩ := ax_some h0
        obtain ⟨s5, es5, h0⟩ := nm_some h0
        refine x_iast (ws' := wM cA h ad s5) hC hK hP hD hS 9 0 rfl rfl (by rw [es5]; exact wM_s14 _ _ _ _ _) hi dX4_takeOrder_239 (fun H locs hP hD hS => ?_)
        refine lv_aload_n hx hb dX4_takeOrder_240 rfl (lv_at hl 1 rfl) ?_
        refine lv_dup hx hb dX4_takeOrder_241 rfl ?_
        refine va_get (D := (dC, dI)) (ci := 4) (v := .int (s5 13 0)) (C := RX4) (T := TX4) (N := 16) hx hb hts hin0 hown hK hP 0 rfl rfl 13 (by decide) (hts (.fieldLink RX4 226 "MeanLocksModel" "orders" "I") (List.mem_of_getElem? (i := 3) rfl)) (fun _ h9 => h9) rfl dX4_takeOrder_242 ?_
        refine lv_iconst (v := (1 : Int32)) hx hb dX4_takeOrder_245 (by decide) ?_
        refine lv_iadd hx hb dX4_takeOrder_246 ?_
        obtain ⟨s6, es6, h0⟩ := nm_some h0
        refine x_put (D := (dC, dI)) (ws' := wM cA h ad s6) (ci := 4) (fs := [.ref (ad 0), .ref (ad 1), .int (s5 2 0), .int (s5 3 0), .ref (ad 4), .ref (ad 5), .ref (ad 6), .ref (ad 7), .int (s5 8 0), .ref (ad 9), .ref (ad 10), .int (s5 11 0), .int (s5 12 0), .int (s5 13 0), .ref (ad 14), .ref (ad 15)]) (v := .int ((s5 13 0) + (1 : Int32))) (ty := .int) (C := RX4) (T := TX4) (N := 16) hC hin0 tyX4 tyX4_ok nmX4 hK hP hD hS 0 rfl rfl 13 (by decide) (hts (.fieldLink RX4 226 "MeanLocksModel" "orders" "I") (List.mem_of_getElem? (i := 3) rfl)) rfl rfl rfl rfl (by decide +kernel) (Nat.le_of_ble_eq_true rfl) (by rw [es6]; exact wM_s13 _ _ _ _ _) dX4_takeOrder_247 (fun H locs hP hD hS => ?_)
        have e1 := Option.some.inj h0
        exact x_retV hC hr hlocks hP hD hS dX4_takeOrder_250 (by rw [← e1])
    rcases hq99 with hk | hk
    · refine lv_tableIn (tgt := 190) hx hb dX4_takeOrder_16 (by rw [hk]; decide) (by rw [hk]; decide) (off := 174) (by rw [hk]; rfl) (by decide) ?_
      exact hg
    · refine lv_tableIn (tgt := 190) hx hb dX4_takeOrder_16 (by rw [hk]; decide) (by rw [hk]; decide) (off := 174) (by rw [hk]; rfl) (by decide) ?_
      exact hg
  have h0 := it_f h0 hq99
  by_cases hq102 : (r1 : Int32) = (102 : Int32)
  · have h0 := it_t h0 hq102
    refine lv_tableIn (tgt := 183) hx hb dX4_takeOrder_16 (by rw [hq102]; decide) (by rw [hq102]; decide) (off := 167) (by rw [hq102]; rfl) (by decide) ?_
    refine lv_aload_n hx hb dX4_takeOrder_183 rfl (lv_at hl 1 rfl) ?_
    obtain ⟨s8, hf3, h0⟩ := bnd_some h0
    refine x_VV (As := []) (rest := []) hC (kX4_takeRange l dC dI cA h ad s2 s8 hf3) (cwV 0 hts gX4_takeOrder_X4_takeRange rfl rfl rfl (by decide +kernel) ⟨Nat.le_of_ble_eq_true rfl, Nat.le_of_ble_eq_true rfl⟩) 0 4 hV hN hK hP hD hS hA rfl rfl rfl rfl hl.1 rfl (Nat.le_of_ble_eq_true rfl) ⟨Nat.zero_le _, Nat.zero_le _⟩ dX4_takeOrder_184 (fun H locs hP hD hS => ?_)
    refine lv_goto (tgt := 223) hx hb dX4_takeOrder_187 (by decide) ?_
    refine lv_aload_n hx hb dX4_takeOrder_223 rfl (lv_at hl 1 rfl) ?_
    refine va_get (D := (dC, dI)) (ci := 4) (v := .int (s8 12 0)) (C := RX4) (T := TX4) (N := 16) hx hb hts hin0 hown hK hP 0 rfl rfl 12 (by decide) (hts (.fieldLink RX4 219 "MeanLocksModel" "isWrong" "Z") (List.mem_of_getElem? (i := 4) rfl)) (fun _ h9 => h9) rfl dX4_takeOrder_224 ?_
    refine lv_if_ne (tgt := 250) hx hb dX4_takeOrder_227 (by decide) (fun hc => ?_) (fun hc => ?_)
    · have h0 := it_f h0 hc
      have e1 := Option.some.inj h0
      exact x_retV hC hr hlocks hP hD hS dX4_takeOrder_250 (by rw [← e1])
    · have h0 := it_t h0 hc
      refine lv_aload_n hx hb dX4_takeOrder_230 rfl (lv_at hl 1 rfl) ?_
      refine va_get (D := (dC, dI)) (ci := 4) (v := .ref (ad 14)) (C := RX4) (T := TX4) (N := 16) hx hb hts hin0 hown hK hP 0 rfl rfl 14 (by decide) (hts (.fieldLink RX4 35 "MeanLocksModel" "sort" "[I") (List.mem_of_getElem? (i := 5) rfl)) (fun _ h9 => h9) rfl dX4_takeOrder_231 ?_
      refine lv_aload_n hx hb dX4_takeOrder_234 rfl (lv_at hl 1 rfl) ?_
      refine va_get (D := (dC, dI)) (ci := 4) (v := .int (s8 13 0)) (C := RX4) (T := TX4) (N := 16) hx hb hts hin0 hown hK hP 0 rfl rfl 13 (by decide) (hts (.fieldLink RX4 226 "MeanLocksModel" "orders" "I") (List.mem_of_getElem? (i := 3) rfl)) (fun _ h9 => h9) rfl dX4_takeOrder_235 ?_
      refine lv_iload_n hx hb dX4_takeOrder_238 rfl (lv_at hl 0 rfl) ?_
      obtain ⟨hi, h0⟩ := ax_some h0
      obtain ⟨s9, es9, h0⟩ := nm_some h0
      refine x_iast (ws' := wM cA h ad s9) hC hK hP hD hS 9 0 rfl rfl (by rw [es9]; exact wM_s14 _ _ _ _ _) hi dX4_takeOrder_239 (fun H locs hP hD hS => ?_)
      refine lv_aload_n hx hb dX4_takeOrder_240 rfl (lv_at hl 1 rfl) ?_
      refine lv_dup hx hb dX4_takeOrder_241 rfl ?_
      refine va_get (D := (dC, dI)) (ci := 4) (v := .int (s9 13 0)) (C := RX4) (T := TX4) (N := 16) hx hb hts hin0 hown hK hP 0 rfl rfl 13 (by decide) (hts (.fieldLink RX4 226 "MeanLocksModel" "orders" "I") (List.mem_of_getElem? (i := 3) rfl)) (fun _ h9 => h9) rfl dX4_takeOrder_242 ?_
      refine lv_iconst (v := (1 : Int32)) hx hb dX4_takeOrder_245 (by decide) ?_
      refine lv_iadd hx hb dX4_takeOrder_246 ?_
      obtain ⟨s10, es10, h0⟩ := nm_some h0
      refine x_put (D := (dC, dI)) (ws' := wM cA h ad s10) (ci := 4) (fs := [.ref (ad 0), .ref (ad 1), .int (s9 2 0), .int (s9 3 0), .ref (ad 4), .ref (ad 5), .ref (ad 6), .ref (ad 7), .int (s9 8 0), .ref (ad 9), .ref (ad 10), .int (s9 11 0), .int (s9 12 0), .int (s9 13 0), .ref (ad 14), .ref (ad 15)]) (v := .int ((s9 13 0) + (1 : Int32))) (ty := .int) (C := RX4) (T := TX4) (N := 16) hC hin0 tyX4 tyX4_ok nmX4 hK hP hD hS 0 rfl rfl 13 (by decide) (hts (.fieldLink RX4 226 "MeanLocksModel" "orders" "I") (List.mem_of_getElem? (i := 3) rfl)) rfl rfl rfl rfl (by decide +kernel) (Nat.le_of_ble_eq_true rfl) (by rw [es10]; exact wM_s13 _ _ _ _ _) dX4_takeOrder_247 (fun H locs hP hD hS => ?_)
      have e1 := Option.some.inj h0
      exact x_retV hC hr hlocks hP hD hS dX4_takeOrder_250 (by rw [← e1])
  have h0 := it_f h0 hq102
  by_cases hq109 : (r1 : Int32) = (109 : Int32) ∨ (r1 : Int32) = (114 : Int32) ∨ (r1 : Int32) = (119 : Int32)
  · have h0 := it_t h0 hq109
    have hg : W p l e (headSpec wsX4_takeOrder rmX4_takeOrder).room s m av below meth c H locs 0 0 (MQ below (qV (dC, dI) A (wM cA h ad σ')) av s 0 0 A) (F0 m 120 ls []) := by
      refine lv_aload_n hx hb dX4_takeOrder_120 rfl (lv_at hl 1 rfl) ?_
      obtain ⟨s12, hf4, h0⟩ := bnd_some h0
      refine x_VV (As := []) (rest := []) hC (kX4_takeRange l dC dI cA h ad s2 s12 hf4) (cwV 0 hts gX4_takeOrder_X4_takeRange rfl rfl rfl (by decide +kernel) ⟨Nat.le_of_ble_eq_true rfl, Nat.le_of_ble_eq_true rfl⟩) 0 4 hV hN hK hP hD hS hA rfl rfl rfl rfl hl.1 rfl (Nat.le_of_ble_eq_true rfl) ⟨Nat.zero_le _, Nat.zero_le _⟩ dX4_takeOrder_121 (fun H locs hP hD hS => ?_)
      refine lv_aload_n hx hb dX4_takeOrder_124 rfl (lv_at hl 1 rfl) ?_
      refine va_get (D := (dC, dI)) (ci := 4) (v := .ref (ad 15)) (C := RX4) (T := TX4) (N := 16) hx hb hts hin0 hown hK hP 0 rfl rfl 15 (by decide) (hts (.fieldLink RX4 38 "MeanLocksModel" "numbers" "[I") (List.mem_of_getElem? (i := 2) rfl)) (fun _ h9 => h9) rfl dX4_takeOrder_125 ?_
      refine lv_iconst (v := (4 : Int32)) hx hb dX4_takeOrder_128 (by decide) ?_
      refine lv_aload_n hx hb dX4_takeOrder_129 rfl (lv_at hl 1 rfl) ?_
      refine va_get (D := (dC, dI)) (ci := 4) (v := .int (s12 13 0)) (C := RX4) (T := TX4) (N := 16) hx hb hts hin0 hown hK hP 0 rfl rfl 13 (by decide) (hts (.fieldLink RX4 226 "MeanLocksModel" "orders" "I") (List.mem_of_getElem? (i := 3) rfl)) (fun _ h9 => h9) rfl dX4_takeOrder_130 ?_
      refine lv_imul hx hb dX4_takeOrder_133 ?_
      refine lv_iconst (v := (3 : Int32)) hx hb dX4_takeOrder_134 (by decide) ?_
      refine lv_iadd hx hb dX4_takeOrder_135 ?_
      refine lv_aload_n hx hb dX4_takeOrder_136 rfl (lv_at hl 1 rfl) ?_
      refine va_get (D := (dC, dI)) (ci := 4) (v := .int (s12 12 0)) (C := RX4) (T := TX4) (N := 16) hx hb hts hin0 hown hK hP 0 rfl rfl 12 (by decide) (hts (.fieldLink RX4 219 "MeanLocksModel" "isWrong" "Z") (List.mem_of_getElem? (i := 4) rfl)) (fun _ h9 => h9) rfl dX4_takeOrder_137 ?_
      refine lv_if_ne (tgt := 156) hx hb dX4_takeOrder_140 (by decide) (fun hc => ?_) (fun hc => ?_)
      · have h0 := it_f h0 hc
        refine lv_iconst (v := (0 : Int32)) hx hb dX4_takeOrder_156 (by decide) ?_
        obtain ⟨hi, h0⟩ := ax_some h0
        obtain ⟨s13, es13, h0⟩ := nm_some h0
        refine x_iast (ws' := wM cA h ad s13) hC hK hP hD hS 10 0 rfl rfl (by rw [es13]; exact wM_s15 _ _ _ _ _) hi dX4_takeOrder_157 (fun H locs hP hD hS => ?_)
        refine lv_aload_n hx hb dX4_takeOrder_158 rfl (lv_at hl 1 rfl) ?_
        refine lv_dup hx hb dX4_takeOrder_159 rfl ?_
        refine va_get (D := (dC, dI)) (ci := 4) (v := .int (s13 11 0)) (C := RX4) (T := TX4) (N := 16) hx hb hts hin0 hown hK hP 0 rfl rfl 11 (by decide) (hts (.fieldLink RX4 216 "MeanLocksModel" "spot" "I") (List.mem_of_getElem? (i := 1) rfl)) (fun _ h9 => h9) rfl dX4_takeOrder_160 ?_
        refine lv_aload_n hx hb dX4_takeOrder_163 rfl (lv_at hl 1 rfl) ?_
        refine va_get (D := (dC, dI)) (ci := 4) (v := .ref (ad 15)) (C := RX4) (T := TX4) (N := 16) hx hb hts hin0 hown hK hP 0 rfl rfl 15 (by decide) (hts (.fieldLink RX4 38 "MeanLocksModel" "numbers" "[I") (List.mem_of_getElem? (i := 2) rfl)) (fun _ h9 => h9) rfl dX4_takeOrder_164 ?_
        refine lv_iconst (v := (4 : Int32)) hx hb dX4_takeOrder_167 (by decide) ?_
        refine lv_aload_n hx hb dX4_takeOrder_168 rfl (lv_at hl 1 rfl) ?_
        refine va_get (D := (dC, dI)) (ci := 4) (v := .int (s13 13 0)) (C := RX4) (T := TX4) (N := 16) hx hb hts hin0 hown hK hP 0 rfl rfl 13 (by decide) (hts (.fieldLink RX4 226 "MeanLocksModel" "orders" "I") (List.mem_of_getElem? (i := 3) rfl)) (fun _ h9 => h9) rfl dX4_takeOrder_169 ?_
        refine lv_imul hx hb dX4_takeOrder_172 ?_
        refine lv_iconst (v := (3 : Int32)) hx hb dX4_takeOrder_173 (by decide) ?_
        refine lv_iadd hx hb dX4_takeOrder_174 ?_
        obtain ⟨hi, h0⟩ := ax_some h0
        refine va_iald hx hb hK hP 10 0 rfl rfl hi dX4_takeOrder_175 ?_
        refine lv_iadd hx hb dX4_takeOrder_176 ?_
        obtain ⟨s14, es14, h0⟩ := nm_some h0
        refine x_put (D := (dC, dI)) (ws' := wM cA h ad s14) (ci := 4) (fs := [.ref (ad 0), .ref (ad 1), .int (s13 2 0), .int (s13 3 0), .ref (ad 4), .ref (ad 5), .ref (ad 6), .ref (ad 7), .int (s13 8 0), .ref (ad 9), .ref (ad 10), .int (s13 11 0), .int (s13 12 0), .int (s13 13 0), .ref (ad 14), .ref (ad 15)]) (v := .int ((s13 11 0) + (s13 15 (((4 : Int32) * (s13 13 0)) + (3 : Int32) : Int32).toNatClampNeg))) (ty := .int) (C := RX4) (T := TX4) (N := 16) hC hin0 tyX4 tyX4_ok nmX4 hK hP hD hS 0 rfl rfl 11 (by decide) (hts (.fieldLink RX4 216 "MeanLocksModel" "spot" "I") (List.mem_of_getElem? (i := 1) rfl)) rfl rfl rfl rfl (by decide +kernel) (Nat.le_of_ble_eq_true rfl) (by rw [es14]; exact wM_s11 _ _ _ _ _) dX4_takeOrder_177 (fun H locs hP hD hS => ?_)
        refine lv_goto (tgt := 223) hx hb dX4_takeOrder_180 (by decide) ?_
        refine lv_aload_n hx hb dX4_takeOrder_223 rfl (lv_at hl 1 rfl) ?_
        refine va_get (D := (dC, dI)) (ci := 4) (v := .int (s14 12 0)) (C := RX4) (T := TX4) (N := 16) hx hb hts hin0 hown hK hP 0 rfl rfl 12 (by decide) (hts (.fieldLink RX4 219 "MeanLocksModel" "isWrong" "Z") (List.mem_of_getElem? (i := 4) rfl)) (fun _ h9 => h9) rfl dX4_takeOrder_224 ?_
        refine lv_if_ne (tgt := 250) hx hb dX4_takeOrder_227 (by decide) (fun hc => ?_) (fun hc => ?_)
        · have h0 := it_f h0 hc
          have e1 := Option.some.inj h0
          exact x_retV hC hr hlocks hP hD hS dX4_takeOrder_250 (by rw [← e1])
        · have h0 := it_t h0 hc
          refine lv_aload_n hx hb dX4_takeOrder_230 rfl (lv_at hl 1 rfl) ?_
          refine va_get (D := (dC, dI)) (ci := 4) (v := .ref (ad 14)) (C := RX4) (T := TX4) (N := 16) hx hb hts hin0 hown hK hP 0 rfl rfl 14 (by decide) (hts (.fieldLink RX4 35 "MeanLocksModel" "sort" "[I") (List.mem_of_getElem? (i := 5) rfl)) (fun _ h9 => h9) rfl dX4_takeOrder_231 ?_
          refine lv_aload_n hx hb dX4_takeOrder_234 rfl (lv_at hl 1 rfl) ?_
          refine va_get (D := (dC, dI)) (ci := 4) (v := .int (s14 13 0)) (C := RX4) (T := TX4) (N := 16) hx hb hts hin0 hown hK hP 0 rfl rfl 13 (by decide) (hts (.fieldLink RX4 226 "MeanLocksModel" "orders" "I") (List.mem_of_getElem? (i := 3) rfl)) (fun _ h9 => h9) rfl dX4_takeOrder_235 ?_
          refine lv_iload_n hx hb dX4_takeOrder_238 rfl (lv_at hl 0 rfl) ?_
          obtain ⟨hi, h0⟩ := ax_some h0
          obtain ⟨s15, es15, h0⟩ := nm_some h0
          refine x_iast (ws' := wM cA h ad s15) hC hK hP hD hS 9 0 rfl rfl (by rw [es15]; exact wM_s14 _ _ _ _ _) hi dX4_takeOrder_239 (fun H locs hP hD hS => ?_)
          refine lv_aload_n hx hb dX4_takeOrder_240 rfl (lv_at hl 1 rfl) ?_
          refine lv_dup hx hb dX4_takeOrder_241 rfl ?_
          refine va_get (D := (dC, dI)) (ci := 4) (v := .int (s15 13 0)) (C := RX4) (T := TX4) (N := 16) hx hb hts hin0 hown hK hP 0 rfl rfl 13 (by decide) (hts (.fieldLink RX4 226 "MeanLocksModel" "orders" "I") (List.mem_of_getElem? (i := 3) rfl)) (fun _ h9 => h9) rfl dX4_takeOrder_242 ?_
          refine lv_iconst (v := (1 : Int32)) hx hb dX4_takeOrder_245 (by decide) ?_
          refine lv_iadd hx hb dX4_takeOrder_246 ?_
          obtain ⟨s16, es16, h0⟩ := nm_some h0
          refine x_put (D := (dC, dI)) (ws' := wM cA h ad s16) (ci := 4) (fs := [.ref (ad 0), .ref (ad 1), .int (s15 2 0), .int (s15 3 0), .ref (ad 4), .ref (ad 5), .ref (ad 6), .ref (ad 7), .int (s15 8 0), .ref (ad 9), .ref (ad 10), .int (s15 11 0), .int (s15 12 0), .int (s15 13 0), .ref (ad 14), .ref (ad 15)]) (v := .int ((s15 13 0) + (1 : Int32))) (ty := .int) (C := RX4) (T := TX4) (N := 16) hC hin0 tyX4 tyX4_ok nmX4 hK hP hD hS 0 rfl rfl 13 (by decide) (hts (.fieldLink RX4 226 "MeanLocksModel" "orders" "I") (List.mem_of_getElem? (i := 3) rfl)) rfl rfl rfl rfl (by decide +kernel) (Nat.le_of_ble_eq_true rfl) (by rw [es16]; exact wM_s13 _ _ _ _ _) dX4_takeOrder_247 (fun H locs hP hD hS => ?_)
          have e1 := Option.some.inj h0
          exact x_retV hC hr hlocks hP hD hS dX4_takeOrder_250 (by rw [← e1])
      · have h0 := it_t h0 hc
        refine lv_aload_n hx hb dX4_takeOrder_143 rfl (lv_at hl 1 rfl) ?_
        obtain ⟨r17, hf5, h0⟩ := bnd_some h0
        refine x_VI (As := []) (rest := [.int (((4 : Int32) * (s12 13 0)) + (3 : Int32)), .ref (ad 15)]) hC (kX4_next l dC dI cA h ad s12 r17  hf5) (cwV 0 hts gX4_takeOrder_X4_next rfl rfl rfl (by decide +kernel) ⟨Nat.le_of_ble_eq_true rfl, Nat.le_of_ble_eq_true rfl⟩) 0 4 hV hN hK hP hD hS hA rfl rfl rfl rfl hl.1 rfl (Nat.le_of_ble_eq_true rfl) ⟨Nat.zero_le _, Nat.zero_le _⟩ dX4_takeOrder_144 (fun H locs hP hD hS => ?_)
        refine lv_bipush (v := (33 : Int32)) hx hb dX4_takeOrder_147 (by decide) ?_
        refine lv_icmp_ne (tgt := 156) hx hb dX4_takeOrder_149 (by decide) (fun hc => ?_) (fun hc => ?_)
        · have h0 := it_f h0 hc
          refine lv_iconst (v := (0 : Int32)) hx hb dX4_takeOrder_156 (by decide) ?_
          obtain ⟨hi, h0⟩ := ax_some h0
          obtain ⟨s18, es18, h0⟩ := nm_some h0
          refine x_iast (ws' := wM cA h ad s18) hC hK hP hD hS 10 0 rfl rfl (by rw [es18]; exact wM_s15 _ _ _ _ _) hi dX4_takeOrder_157 (fun H locs hP hD hS => ?_)
          refine lv_aload_n hx hb dX4_takeOrder_158 rfl (lv_at hl 1 rfl) ?_
          refine lv_dup hx hb dX4_takeOrder_159 rfl ?_
          refine va_get (D := (dC, dI)) (ci := 4) (v := .int (s18 11 0)) (C := RX4) (T := TX4) (N := 16) hx hb hts hin0 hown hK hP 0 rfl rfl 11 (by decide) (hts (.fieldLink RX4 216 "MeanLocksModel" "spot" "I") (List.mem_of_getElem? (i := 1) rfl)) (fun _ h9 => h9) rfl dX4_takeOrder_160 ?_
          refine lv_aload_n hx hb dX4_takeOrder_163 rfl (lv_at hl 1 rfl) ?_
          refine va_get (D := (dC, dI)) (ci := 4) (v := .ref (ad 15)) (C := RX4) (T := TX4) (N := 16) hx hb hts hin0 hown hK hP 0 rfl rfl 15 (by decide) (hts (.fieldLink RX4 38 "MeanLocksModel" "numbers" "[I") (List.mem_of_getElem? (i := 2) rfl)) (fun _ h9 => h9) rfl dX4_takeOrder_164 ?_
          refine lv_iconst (v := (4 : Int32)) hx hb dX4_takeOrder_167 (by decide) ?_
          refine lv_aload_n hx hb dX4_takeOrder_168 rfl (lv_at hl 1 rfl) ?_
          refine va_get (D := (dC, dI)) (ci := 4) (v := .int (s18 13 0)) (C := RX4) (T := TX4) (N := 16) hx hb hts hin0 hown hK hP 0 rfl rfl 13 (by decide) (hts (.fieldLink RX4 226 "MeanLocksModel" "orders" "I") (List.mem_of_getElem? (i := 3) rfl)) (fun _ h9 => h9) rfl dX4_takeOrder_169 ?_
          refine lv_imul hx hb dX4_takeOrder_172 ?_
          refine lv_iconst (v := (3 : Int32)) hx hb dX4_takeOrder_173 (by decide) ?_
          refine lv_iadd hx hb dX4_takeOrder_174 ?_
          obtain ⟨hi, h0⟩ := ax_some h0
          refine va_iald hx hb hK hP 10 0 rfl rfl hi dX4_takeOrder_175 ?_
          refine lv_iadd hx hb dX4_takeOrder_176 ?_
          obtain ⟨s19, es19, h0⟩ := nm_some h0
          refine x_put (D := (dC, dI)) (ws' := wM cA h ad s19) (ci := 4) (fs := [.ref (ad 0), .ref (ad 1), .int (s18 2 0), .int (s18 3 0), .ref (ad 4), .ref (ad 5), .ref (ad 6), .ref (ad 7), .int (s18 8 0), .ref (ad 9), .ref (ad 10), .int (s18 11 0), .int (s18 12 0), .int (s18 13 0), .ref (ad 14), .ref (ad 15)]) (v := .int ((s18 11 0) + (s18 15 (((4 : Int32) * (s18 13 0)) + (3 : Int32) : Int32).toNatClampNeg))) (ty := .int) (C := RX4) (T := TX4) (N := 16) hC hin0 tyX4 tyX4_ok nmX4 hK hP hD hS 0 rfl rfl 11 (by decide) (hts (.fieldLink RX4 216 "MeanLocksModel" "spot" "I") (List.mem_of_getElem? (i := 1) rfl)) rfl rfl rfl rfl (by decide +kernel) (Nat.le_of_ble_eq_true rfl) (by rw [es19]; exact wM_s11 _ _ _ _ _) dX4_takeOrder_177 (fun H locs hP hD hS => ?_)
          refine lv_goto (tgt := 223) hx hb dX4_takeOrder_180 (by decide) ?_
          refine lv_aload_n hx hb dX4_takeOrder_223 rfl (lv_at hl 1 rfl) ?_
          refine va_get (D := (dC, dI)) (ci := 4) (v := .int (s19 12 0)) (C := RX4) (T := TX4) (N := 16) hx hb hts hin0 hown hK hP 0 rfl rfl 12 (by decide) (hts (.fieldLink RX4 219 "MeanLocksModel" "isWrong" "Z") (List.mem_of_getElem? (i := 4) rfl)) (fun _ h9 => h9) rfl dX4_takeOrder_224 ?_
          refine lv_if_ne (tgt := 250) hx hb dX4_takeOrder_227 (by decide) (fun hc => ?_) (fun hc => ?_)
          · have h0 := it_f h0 hc
            have e1 := Option.some.inj h0
            exact x_retV hC hr hlocks hP hD hS dX4_takeOrder_250 (by rw [← e1])
          · have h0 := it_t h0 hc
            refine lv_aload_n hx hb dX4_takeOrder_230 rfl (lv_at hl 1 rfl) ?_
            refine va_get (D := (dC, dI)) (ci := 4) (v := .ref (ad 14)) (C := RX4) (T := TX4) (N := 16) hx hb hts hin0 hown hK hP 0 rfl rfl 14 (by decide) (hts (.fieldLink RX4 35 "MeanLocksModel" "sort" "[I") (List.mem_of_getElem? (i := 5) rfl)) (fun _ h9 => h9) rfl dX4_takeOrder_231 ?_
            refine lv_aload_n hx hb dX4_takeOrder_234 rfl (lv_at hl 1 rfl) ?_
            refine va_get (D := (dC, dI)) (ci := 4) (v := .int (s19 13 0)) (C := RX4) (T := TX4) (N := 16) hx hb hts hin0 hown hK hP 0 rfl rfl 13 (by decide) (hts (.fieldLink RX4 226 "MeanLocksModel" "orders" "I") (List.mem_of_getElem? (i := 3) rfl)) (fun _ h9 => h9) rfl dX4_takeOrder_235 ?_
            refine lv_iload_n hx hb dX4_takeOrder_238 rfl (lv_at hl 0 rfl) ?_
            obtain ⟨hi, h0⟩ := ax_some h0
            obtain ⟨s20, es20, h0⟩ := nm_some h0
            refine x_iast (ws' := wM cA h ad s20) hC hK hP hD hS 9 0 rfl rfl (by rw [es20]; exact wM_s14 _ _ _ _ _) hi dX4_takeOrder_239 (fun H locs hP hD hS => ?_)
            refine lv_aload_n hx hb dX4_takeOrder_240 rfl (lv_at hl 1 rfl) ?_
            refine lv_dup hx hb dX4_takeOrder_241 rfl ?_
            refine va_get (D := (dC, dI)) (ci := 4) (v := .int (s20 13 0)) (C := RX4) (T := TX4) (N := 16) hx hb hts hin0 hown hK hP 0 rfl rfl 13 (by decide) (hts (.fieldLink RX4 226 "MeanLocksModel" "orders" "I") (List.mem_of_getElem? (i := 3) rfl)) (fun _ h9 => h9) rfl dX4_takeOrder_242 ?_
            refine lv_iconst (v := (1 : Int32)) hx hb dX4_takeOrder_245 (by decide) ?_
            refine lv_iadd hx hb dX4_takeOrder_246 ?_
            obtain ⟨s21, es21, h0⟩ := nm_some h0
            refine x_put (D := (dC, dI)) (ws' := wM cA h ad s21) (ci := 4) (fs := [.ref (ad 0), .ref (ad 1), .int (s20 2 0), .int (s20 3 0), .ref (ad 4), .ref (ad 5), .ref (ad 6), .ref (ad 7), .int (s20 8 0), .ref (ad 9), .ref (ad 10), .int (s20 11 0), .int (s20 12 0), .int (s20 13 0), .ref (ad 14), .ref (ad 15)]) (v := .int ((s20 13 0) + (1 : Int32))) (ty := .int) (C := RX4) (T := TX4) (N := 16) hC hin0 tyX4 tyX4_ok nmX4 hK hP hD hS 0 rfl rfl 13 (by decide) (hts (.fieldLink RX4 226 "MeanLocksModel" "orders" "I") (List.mem_of_getElem? (i := 3) rfl)) rfl rfl rfl rfl (by decide +kernel) (Nat.le_of_ble_eq_true rfl) (by rw [es21]; exact wM_s13 _ _ _ _ _) dX4_takeOrder_247 (fun H locs hP hD hS => ?_)
            have e1 := Option.some.inj h0
            exact x_retV hC hr hlocks hP hD hS dX4_takeOrder_250 (by rw [← e1])
        · have h0 := it_t h0 hc
          refine lv_iconst (v := (1 : Int32)) hx hb dX4_takeOrder_152 (by decide) ?_
          refine lv_goto (tgt := 157) hx hb dX4_takeOrder_153 (by decide) ?_
          obtain ⟨hi, h0⟩ := ax_some h0
          obtain ⟨s22, es22, h0⟩ := nm_some h0
          refine x_iast (ws' := wM cA h ad s22) hC hK hP hD hS 10 0 rfl rfl (by rw [es22]; exact wM_s15 _ _ _ _ _) hi dX4_takeOrder_157 (fun H locs hP hD hS => ?_)
          refine lv_aload_n hx hb dX4_takeOrder_158 rfl (lv_at hl 1 rfl) ?_
          refine lv_dup hx hb dX4_takeOrder_159 rfl ?_
          refine va_get (D := (dC, dI)) (ci := 4) (v := .int (s22 11 0)) (C := RX4) (T := TX4) (N := 16) hx hb hts hin0 hown hK hP 0 rfl rfl 11 (by decide) (hts (.fieldLink RX4 216 "MeanLocksModel" "spot" "I") (List.mem_of_getElem? (i := 1) rfl)) (fun _ h9 => h9) rfl dX4_takeOrder_160 ?_
          refine lv_aload_n hx hb dX4_takeOrder_163 rfl (lv_at hl 1 rfl) ?_
          refine va_get (D := (dC, dI)) (ci := 4) (v := .ref (ad 15)) (C := RX4) (T := TX4) (N := 16) hx hb hts hin0 hown hK hP 0 rfl rfl 15 (by decide) (hts (.fieldLink RX4 38 "MeanLocksModel" "numbers" "[I") (List.mem_of_getElem? (i := 2) rfl)) (fun _ h9 => h9) rfl dX4_takeOrder_164 ?_
          refine lv_iconst (v := (4 : Int32)) hx hb dX4_takeOrder_167 (by decide) ?_
          refine lv_aload_n hx hb dX4_takeOrder_168 rfl (lv_at hl 1 rfl) ?_
          refine va_get (D := (dC, dI)) (ci := 4) (v := .int (s22 13 0)) (C := RX4) (T := TX4) (N := 16) hx hb hts hin0 hown hK hP 0 rfl rfl 13 (by decide) (hts (.fieldLink RX4 226 "MeanLocksModel" "orders" "I") (List.mem_of_getElem? (i := 3) rfl)) (fun _ h9 => h9) rfl dX4_takeOrder_169 ?_
          refine lv_imul hx hb dX4_takeOrder_172 ?_
          refine lv_iconst (v := (3 : Int32)) hx hb dX4_takeOrder_173 (by decide) ?_
          refine lv_iadd hx hb dX4_takeOrder_174 ?_
          obtain ⟨hi, h0⟩ := ax_some h0
          refine va_iald hx hb hK hP 10 0 rfl rfl hi dX4_takeOrder_175 ?_
          refine lv_iadd hx hb dX4_takeOrder_176 ?_
          obtain ⟨s23, es23, h0⟩ := nm_some h0
          refine x_put (D := (dC, dI)) (ws' := wM cA h ad s23) (ci := 4) (fs := [.ref (ad 0), .ref (ad 1), .int (s22 2 0), .int (s22 3 0), .ref (ad 4), .ref (ad 5), .ref (ad 6), .ref (ad 7), .int (s22 8 0), .ref (ad 9), .ref (ad 10), .int (s22 11 0), .int (s22 12 0), .int (s22 13 0), .ref (ad 14), .ref (ad 15)]) (v := .int ((s22 11 0) + (s22 15 (((4 : Int32) * (s22 13 0)) + (3 : Int32) : Int32).toNatClampNeg))) (ty := .int) (C := RX4) (T := TX4) (N := 16) hC hin0 tyX4 tyX4_ok nmX4 hK hP hD hS 0 rfl rfl 11 (by decide) (hts (.fieldLink RX4 216 "MeanLocksModel" "spot" "I") (List.mem_of_getElem? (i := 1) rfl)) rfl rfl rfl rfl (by decide +kernel) (Nat.le_of_ble_eq_true rfl) (by rw [es23]; exact wM_s11 _ _ _ _ _) dX4_takeOrder_177 (fun H locs hP hD hS => ?_)
          refine lv_goto (tgt := 223) hx hb dX4_takeOrder_180 (by decide) ?_
          refine lv_aload_n hx hb dX4_takeOrder_223 rfl (lv_at hl 1 rfl) ?_
          refine va_get (D := (dC, dI)) (ci := 4) (v := .int (s23 12 0)) (C := RX4) (T := TX4) (N := 16) hx hb hts hin0 hown hK hP 0 rfl rfl 12 (by decide) (hts (.fieldLink RX4 219 "MeanLocksModel" "isWrong" "Z") (List.mem_of_getElem? (i := 4) rfl)) (fun _ h9 => h9) rfl dX4_takeOrder_224 ?_
          refine lv_if_ne (tgt := 250) hx hb dX4_takeOrder_227 (by decide) (fun hc => ?_) (fun hc => ?_)
          · have h0 := it_f h0 hc
            have e1 := Option.some.inj h0
            exact x_retV hC hr hlocks hP hD hS dX4_takeOrder_250 (by rw [← e1])
          · have h0 := it_t h0 hc
            refine lv_aload_n hx hb dX4_takeOrder_230 rfl (lv_at hl 1 rfl) ?_
            refine va_get (D := (dC, dI)) (ci := 4) (v := .ref (ad 14)) (C := RX4) (T := TX4) (N := 16) hx hb hts hin0 hown hK hP 0 rfl rfl 14 (by decide) (hts (.fieldLink RX4 35 "MeanLocksModel" "sort" "[I") (List.mem_of_getElem? (i := 5) rfl)) (fun _ h9 => h9) rfl dX4_takeOrder_231 ?_
            refine lv_aload_n hx hb dX4_takeOrder_234 rfl (lv_at hl 1 rfl) ?_
            refine va_get (D := (dC, dI)) (ci := 4) (v := .int (s23 13 0)) (C := RX4) (T := TX4) (N := 16) hx hb hts hin0 hown hK hP 0 rfl rfl 13 (by decide) (hts (.fieldLink RX4 226 "MeanLocksModel" "orders" "I") (List.mem_of_getElem? (i := 3) rfl)) (fun _ h9 => h9) rfl dX4_takeOrder_235 ?_
            refine lv_iload_n hx hb dX4_takeOrder_238 rfl (lv_at hl 0 rfl) ?_
            obtain ⟨hi, h0⟩ := ax_some h0
            obtain ⟨s24, es24, h0⟩ := nm_some h0
            refine x_iast (ws' := wM cA h ad s24) hC hK hP hD hS 9 0 rfl rfl (by rw [es24]; exact wM_s14 _ _ _ _ _) hi dX4_takeOrder_239 (fun H locs hP hD hS => ?_)
            refine lv_aload_n hx hb dX4_takeOrder_240 rfl (lv_at hl 1 rfl) ?_
            refine lv_dup hx hb dX4_takeOrder_241 rfl ?_
            refine va_get (D := (dC, dI)) (ci := 4) (v := .int (s24 13 0)) (C := RX4) (T := TX4) (N := 16) hx hb hts hin0 hown hK hP 0 rfl rfl 13 (by decide) (hts (.fieldLink RX4 226 "MeanLocksModel" "orders" "I") (List.mem_of_getElem? (i := 3) rfl)) (fun _ h9 => h9) rfl dX4_takeOrder_242 ?_
            refine lv_iconst (v := (1 : Int32)) hx hb dX4_takeOrder_245 (by decide) ?_
            refine lv_iadd hx hb dX4_takeOrder_246 ?_
            obtain ⟨s25, es25, h0⟩ := nm_some h0
            refine x_put (D := (dC, dI)) (ws' := wM cA h ad s25) (ci := 4) (fs := [.ref (ad 0), .ref (ad 1), .int (s24 2 0), .int (s24 3 0), .ref (ad 4), .ref (ad 5), .ref (ad 6), .ref (ad 7), .int (s24 8 0), .ref (ad 9), .ref (ad 10), .int (s24 11 0), .int (s24 12 0), .int (s24 13 0), .ref (ad 14), .ref (ad 15)]) (v := .int ((s24 13 0) + (1 : Int32))) (ty := .int) (C := RX4) (T := TX4) (N := 16) hC hin0 tyX4 tyX4_ok nmX4 hK hP hD hS 0 rfl rfl 13 (by decide) (hts (.fieldLink RX4 226 "MeanLocksModel" "orders" "I") (List.mem_of_getElem? (i := 3) rfl)) rfl rfl rfl rfl (by decide +kernel) (Nat.le_of_ble_eq_true rfl) (by rw [es25]; exact wM_s13 _ _ _ _ _) dX4_takeOrder_247 (fun H locs hP hD hS => ?_)
            have e1 := Option.some.inj h0
            exact x_retV hC hr hlocks hP hD hS dX4_takeOrder_250 (by rw [← e1])
    rcases hq109 with hk | hk | hk
    · refine lv_tableIn (tgt := 120) hx hb dX4_takeOrder_16 (by rw [hk]; decide) (by rw [hk]; decide) (off := 104) (by rw [hk]; rfl) (by decide) ?_
      exact hg
    · refine lv_tableIn (tgt := 120) hx hb dX4_takeOrder_16 (by rw [hk]; decide) (by rw [hk]; decide) (off := 104) (by rw [hk]; rfl) (by decide) ?_
      exact hg
    · refine lv_tableIn (tgt := 120) hx hb dX4_takeOrder_16 (by rw [hk]; decide) (by rw [hk]; decide) (off := 104) (by rw [hk]; rfl) (by decide) ?_
      exact hg
  have h0 := it_f h0 hq109
  by_cases hq116 : (r1 : Int32) = (116 : Int32)
  · have h0 := it_t h0 hq116
    refine lv_tableIn (tgt := 200) hx hb dX4_takeOrder_16 (by rw [hq116]; decide) (by rw [hq116]; decide) (off := 184) (by rw [hq116]; rfl) (by decide) ?_
    refine lv_aload_n hx hb dX4_takeOrder_200 rfl (lv_at hl 1 rfl) ?_
    refine lv_iconst (v := (0 : Int32)) hx hb dX4_takeOrder_201 (by decide) ?_
    obtain ⟨s27, hf6, h0⟩ := bnd_some h0
    refine x_VV (As := [.int (0 : Int32)]) (rest := []) hC (kX4_takeNumber l dC dI cA h ad (0 : Int32) s2 s27 hf6) (cwV 1 hts gX4_takeOrder_X4_takeNumber rfl rfl rfl (by decide +kernel) ⟨Nat.le_of_ble_eq_true rfl, Nat.le_of_ble_eq_true rfl⟩) 0 4 hV hN hK hP hD hS hA rfl rfl rfl rfl hl.1 rfl (Nat.le_of_ble_eq_true rfl) ⟨Nat.zero_le _, Nat.zero_le _⟩ dX4_takeOrder_202 (fun H locs hP hD hS => ?_)
    refine lv_goto (tgt := 223) hx hb dX4_takeOrder_205 (by decide) ?_
    refine lv_aload_n hx hb dX4_takeOrder_223 rfl (lv_at hl 1 rfl) ?_
    refine va_get (D := (dC, dI)) (ci := 4) (v := .int (s27 12 0)) (C := RX4) (T := TX4) (N := 16) hx hb hts hin0 hown hK hP 0 rfl rfl 12 (by decide) (hts (.fieldLink RX4 219 "MeanLocksModel" "isWrong" "Z") (List.mem_of_getElem? (i := 4) rfl)) (fun _ h9 => h9) rfl dX4_takeOrder_224 ?_
    refine lv_if_ne (tgt := 250) hx hb dX4_takeOrder_227 (by decide) (fun hc => ?_) (fun hc => ?_)
    · have h0 := it_f h0 hc
      have e1 := Option.some.inj h0
      exact x_retV hC hr hlocks hP hD hS dX4_takeOrder_250 (by rw [← e1])
    · have h0 := it_t h0 hc
      refine lv_aload_n hx hb dX4_takeOrder_230 rfl (lv_at hl 1 rfl) ?_
      refine va_get (D := (dC, dI)) (ci := 4) (v := .ref (ad 14)) (C := RX4) (T := TX4) (N := 16) hx hb hts hin0 hown hK hP 0 rfl rfl 14 (by decide) (hts (.fieldLink RX4 35 "MeanLocksModel" "sort" "[I") (List.mem_of_getElem? (i := 5) rfl)) (fun _ h9 => h9) rfl dX4_takeOrder_231 ?_
      refine lv_aload_n hx hb dX4_takeOrder_234 rfl (lv_at hl 1 rfl) ?_
      refine va_get (D := (dC, dI)) (ci := 4) (v := .int (s27 13 0)) (C := RX4) (T := TX4) (N := 16) hx hb hts hin0 hown hK hP 0 rfl rfl 13 (by decide) (hts (.fieldLink RX4 226 "MeanLocksModel" "orders" "I") (List.mem_of_getElem? (i := 3) rfl)) (fun _ h9 => h9) rfl dX4_takeOrder_235 ?_
      refine lv_iload_n hx hb dX4_takeOrder_238 rfl (lv_at hl 0 rfl) ?_
      obtain ⟨hi, h0⟩ := ax_some h0
      obtain ⟨s28, es28, h0⟩ := nm_some h0
      refine x_iast (ws' := wM cA h ad s28) hC hK hP hD hS 9 0 rfl rfl (by rw [es28]; exact wM_s14 _ _ _ _ _) hi dX4_takeOrder_239 (fun H locs hP hD hS => ?_)
      refine lv_aload_n hx hb dX4_takeOrder_240 rfl (lv_at hl 1 rfl) ?_
      refine lv_dup hx hb dX4_takeOrder_241 rfl ?_
      refine va_get (D := (dC, dI)) (ci := 4) (v := .int (s28 13 0)) (C := RX4) (T := TX4) (N := 16) hx hb hts hin0 hown hK hP 0 rfl rfl 13 (by decide) (hts (.fieldLink RX4 226 "MeanLocksModel" "orders" "I") (List.mem_of_getElem? (i := 3) rfl)) (fun _ h9 => h9) rfl dX4_takeOrder_242 ?_
      refine lv_iconst (v := (1 : Int32)) hx hb dX4_takeOrder_245 (by decide) ?_
      refine lv_iadd hx hb dX4_takeOrder_246 ?_
      obtain ⟨s29, es29, h0⟩ := nm_some h0
      refine x_put (D := (dC, dI)) (ws' := wM cA h ad s29) (ci := 4) (fs := [.ref (ad 0), .ref (ad 1), .int (s28 2 0), .int (s28 3 0), .ref (ad 4), .ref (ad 5), .ref (ad 6), .ref (ad 7), .int (s28 8 0), .ref (ad 9), .ref (ad 10), .int (s28 11 0), .int (s28 12 0), .int (s28 13 0), .ref (ad 14), .ref (ad 15)]) (v := .int ((s28 13 0) + (1 : Int32))) (ty := .int) (C := RX4) (T := TX4) (N := 16) hC hin0 tyX4 tyX4_ok nmX4 hK hP hD hS 0 rfl rfl 13 (by decide) (hts (.fieldLink RX4 226 "MeanLocksModel" "orders" "I") (List.mem_of_getElem? (i := 3) rfl)) rfl rfl rfl rfl (by decide +kernel) (Nat.le_of_ble_eq_true rfl) (by rw [es29]; exact wM_s13 _ _ _ _ _) dX4_takeOrder_247 (fun H locs hP hD hS => ?_)
      have e1 := Option.some.inj h0
      exact x_retV hC hr hlocks hP hD hS dX4_takeOrder_250 (by rw [← e1])
  have h0 := it_f h0 hq116
  have hg : W p l e (headSpec wsX4_takeOrder rmX4_takeOrder).room s m av below meth c H locs 0 0 (MQ below (qV (dC, dI) A (wM cA h ad σ')) av s 0 0 A) (F0 m 208 ls []) := by
    refine lv_aload_n hx hb dX4_takeOrder_208 rfl (lv_at hl 1 rfl) ?_
    refine lv_dup hx hb dX4_takeOrder_209 rfl ?_
    refine va_get (D := (dC, dI)) (ci := 4) (v := .int (s2 11 0)) (C := RX4) (T := TX4) (N := 16) hx hb hts hin0 hown hK hP 0 rfl rfl 11 (by decide) (hts (.fieldLink RX4 216 "MeanLocksModel" "spot" "I") (List.mem_of_getElem? (i := 1) rfl)) (fun _ h9 => h9) rfl dX4_takeOrder_210 ?_
    refine lv_iconst (v := (1 : Int32)) hx hb dX4_takeOrder_213 (by decide) ?_
    refine lv_isub hx hb dX4_takeOrder_214 ?_
    obtain ⟨s30, es30, h0⟩ := nm_some h0
    refine x_put (D := (dC, dI)) (ws' := wM cA h ad s30) (ci := 4) (fs := [.ref (ad 0), .ref (ad 1), .int (s2 2 0), .int (s2 3 0), .ref (ad 4), .ref (ad 5), .ref (ad 6), .ref (ad 7), .int (s2 8 0), .ref (ad 9), .ref (ad 10), .int (s2 11 0), .int (s2 12 0), .int (s2 13 0), .ref (ad 14), .ref (ad 15)]) (v := .int ((s2 11 0) - (1 : Int32))) (ty := .int) (C := RX4) (T := TX4) (N := 16) hC hin0 tyX4 tyX4_ok nmX4 hK hP hD hS 0 rfl rfl 11 (by decide) (hts (.fieldLink RX4 216 "MeanLocksModel" "spot" "I") (List.mem_of_getElem? (i := 1) rfl)) rfl rfl rfl rfl (by decide +kernel) (Nat.le_of_ble_eq_true rfl) (by rw [es30]; exact wM_s11 _ _ _ _ _) dX4_takeOrder_215 (fun H locs hP hD hS => ?_)
    refine lv_aload_n hx hb dX4_takeOrder_218 rfl (lv_at hl 1 rfl) ?_
    refine lv_iconst (v := (1 : Int32)) hx hb dX4_takeOrder_219 (by decide) ?_
    obtain ⟨s31, es31, h0⟩ := nm_some h0
    refine x_put (D := (dC, dI)) (ws' := wM cA h ad s31) (ci := 4) (fs := [.ref (ad 0), .ref (ad 1), .int (s30 2 0), .int (s30 3 0), .ref (ad 4), .ref (ad 5), .ref (ad 6), .ref (ad 7), .int (s30 8 0), .ref (ad 9), .ref (ad 10), .int (s30 11 0), .int (s30 12 0), .int (s30 13 0), .ref (ad 14), .ref (ad 15)]) (v := .int (1 : Int32)) (ty := .boolean) (C := RX4) (T := TX4) (N := 16) hC hin0 tyX4 tyX4_ok nmX4 hK hP hD hS 0 rfl rfl 12 (by decide) (hts (.fieldLink RX4 219 "MeanLocksModel" "isWrong" "Z") (List.mem_of_getElem? (i := 4) rfl)) rfl rfl rfl rfl (by decide +kernel) (Nat.le_of_ble_eq_true rfl) (by rw [es31]; exact wM_s12 _ _ _ _ _) dX4_takeOrder_220 (fun H locs hP hD hS => ?_)
    refine lv_aload_n hx hb dX4_takeOrder_223 rfl (lv_at hl 1 rfl) ?_
    refine va_get (D := (dC, dI)) (ci := 4) (v := .int (s31 12 0)) (C := RX4) (T := TX4) (N := 16) hx hb hts hin0 hown hK hP 0 rfl rfl 12 (by decide) (hts (.fieldLink RX4 219 "MeanLocksModel" "isWrong" "Z") (List.mem_of_getElem? (i := 4) rfl)) (fun _ h9 => h9) rfl dX4_takeOrder_224 ?_
    refine lv_if_ne (tgt := 250) hx hb dX4_takeOrder_227 (by decide) (fun hc => ?_) (fun hc => ?_)
    · have h0 := it_f h0 hc
      have e1 := Option.some.inj h0
      exact x_retV hC hr hlocks hP hD hS dX4_takeOrder_250 (by rw [← e1])
    · have h0 := it_t h0 hc
      refine lv_aload_n hx hb dX4_takeOrder_230 rfl (lv_at hl 1 rfl) ?_
      refine va_get (D := (dC, dI)) (ci := 4) (v := .ref (ad 14)) (C := RX4) (T := TX4) (N := 16) hx hb hts hin0 hown hK hP 0 rfl rfl 14 (by decide) (hts (.fieldLink RX4 35 "MeanLocksModel" "sort" "[I") (List.mem_of_getElem? (i := 5) rfl)) (fun _ h9 => h9) rfl dX4_takeOrder_231 ?_
      refine lv_aload_n hx hb dX4_takeOrder_234 rfl (lv_at hl 1 rfl) ?_
      refine va_get (D := (dC, dI)) (ci := 4) (v := .int (s31 13 0)) (C := RX4) (T := TX4) (N := 16) hx hb hts hin0 hown hK hP 0 rfl rfl 13 (by decide) (hts (.fieldLink RX4 226 "MeanLocksModel" "orders" "I") (List.mem_of_getElem? (i := 3) rfl)) (fun _ h9 => h9) rfl dX4_takeOrder_235 ?_
      refine lv_iload_n hx hb dX4_takeOrder_238 rfl (lv_at hl 0 rfl) ?_
      obtain ⟨hi, h0⟩ := ax_some h0
      obtain ⟨s32, es32, h0⟩ := nm_some h0
      refine x_iast (ws' := wM cA h ad s32) hC hK hP hD hS 9 0 rfl rfl (by rw [es32]; exact wM_s14 _ _ _ _ _) hi dX4_takeOrder_239 (fun H locs hP hD hS => ?_)
      refine lv_aload_n hx hb dX4_takeOrder_240 rfl (lv_at hl 1 rfl) ?_
      refine lv_dup hx hb dX4_takeOrder_241 rfl ?_
      refine va_get (D := (dC, dI)) (ci := 4) (v := .int (s32 13 0)) (C := RX4) (T := TX4) (N := 16) hx hb hts hin0 hown hK hP 0 rfl rfl 13 (by decide) (hts (.fieldLink RX4 226 "MeanLocksModel" "orders" "I") (List.mem_of_getElem? (i := 3) rfl)) (fun _ h9 => h9) rfl dX4_takeOrder_242 ?_
      refine lv_iconst (v := (1 : Int32)) hx hb dX4_takeOrder_245 (by decide) ?_
      refine lv_iadd hx hb dX4_takeOrder_246 ?_
      obtain ⟨s33, es33, h0⟩ := nm_some h0
      refine x_put (D := (dC, dI)) (ws' := wM cA h ad s33) (ci := 4) (fs := [.ref (ad 0), .ref (ad 1), .int (s32 2 0), .int (s32 3 0), .ref (ad 4), .ref (ad 5), .ref (ad 6), .ref (ad 7), .int (s32 8 0), .ref (ad 9), .ref (ad 10), .int (s32 11 0), .int (s32 12 0), .int (s32 13 0), .ref (ad 14), .ref (ad 15)]) (v := .int ((s32 13 0) + (1 : Int32))) (ty := .int) (C := RX4) (T := TX4) (N := 16) hC hin0 tyX4 tyX4_ok nmX4 hK hP hD hS 0 rfl rfl 13 (by decide) (hts (.fieldLink RX4 226 "MeanLocksModel" "orders" "I") (List.mem_of_getElem? (i := 3) rfl)) rfl rfl rfl rfl (by decide +kernel) (Nat.le_of_ble_eq_true rfl) (by rw [es33]; exact wM_s13 _ _ _ _ _) dX4_takeOrder_247 (fun H locs hP hD hS => ?_)
      have e1 := Option.some.inj h0
      exact x_retV hC hr hlocks hP hD hS dX4_takeOrder_250 (by rw [← e1])
  by_cases hin : 99 ≤ (r1 : Int32).toInt ∧ (r1 : Int32).toInt ≤ 120
  · obtain ⟨k, hk⟩ : ∃ k : Int, (r1 : Int32).toInt = k := ⟨_, rfl⟩
    rw [hk] at hin
    rcases (show k = 99 ∨ k = 100 ∨ k = 101 ∨ k = 102 ∨ k = 103 ∨ k = 104 ∨ k = 105 ∨ k = 106 ∨ k = 107 ∨ k = 108 ∨ k = 109 ∨ k = 110 ∨ k = 111 ∨ k = 112 ∨ k = 113 ∨ k = 114 ∨ k = 115 ∨ k = 116 ∨ k = 117 ∨ k = 118 ∨ k = 119 ∨ k = 120 by omega) with rfl | rfl | rfl | rfl | rfl | rfl | rfl | rfl | rfl | rfl | rfl | rfl | rfl | rfl | rfl | rfl | rfl | rfl | rfl | rfl | rfl | rfl
    · exact absurd (Or.inl (sw_eq (n := (99 : Int32)) hk rfl)) hq99
    · refine lv_tableIn (tgt := 208) hx hb dX4_takeOrder_16 (by rw [hk]; decide) (by rw [hk]; decide) (off := 192) (by rw [hk]; rfl) (by decide) hg
    · refine lv_tableIn (tgt := 208) hx hb dX4_takeOrder_16 (by rw [hk]; decide) (by rw [hk]; decide) (off := 192) (by rw [hk]; rfl) (by decide) hg
    · exact absurd (sw_eq (n := (102 : Int32)) hk rfl) hq102
    · refine lv_tableIn (tgt := 208) hx hb dX4_takeOrder_16 (by rw [hk]; decide) (by rw [hk]; decide) (off := 192) (by rw [hk]; rfl) (by decide) hg
    · refine lv_tableIn (tgt := 208) hx hb dX4_takeOrder_16 (by rw [hk]; decide) (by rw [hk]; decide) (off := 192) (by rw [hk]; rfl) (by decide) hg
    · refine lv_tableIn (tgt := 208) hx hb dX4_takeOrder_16 (by rw [hk]; decide) (by rw [hk]; decide) (off := 192) (by rw [hk]; rfl) (by decide) hg
    · refine lv_tableIn (tgt := 208) hx hb dX4_takeOrder_16 (by rw [hk]; decide) (by rw [hk]; decide) (off := 192) (by rw [hk]; rfl) (by decide) hg
    · refine lv_tableIn (tgt := 208) hx hb dX4_takeOrder_16 (by rw [hk]; decide) (by rw [hk]; decide) (off := 192) (by rw [hk]; rfl) (by decide) hg
    · refine lv_tableIn (tgt := 208) hx hb dX4_takeOrder_16 (by rw [hk]; decide) (by rw [hk]; decide) (off := 192) (by rw [hk]; rfl) (by decide) hg
    · exact absurd (Or.inl (sw_eq (n := (109 : Int32)) hk rfl)) hq109
    · refine lv_tableIn (tgt := 208) hx hb dX4_takeOrder_16 (by rw [hk]; decide) (by rw [hk]; decide) (off := 192) (by rw [hk]; rfl) (by decide) hg
    · refine lv_tableIn (tgt := 208) hx hb dX4_takeOrder_16 (by rw [hk]; decide) (by rw [hk]; decide) (off := 192) (by rw [hk]; rfl) (by decide) hg
    · refine lv_tableIn (tgt := 208) hx hb dX4_takeOrder_16 (by rw [hk]; decide) (by rw [hk]; decide) (off := 192) (by rw [hk]; rfl) (by decide) hg
    · refine lv_tableIn (tgt := 208) hx hb dX4_takeOrder_16 (by rw [hk]; decide) (by rw [hk]; decide) (off := 192) (by rw [hk]; rfl) (by decide) hg
    · exact absurd (Or.inr (Or.inl (sw_eq (n := (114 : Int32)) hk rfl))) hq109
    · refine lv_tableIn (tgt := 208) hx hb dX4_takeOrder_16 (by rw [hk]; decide) (by rw [hk]; decide) (off := 192) (by rw [hk]; rfl) (by decide) hg
    · exact absurd (sw_eq (n := (116 : Int32)) hk rfl) hq116
    · refine lv_tableIn (tgt := 208) hx hb dX4_takeOrder_16 (by rw [hk]; decide) (by rw [hk]; decide) (off := 192) (by rw [hk]; rfl) (by decide) hg
    · refine lv_tableIn (tgt := 208) hx hb dX4_takeOrder_16 (by rw [hk]; decide) (by rw [hk]; decide) (off := 192) (by rw [hk]; rfl) (by decide) hg
    · exact absurd (Or.inr (Or.inr (sw_eq (n := (119 : Int32)) hk rfl))) hq109
    · exact absurd (Or.inr (sw_eq (n := (120 : Int32)) hk rfl)) hq99
  · exact lv_tableOut (tgt := 208) hx hb dX4_takeOrder_16 (by omega) (by decide) hg
def bX4_fault_19  (s6 : St) : Option (St ⊕ St) := if ((s6 12 0) : Int32) = (0 : Int32) then (if (s6 8 0) ≤ (s6 11 0) then (some (.inr s6)) else (bnd (fX4_takeSign (59 : Int32) s6) fun s8 => if ((s8 12 0) : Int32) = (0 : Int32) then (bnd (fX4_takeOrder  s8) fun s10 => some (.inl s10)) else (some (.inl s8)))) else (some (.inr s6))
def fX4_fault (σ : St) : Option (Int32 × St) := nm (put σ 11 (fun _ => (0 : Int32))) fun s1 => nm (put s1 12 (fun _ => (0 : Int32))) fun s2 => nm (put s2 13 (fun _ => (0 : Int32))) fun s3 => bnd (fX4_takeOrder  s3) fun s5 => bnd (lp (fun t : St => bX4_fault_19  t) FU s5) (fun e : St => nm e fun s11 => if ((s11 12 0) : Int32) = (0 : Int32) then (some ((-6 : Int32), s11)) else (some (s11 11 0, s11)))
abbrev rmX4_fault : Room := { frames := 5, cells := 0, slots := 0, locals := 109 }
set_option maxHeartbeats 4000000 in
set_option maxRecDepth 100000 in
theorem kX4_fault (l : Launch) (dC : Nat → ClassId) (dI : Nat → Nat → Nat) (cA : Nat → ClassId) (h : Nat) (ad : Nat → Nat) (σ : St) (R0 : Int32) (σ' : St) (h0 : fX4_fault σ = some (R0, σ')) : CI l yX4_fault wsX4_fault rmX4_fault (dC, dI) vwCl (tysW cA) [.ref h] (wM cA h ad σ) R0 (wM cA h ad σ') := by
  refine CGI_of (cc := cX4_fault) (nL := 1) (ret := (some .int)) (by decide) rfl (Nat.le_of_ble_eq_true rfl) ?_
  intro p e s m av below meth c A ls H locs hC hl
  obtain ⟨hC, hr, hlocks, hV, hN, hK, hP, hD, hS, hA⟩ := hC
  have hC : CallFix p m c cX4_fault 1 s _ wsX4_fault RX4 := hC
  obtain ⟨hx, hb, hml, hown, hts⟩ := id hC
  have hin0 : ∀ w ∈ u_ws RX4 TX4 16, w ∈ wsX4_fault := fun _ h => (List.mem_cons_of_mem _ (List.mem_append_right _ h))
  have hl : lv_has ls 1 [(0, .ref h)] := hl
  unfold fX4_fault at h0
  refine lv_aload_n hx hb dX4_fault_0 rfl (lv_at hl 0 rfl) ?_
  refine lv_iconst (v := (0 : Int32)) hx hb dX4_fault_1 (by decide) ?_
  obtain ⟨s1, es1, h0⟩ := nm_some h0
  refine x_put (D := (dC, dI)) (ws' := wM cA h ad s1) (ci := 4) (fs := [.ref (ad 0), .ref (ad 1), .int (σ 2 0), .int (σ 3 0), .ref (ad 4), .ref (ad 5), .ref (ad 6), .ref (ad 7), .int (σ 8 0), .ref (ad 9), .ref (ad 10), .int (σ 11 0), .int (σ 12 0), .int (σ 13 0), .ref (ad 14), .ref (ad 15)]) (v := .int (0 : Int32)) (ty := .int) (C := RX4) (T := TX4) (N := 16) hC hin0 tyX4 tyX4_ok nmX4 hK hP hD hS 0 rfl rfl 11 (by decide) (hts (.fieldLink RX4 216 "MeanLocksModel" "spot" "I") (List.mem_of_getElem? (i := 1) rfl)) rfl rfl rfl rfl (by decide +kernel) (Nat.le_of_ble_eq_true rfl) (by rw [es1]; exact wM_s11 _ _ _ _ _) dX4_fault_2 (fun H locs hP hD hS => ?_)
  refine lv_aload_n hx hb dX4_fault_5 rfl (lv_at hl 0 rfl) ?_
  refine lv_iconst (v := (0 : Int32)) hx hb dX4_fault_6 (by decide) ?_
  obtain ⟨s2, es2, h0⟩ := nm_some h0
  refine x_put (D := (dC, dI)) (ws' := wM cA h ad s2) (ci := 4) (fs := [.ref (ad 0), .ref (ad 1), .int (s1 2 0), .int (s1 3 0), .ref (ad 4), .ref (ad 5), .ref (ad 6), .ref (ad 7), .int (s1 8 0), .ref (ad 9), .ref (ad 10), .int (s1 11 0), .int (s1 12 0), .int (s1 13 0), .ref (ad 14), .ref (ad 15)]) (v := .int (0 : Int32)) (ty := .boolean) (C := RX4) (T := TX4) (N := 16) hC hin0 tyX4 tyX4_ok nmX4 hK hP hD hS 0 rfl rfl 12 (by decide) (hts (.fieldLink RX4 219 "MeanLocksModel" "isWrong" "Z") (List.mem_of_getElem? (i := 2) rfl)) rfl rfl rfl rfl (by decide +kernel) (Nat.le_of_ble_eq_true rfl) (by rw [es2]; exact wM_s12 _ _ _ _ _) dX4_fault_7 (fun H locs hP hD hS => ?_)
  refine lv_aload_n hx hb dX4_fault_10 rfl (lv_at hl 0 rfl) ?_
  refine lv_iconst (v := (0 : Int32)) hx hb dX4_fault_11 (by decide) ?_
  obtain ⟨s3, es3, h0⟩ := nm_some h0
  refine x_put (D := (dC, dI)) (ws' := wM cA h ad s3) (ci := 4) (fs := [.ref (ad 0), .ref (ad 1), .int (s2 2 0), .int (s2 3 0), .ref (ad 4), .ref (ad 5), .ref (ad 6), .ref (ad 7), .int (s2 8 0), .ref (ad 9), .ref (ad 10), .int (s2 11 0), .int (s2 12 0), .int (s2 13 0), .ref (ad 14), .ref (ad 15)]) (v := .int (0 : Int32)) (ty := .int) (C := RX4) (T := TX4) (N := 16) hC hin0 tyX4 tyX4_ok nmX4 hK hP hD hS 0 rfl rfl 13 (by decide) (hts (.fieldLink RX4 226 "MeanLocksModel" "orders" "I") (List.mem_of_getElem? (i := 3) rfl)) rfl rfl rfl rfl (by decide +kernel) (Nat.le_of_ble_eq_true rfl) (by rw [es3]; exact wM_s13 _ _ _ _ _) dX4_fault_12 (fun H locs hP hD hS => ?_)
  refine lv_aload_n hx hb dX4_fault_15 rfl (lv_at hl 0 rfl) ?_
  obtain ⟨s5, hf1, h0⟩ := bnd_some h0
  refine x_VV (As := []) (rest := []) hC (kX4_takeOrder l dC dI cA h ad s3 s5 hf1) (cwV 0 hts gX4_fault_X4_takeOrder rfl rfl rfl (by decide +kernel) ⟨Nat.le_of_ble_eq_true rfl, Nat.le_of_ble_eq_true rfl⟩) 0 4 hV hN hK hP hD hS hA rfl rfl rfl rfl hl.1 rfl (Nat.le_of_ble_eq_true rfl) ⟨Nat.zero_le _, Nat.zero_le _⟩ dX4_fault_16 (fun H locs hP hD hS => ?_)
  obtain ⟨ε2, hl2, h0⟩ := bnd_some h0
  have KN2 : ∀ (s11 : St), ε2 = s11 → ∀ (H : Heap) (locs : List Loc), va_P (dC, dI) vwCl (wM cA h ad s11) H → va_D A (wM cA h ad s11) → va_S A s.heap H locs → ∀ (ls : Array Slot), lv_has ls 1 [(0, .ref h)] → W p l e (headSpec wsX4_fault rmX4_fault).room s m av below meth c H locs 0 0 (MQ below (qI (dC, dI) A R0 (wM cA h ad σ')) av s 0 0 A) (F0 m 57 ls []) := by
    intro s11 hε H locs hP hD hS ls hl
    rw [hε] at h0
    have h0 := nm_at (z := s11) rfl h0
    refine lv_aload_n hx hb dX4_fault_57 rfl (lv_at hl 0 rfl) ?_
    refine va_get (D := (dC, dI)) (ci := 4) (v := .int (s11 12 0)) (C := RX4) (T := TX4) (N := 16) hx hb hts hin0 hown hK hP 0 rfl rfl 12 (by decide) (hts (.fieldLink RX4 219 "MeanLocksModel" "isWrong" "Z") (List.mem_of_getElem? (i := 2) rfl)) (fun _ h9 => h9) rfl dX4_fault_58 ?_
    refine lv_if_eq (tgt := 71) hx hb dX4_fault_61 (by decide) (fun hc => ?_) (fun hc => ?_)
    · have h0 := it_t h0 hc
      refine lv_bipush (v := (-6 : Int32)) hx hb dX4_fault_71 (by decide) ?_
      obtain ⟨e1, e2⟩ := Prod.mk.inj (Option.some.inj h0)
      exact x_retI hC hr hlocks rfl hP hD hS dX4_fault_73 ⟨e1, by rw [← e2]⟩
    · have h0 := it_f h0 hc
      refine lv_aload_n hx hb dX4_fault_64 rfl (lv_at hl 0 rfl) ?_
      refine va_get (D := (dC, dI)) (ci := 4) (v := .int (s11 11 0)) (C := RX4) (T := TX4) (N := 16) hx hb hts hin0 hown hK hP 0 rfl rfl 11 (by decide) (hts (.fieldLink RX4 216 "MeanLocksModel" "spot" "I") (List.mem_of_getElem? (i := 1) rfl)) (fun _ h9 => h9) rfl dX4_fault_65 ?_
      refine lv_goto (tgt := 73) hx hb dX4_fault_68 (by decide) ?_
      obtain ⟨e1, e2⟩ := Prod.mk.inj (Option.some.inj h0)
      exact x_retI hC hr hlocks rfl hP hD hS dX4_fault_73 ⟨e1, by rw [← e2]⟩
  have LP2 : ∀ (n : Nat) (s6 : St), lp (fun t : St => bX4_fault_19  t) n s6 = some ε2 → ∀ (H : Heap) (locs : List Loc), va_P (dC, dI) vwCl (wM cA h ad s6) H → va_D A (wM cA h ad s6) → va_S A s.heap H locs → ∀ (ls : Array Slot), lv_has ls 1 [(0, .ref h)] → W p l e (headSpec wsX4_fault rmX4_fault).room s m av below meth c H locs 0 0 (MQ below (qI (dC, dI) A R0 (wM cA h ad σ')) av s 0 0 A) (F0 m 19 ls []) := by
    intro n
    induction n with
    | zero => intro s6 hl0; exact (lp_0 hl0).elim
    | succ n ih2 =>
      intro s6 hl0 H locs hP hD hS ls hl
      obtain ⟨z2, h1, hz2⟩ := lp_s hl0
      have h1 : bX4_fault_19  s6 = some z2 := h1
      unfold bX4_fault_19 at h1
      refine lv_aload_n hx hb dX4_fault_19 rfl (lv_at hl 0 rfl) ?_
      refine va_get (D := (dC, dI)) (ci := 4) (v := .int (s6 12 0)) (C := RX4) (T := TX4) (N := 16) hx hb hts hin0 hown hK hP 0 rfl rfl 12 (by decide) (hts (.fieldLink RX4 219 "MeanLocksModel" "isWrong" "Z") (List.mem_of_getElem? (i := 2) rfl)) (fun _ h9 => h9) rfl dX4_fault_20 ?_
      refine lv_if_ne (tgt := 57) hx hb dX4_fault_23 (by decide) (fun hc => ?_) (fun hc => ?_)
      · have h1 := it_f h1 hc
        have he := lp_r h1 hz2
        exact KN2 s6 he _ _ hP hD hS ls (lv_sub hl [0] rfl)
      · have h1 := it_t h1 hc
        refine lv_aload_n hx hb dX4_fault_26 rfl (lv_at hl 0 rfl) ?_
        refine va_get (D := (dC, dI)) (ci := 4) (v := .int (s6 11 0)) (C := RX4) (T := TX4) (N := 16) hx hb hts hin0 hown hK hP 0 rfl rfl 11 (by decide) (hts (.fieldLink RX4 216 "MeanLocksModel" "spot" "I") (List.mem_of_getElem? (i := 1) rfl)) (fun _ h9 => h9) rfl dX4_fault_27 ?_
        refine lv_aload_n hx hb dX4_fault_30 rfl (lv_at hl 0 rfl) ?_
        refine va_get (D := (dC, dI)) (ci := 4) (v := .int (s6 8 0)) (C := RX4) (T := TX4) (N := 16) hx hb hts hin0 hown hK hP 0 rfl rfl 8 (by decide) (hts (.fieldLink RX4 193 "MeanLocksModel" "padMany" "I") (List.mem_of_getElem? (i := 4) rfl)) (fun _ h9 => h9) rfl dX4_fault_31 ?_
        refine lv_icmp_ge (tgt := 57) hx hb dX4_fault_34 (by decide) (fun hc => ?_) (fun hc => ?_)
        · have h1 := it_t h1 hc
          have he := lp_r h1 hz2
          exact KN2 s6 he _ _ hP hD hS ls (lv_sub hl [0] rfl)
        · have h1 := it_f h1 hc
          refine lv_aload_n hx hb dX4_fault_37 rfl (lv_at hl 0 rfl) ?_
          refine lv_bipush (v := (59 : Int32)) hx hb dX4_fault_38 (by decide) ?_
          obtain ⟨s8, hf3, h1⟩ := bnd_some h1
          refine x_VV (As := [.int (59 : Int32)]) (rest := []) hC (kX4_takeSign l dC dI cA h ad (59 : Int32) s6 s8 hf3) (cwV 1 hts gX4_fault_X4_takeSign rfl rfl rfl (by decide +kernel) ⟨Nat.le_of_ble_eq_true rfl, Nat.le_of_ble_eq_true rfl⟩) 0 4 hV hN hK hP hD hS hA rfl rfl rfl rfl hl.1 rfl (Nat.le_of_ble_eq_true rfl) ⟨Nat.zero_le _, Nat.zero_le _⟩ dX4_fault_40 (fun H locs hP hD hS => ?_)
          refine lv_aload_n hx hb dX4_fault_43 rfl (lv_at hl 0 rfl) ?_
          refine va_get (D := (dC, dI)) (ci := 4) (v := .int (s8 12 0)) (C := RX4) (T := TX4) (N := 16) hx hb hts hin0 hown hK hP 0 rfl rfl 12 (by decide) (hts (.fieldLink RX4 219 "MeanLocksModel" "isWrong" "Z") (List.mem_of_getElem? (i := 2) rfl)) (fun _ h9 => h9) rfl dX4_fault_44 ?_
          refine lv_if_ne (tgt := 19) hx hb dX4_fault_47 (by decide) (fun hc => ?_) (fun hc => ?_)
          · have h1 := it_f h1 hc
            have hc := lp_l h1 hz2
            exact ih2 s8 hc _ _ hP hD hS ls (lv_sub hl [0] rfl)
          · have h1 := it_t h1 hc
            refine lv_aload_n hx hb dX4_fault_50 rfl (lv_at hl 0 rfl) ?_
            obtain ⟨s10, hf4, h1⟩ := bnd_some h1
            refine x_VV (As := []) (rest := []) hC (kX4_takeOrder l dC dI cA h ad s8 s10 hf4) (cwV 0 hts gX4_fault_X4_takeOrder rfl rfl rfl (by decide +kernel) ⟨Nat.le_of_ble_eq_true rfl, Nat.le_of_ble_eq_true rfl⟩) 0 4 hV hN hK hP hD hS hA rfl rfl rfl rfl hl.1 rfl (Nat.le_of_ble_eq_true rfl) ⟨Nat.zero_le _, Nat.zero_le _⟩ dX4_fault_51 (fun H locs hP hD hS => ?_)
            refine lv_goto (tgt := 19) hx hb dX4_fault_54 (by decide) ?_
            have hc := lp_l h1 hz2
            exact ih2 s10 hc _ _ hP hD hS ls (lv_sub hl [0] rfl)
  exact LP2 FU s5 hl2 _ _ hP hD hS ls hl
def bX4_carryOut_16  (x5 : Int32) (s6 : St) : Option ((Int32 × St) ⊕ (Int32 × St)) := if (s6 13 0) ≤ x5 then (some (.inr (x5, s6))) else (bn2 (fX4_carry x5 s6) fun r7 s8 => if (r7 : Int32) < (0 : Int32) then (some (.inr (x5, s8))) else (nm (x5 + (1 : Int32)) fun v9 => some (.inl (v9, s8))))
def fX4_carryOut (σ : St) : Option (Int32 × St) := bn2 (fX4_fault  σ) fun r1 s2 => if (r1 : Int32) < (0 : Int32) then (bnd (fX4_keep  s2) fun s4 => bnd (lp (fun t : (Int32 × St) => bX4_carryOut_16  t.1 t.2) FU ((0 : Int32), s4)) (fun e : (Int32 × St) => nm e.1 fun x10 => nm e.2 fun s11 => nm (put s11 8 (fun _ => (0 : Int32))) fun s12 => some (x10, s12))) else (some ((-3 : Int32), s2))
abbrev rmX4_carryOut : Room := { frames := 10, cells := 0, slots := 0, locals := 245 }
set_option maxHeartbeats 4000000 in
set_option maxRecDepth 100000 in
theorem kX4_carryOut (l : Launch) (dC : Nat → ClassId) (dI : Nat → Nat → Nat) (cA : Nat → ClassId) (h : Nat) (ad : Nat → Nat) (σ : St) (R0 : Int32) (σ' : St) (h0 : fX4_carryOut σ = some (R0, σ')) : CI l yX4_carryOut wsX4_carryOut rmX4_carryOut (dC, dI) vwCl (tysW cA) [.ref h] (wM cA h ad σ) R0 (wM cA h ad σ') := by
  refine CGI_of (cc := cX4_carryOut) (nL := 2) (ret := (some .int)) (by decide) rfl (Nat.le_of_ble_eq_true rfl) ?_
  intro p e s m av below meth c A ls H locs hC hl
  obtain ⟨hC, hr, hlocks, hV, hN, hK, hP, hD, hS, hA⟩ := hC
  have hC : CallFix p m c cX4_carryOut 2 s _ wsX4_carryOut RX4 := hC
  obtain ⟨hx, hb, hml, hown, hts⟩ := id hC
  have hin0 : ∀ w ∈ u_ws RX4 TX4 16, w ∈ wsX4_carryOut := fun _ h => (List.mem_cons_of_mem _ (List.mem_append_right _ h))
  have hl : lv_has ls 2 [(0, .ref h)] := hl
  unfold fX4_carryOut at h0
  refine lv_aload_n hx hb dX4_carryOut_0 rfl (lv_at hl 0 rfl) ?_
  obtain ⟨r1, s2, hf1, h0⟩ := bn2_some h0
  refine x_VI (As := []) (rest := []) hC (kX4_fault l dC dI cA h ad σ r1 s2 hf1) (cwV 0 hts gX4_carryOut_X4_fault rfl rfl rfl (by decide +kernel) ⟨Nat.le_of_ble_eq_true rfl, Nat.le_of_ble_eq_true rfl⟩) 0 4 hV hN hK hP hD hS hA rfl rfl rfl rfl hl.1 rfl (Nat.le_of_ble_eq_true rfl) ⟨Nat.zero_le _, Nat.zero_le _⟩ dX4_carryOut_1 (fun H locs hP hD hS => ?_)
  refine lv_if_lt (tgt := 10) hx hb dX4_carryOut_4 (by decide) (fun hc => ?_) (fun hc => ?_)
  · have h0 := it_t h0 hc
    refine lv_aload_n hx hb dX4_carryOut_10 rfl (lv_at hl 0 rfl) ?_
    obtain ⟨s4, hf2, h0⟩ := bnd_some h0
    refine x_VV (As := []) (rest := []) hC (kX4_keep l dC dI cA h ad s2 s4 hf2) (cwV 0 hts gX4_carryOut_X4_keep rfl rfl rfl (by decide +kernel) ⟨Nat.le_of_ble_eq_true rfl, Nat.le_of_ble_eq_true rfl⟩) 0 4 hV hN hK hP hD hS hA rfl rfl rfl rfl hl.1 rfl (Nat.le_of_ble_eq_true rfl) ⟨Nat.zero_le _, Nat.zero_le _⟩ dX4_carryOut_11 (fun H locs hP hD hS => ?_)
    refine lv_iconst (v := (0 : Int32)) hx hb dX4_carryOut_14 (by decide) ?_
    refine lv_istore_n (lv' := [(1, .int (0 : Int32)), (0, .ref h)]) hx hb dX4_carryOut_15 rfl hl (by decide) rfl (fun ls hl => ?_)
    obtain ⟨ε3, hl3, h0⟩ := bnd_some h0
    have KN3 : ∀ (x10 : Int32) (s11 : St), ε3 = (x10, s11) → ∀ (H : Heap) (locs : List Loc), va_P (dC, dI) vwCl (wM cA h ad s11) H → va_D A (wM cA h ad s11) → va_S A s.heap H locs → ∀ (ls : Array Slot), lv_has ls 2 [(1, .int x10), (0, .ref h)] → W p l e (headSpec wsX4_carryOut rmX4_carryOut).room s m av below meth c H locs 0 0 (MQ below (qI (dC, dI) A R0 (wM cA h ad σ')) av s 0 0 A) (F0 m 38 ls []) := by
      intro x10 s11 hε H locs hP hD hS ls hl
      rw [hε] at h0
      have h0 := nm_at (z := x10) rfl h0
      have h0 := nm_at (z := s11) rfl h0
      refine lv_aload_n hx hb dX4_carryOut_38 rfl (lv_at hl 1 rfl) ?_
      refine lv_iconst (v := (0 : Int32)) hx hb dX4_carryOut_39 (by decide) ?_
      obtain ⟨s12, es12, h0⟩ := nm_some h0
      refine x_put (D := (dC, dI)) (ws' := wM cA h ad s12) (ci := 4) (fs := [.ref (ad 0), .ref (ad 1), .int (s11 2 0), .int (s11 3 0), .ref (ad 4), .ref (ad 5), .ref (ad 6), .ref (ad 7), .int (s11 8 0), .ref (ad 9), .ref (ad 10), .int (s11 11 0), .int (s11 12 0), .int (s11 13 0), .ref (ad 14), .ref (ad 15)]) (v := .int (0 : Int32)) (ty := .int) (C := RX4) (T := TX4) (N := 16) hC hin0 tyX4 tyX4_ok nmX4 hK hP hD hS 0 rfl rfl 8 (by decide) (hts (.fieldLink RX4 193 "MeanLocksModel" "padMany" "I") (List.mem_of_getElem? (i := 2) rfl)) rfl rfl rfl rfl (by decide +kernel) (Nat.le_of_ble_eq_true rfl) (by rw [es12]; exact wM_s8 _ _ _ _ _) dX4_carryOut_40 (fun H locs hP hD hS => ?_)
      refine lv_iload_n hx hb dX4_carryOut_43 rfl (lv_at hl 0 rfl) ?_
      obtain ⟨e1, e2⟩ := Prod.mk.inj (Option.some.inj h0)
      exact x_retI hC hr hlocks rfl hP hD hS dX4_carryOut_44 ⟨e1, by rw [← e2]⟩
    have LP3 : ∀ (n : Nat) (x5 : Int32) (s6 : St), lp (fun t : (Int32 × St) => bX4_carryOut_16  t.1 t.2) n (x5, s6) = some ε3 → ∀ (H : Heap) (locs : List Loc), va_P (dC, dI) vwCl (wM cA h ad s6) H → va_D A (wM cA h ad s6) → va_S A s.heap H locs → ∀ (ls : Array Slot), lv_has ls 2 [(1, .int x5), (0, .ref h)] → W p l e (headSpec wsX4_carryOut rmX4_carryOut).room s m av below meth c H locs 0 0 (MQ below (qI (dC, dI) A R0 (wM cA h ad σ')) av s 0 0 A) (F0 m 16 ls []) := by
      intro n
      induction n with
      | zero => intro x5 s6 hl0; exact (lp_0 hl0).elim
      | succ n ih3 =>
        intro x5 s6 hl0 H locs hP hD hS ls hl
        obtain ⟨z3, h1, hz3⟩ := lp_s hl0
        have h1 : bX4_carryOut_16  x5 s6 = some z3 := h1
        unfold bX4_carryOut_16 at h1
        refine lv_iload_n hx hb dX4_carryOut_16 rfl (lv_at hl 0 rfl) ?_
        refine lv_aload_n hx hb dX4_carryOut_17 rfl (lv_at hl 1 rfl) ?_
        refine va_get (D := (dC, dI)) (ci := 4) (v := .int (s6 13 0)) (C := RX4) (T := TX4) (N := 16) hx hb hts hin0 hown hK hP 0 rfl rfl 13 (by decide) (hts (.fieldLink RX4 226 "MeanLocksModel" "orders" "I") (List.mem_of_getElem? (i := 1) rfl)) (fun _ h9 => h9) rfl dX4_carryOut_18 ?_
        refine lv_icmp_ge (tgt := 38) hx hb dX4_carryOut_21 (by decide) (fun hc => ?_) (fun hc => ?_)
        · have h1 := it_t h1 hc
          have he := lp_r h1 hz3
          exact KN3 x5 s6 he _ _ hP hD hS ls (lv_sub hl [0, 1] rfl)
        · have h1 := it_f h1 hc
          refine lv_aload_n hx hb dX4_carryOut_24 rfl (lv_at hl 1 rfl) ?_
          refine lv_iload_n hx hb dX4_carryOut_25 rfl (lv_at hl 0 rfl) ?_
          obtain ⟨r7, s8, hf4, h1⟩ := bn2_some h1
          refine x_VI (As := [.int x5]) (rest := []) hC (kX4_carry l dC dI cA h ad x5 s6 r7 s8 hf4) (cwV 1 hts gX4_carryOut_X4_carry rfl rfl rfl (by decide +kernel) ⟨Nat.le_of_ble_eq_true rfl, Nat.le_of_ble_eq_true rfl⟩) 0 4 hV hN hK hP hD hS hA rfl rfl rfl rfl hl.1 rfl (Nat.le_of_ble_eq_true rfl) ⟨Nat.zero_le _, Nat.zero_le _⟩ dX4_carryOut_26 (fun H locs hP hD hS => ?_)
          refine lv_if_lt (tgt := 38) hx hb dX4_carryOut_29 (by decide) (fun hc => ?_) (fun hc => ?_)
          · have h1 := it_t h1 hc
            have he := lp_r h1 hz3
            exact KN3 x5 s8 he _ _ hP hD hS ls (lv_sub hl [0, 1] rfl)
          · have h1 := it_f h1 hc
            obtain ⟨v9, ev9, h1⟩ := nm_some h1
            refine lv_iinc (v := v9) (lv' := [(1, .int v9), (0, .ref h)]) hx hb dX4_carryOut_32 hl (k := 0) rfl (by rw [ev9]; rfl) (by decide) rfl (fun ls hl => ?_)
            refine lv_goto (tgt := 16) hx hb dX4_carryOut_35 (by decide) ?_
            have hc := lp_l h1 hz3
            exact ih3 v9 s8 hc _ _ hP hD hS ls (lv_sub hl [0, 1] rfl)
    exact LP3 FU (0 : Int32) s4 hl3 _ _ hP hD hS ls hl
  · have h0 := it_f h0 hc
    refine lv_bipush (v := (-3 : Int32)) hx hb dX4_carryOut_7 (by decide) ?_
    obtain ⟨e1, e2⟩ := Prod.mk.inj (Option.some.inj h0)
    exact x_retI hC hr hlocks rfl hP hD hS dX4_carryOut_9 ⟨e1, by rw [← e2]⟩
def fX4_whyNotAsk (a1 : Int32) (a2 : Int32) (a3 : Int32) (a4 : Int32) : Option Int32 := bnd (fX4_isOwner a1) fun r1 => if (r1 : Int32) = (0 : Int32) then (some (-1 : Int32)) else (bnd (fX4_in a2 (1 : Int32) (3 : Int32)) fun r2 => if (r2 : Int32) = (0 : Int32) then (some (-2 : Int32)) else (bnd (fX4_isRange a3 a4) fun r3 => if (r3 : Int32) = (0 : Int32) then (some (-2 : Int32)) else (some (0 : Int32))))
abbrev rmX4_whyNotAsk : Room := { frames := 2, cells := 0, slots := 0, locals := 43 }
set_option maxHeartbeats 4000000 in
set_option maxRecDepth 100000 in
theorem kX4_whyNotAsk (l : Launch) (dC : Nat → ClassId) (dI : Nat → Nat → Nat) (cA : Nat → ClassId) (a1 : Int32) (a2 : Int32) (a3 : Int32) (a4 : Int32) (R0 : Int32) (h0 : fX4_whyNotAsk a1 a2 a3 a4 = some R0) : CI l yX4_whyNotAsk wsX4_whyNotAsk rmX4_whyNotAsk (dC, dI) vwCl (tysW cA) [.int a1, .int a2, .int a3, .int a4] [] R0 [] := by
  refine CGI_of (cc := cX4_whyNotAsk) (nL := 4) (ret := (some .int)) (by decide) rfl (Nat.le_of_ble_eq_true rfl) ?_
  intro p e s m av below meth c A ls H locs hC hl
  obtain ⟨hC, hr, hlocks, hV, hN, hK, hP, hD, hS, hA⟩ := hC
  have hC : CallFix p m c cX4_whyNotAsk 4 s _ wsX4_whyNotAsk RX4 := hC
  obtain ⟨hx, hb, hml, hown, hts⟩ := id hC
  have hl : lv_has ls 4 [(0, .int a1), (1, .int a2), (2, .int a3), (3, .int a4)] := hl
  unfold fX4_whyNotAsk at h0
  refine lv_iload_n hx hb dX4_whyNotAsk_0 rfl (lv_at hl 0 rfl) ?_
  obtain ⟨r1, hf1, h0⟩ := bnd_some h0
  refine x_SI (As := [.int a1]) (rest := []) hC (kX4_isOwner l dC dI cA a1 r1 hf1) (cwS 1 hts gX4_whyNotAsk_X4_isOwner rfl rfl rfl (by decide +kernel) ⟨Nat.le_of_ble_eq_true rfl, Nat.le_of_ble_eq_true rfl⟩) hV hN hK hP hD hS hA rfl hl.1 rfl (Nat.le_of_ble_eq_true rfl) ⟨Nat.zero_le _, Nat.zero_le _⟩ dX4_whyNotAsk_1 (fun H locs hP hD hS => ?_)
  refine lv_if_ne (tgt := 11) hx hb dX4_whyNotAsk_4 (by decide) (fun hc => ?_) (fun hc => ?_)
  · have h0 := it_f h0 hc
    refine lv_iload_n hx hb dX4_whyNotAsk_11 rfl (lv_at hl 1 rfl) ?_
    refine lv_iconst (v := (1 : Int32)) hx hb dX4_whyNotAsk_12 (by decide) ?_
    refine lv_iconst (v := (3 : Int32)) hx hb dX4_whyNotAsk_13 (by decide) ?_
    obtain ⟨r2, hf2, h0⟩ := bnd_some h0
    refine x_SI (As := [.int a2, .int (1 : Int32), .int (3 : Int32)]) (rest := []) hC (kX4_in l dC dI cA a2 (1 : Int32) (3 : Int32) r2 hf2) (cwS 3 hts gX4_whyNotAsk_X4_in rfl rfl rfl (by decide +kernel) ⟨Nat.le_of_ble_eq_true rfl, Nat.le_of_ble_eq_true rfl⟩) hV hN hK hP hD hS hA rfl hl.1 rfl (Nat.le_of_ble_eq_true rfl) ⟨Nat.zero_le _, Nat.zero_le _⟩ dX4_whyNotAsk_14 (fun H locs hP hD hS => ?_)
    refine lv_if_eq (tgt := 32) hx hb dX4_whyNotAsk_17 (by decide) (fun hc => ?_) (fun hc => ?_)
    · have h0 := it_t h0 hc
      refine lv_bipush (v := (-2 : Int32)) hx hb dX4_whyNotAsk_32 (by decide) ?_
      have e1 := Option.some.inj h0
      exact x_retI hC hr hlocks rfl hP hD hS dX4_whyNotAsk_34 ⟨e1, rfl⟩
    · have h0 := it_f h0 hc
      refine lv_iload_n hx hb dX4_whyNotAsk_20 rfl (lv_at hl 2 rfl) ?_
      refine lv_iload_n hx hb dX4_whyNotAsk_21 rfl (lv_at hl 3 rfl) ?_
      obtain ⟨r3, hf3, h0⟩ := bnd_some h0
      refine x_SI (As := [.int a3, .int a4]) (rest := []) hC (kX4_isRange l dC dI cA a3 a4 r3 hf3) (cwS 2 hts gX4_whyNotAsk_X4_isRange rfl rfl rfl (by decide +kernel) ⟨Nat.le_of_ble_eq_true rfl, Nat.le_of_ble_eq_true rfl⟩) hV hN hK hP hD hS hA rfl hl.1 rfl (Nat.le_of_ble_eq_true rfl) ⟨Nat.zero_le _, Nat.zero_le _⟩ dX4_whyNotAsk_22 (fun H locs hP hD hS => ?_)
      refine lv_if_eq (tgt := 32) hx hb dX4_whyNotAsk_25 (by decide) (fun hc => ?_) (fun hc => ?_)
      · have h0 := it_t h0 hc
        refine lv_bipush (v := (-2 : Int32)) hx hb dX4_whyNotAsk_32 (by decide) ?_
        have e1 := Option.some.inj h0
        exact x_retI hC hr hlocks rfl hP hD hS dX4_whyNotAsk_34 ⟨e1, rfl⟩
      · have h0 := it_f h0 hc
        refine lv_iconst (v := (0 : Int32)) hx hb dX4_whyNotAsk_28 (by decide) ?_
        refine lv_goto (tgt := 34) hx hb dX4_whyNotAsk_29 (by decide) ?_
        have e1 := Option.some.inj h0
        exact x_retI hC hr hlocks rfl hP hD hS dX4_whyNotAsk_34 ⟨e1, rfl⟩
  · have h0 := it_t h0 hc
    refine lv_iconst (v := (-1 : Int32)) hx hb dX4_whyNotAsk_7 (by decide) ?_
    refine lv_goto (tgt := 34) hx hb dX4_whyNotAsk_8 (by decide) ?_
    have e1 := Option.some.inj h0
    exact x_retI hC hr hlocks rfl hP hD hS dX4_whyNotAsk_34 ⟨e1, rfl⟩
def fX4_couldGive (a1 : Int32) (a2 : Int32) (a3 : Int32) (a4 : Int32) (σ : St) : Option Int32 := bnd (fX4_whyNotAsk a1 a2 a3 a4) fun r1 => if (0 : Int32) ≤ r1 then (ax (1 : Int32) 2488 (bnd (fX4_stoppedIn a1 a2 a3 a4 (σ 0 ((1 : Int32) : Int32).toNatClampNeg) σ) fun r2 => if (r2 : Int32) = (0 : Int32) then (some (1 : Int32)) else (some (0 : Int32)))) else (some r1)
abbrev rmX4_couldGive : Room := { frames := 4, cells := 0, slots := 0, locals := 101 }
set_option maxHeartbeats 4000000 in
set_option maxRecDepth 100000 in
theorem kX4_couldGive (l : Launch) (dC : Nat → ClassId) (dI : Nat → Nat → Nat) (cA : Nat → ClassId) (h : Nat) (ad : Nat → Nat) (a1 : Int32) (a2 : Int32) (a3 : Int32) (a4 : Int32) (σ : St) (R0 : Int32) (h0 : fX4_couldGive a1 a2 a3 a4 σ = some R0) : CI l yX4_couldGive wsX4_couldGive rmX4_couldGive (dC, dI) vwCl (tysW cA) [.ref h, .int a1, .int a2, .int a3, .int a4] (wM cA h ad σ) R0 (wM cA h ad σ) := by
  refine CGI_of (cc := cX4_couldGive) (nL := 6) (ret := (some .int)) (by decide) rfl (Nat.le_of_ble_eq_true rfl) ?_
  intro p e s m av below meth c A ls H locs hC hl
  obtain ⟨hC, hr, hlocks, hV, hN, hK, hP, hD, hS, hA⟩ := hC
  have hC : CallFix p m c cX4_couldGive 6 s _ wsX4_couldGive RX4 := hC
  obtain ⟨hx, hb, hml, hown, hts⟩ := id hC
  have hin0 : ∀ w ∈ u_ws RX4 TX4 16, w ∈ wsX4_couldGive := fun _ h => (List.mem_cons_of_mem _ (List.mem_append_right _ h))
  have hl : lv_has ls 6 [(0, .ref h), (1, .int a1), (2, .int a2), (3, .int a3), (4, .int a4)] := hl
  unfold fX4_couldGive at h0
  refine lv_iload_n hx hb dX4_couldGive_0 rfl (lv_at hl 1 rfl) ?_
  refine lv_iload_n hx hb dX4_couldGive_1 rfl (lv_at hl 2 rfl) ?_
  refine lv_iload_n hx hb dX4_couldGive_2 rfl (lv_at hl 3 rfl) ?_
  refine lv_iload hx hb dX4_couldGive_3 (lv_at hl 4 rfl) ?_
  obtain ⟨r1, hf1, h0⟩ := bnd_some h0
  refine x_SI (As := [.int a1, .int a2, .int a3, .int a4]) (rest := []) hC (kX4_whyNotAsk l dC dI cA a1 a2 a3 a4 r1 hf1) (cwS 4 hts gX4_couldGive_X4_whyNotAsk rfl rfl rfl (by decide +kernel) ⟨Nat.le_of_ble_eq_true rfl, Nat.le_of_ble_eq_true rfl⟩) hV hN hK hP hD hS hA rfl hl.1 rfl (Nat.le_of_ble_eq_true rfl) ⟨Nat.zero_le _, Nat.zero_le _⟩ dX4_couldGive_5 (fun H locs hP hD hS => ?_)
  refine lv_istore (lv' := [(5, .int r1), (0, .ref h), (1, .int a1), (2, .int a2), (3, .int a3), (4, .int a4)]) hx hb dX4_couldGive_8 hl (by decide) rfl (fun ls hl => ?_)
  refine lv_iload hx hb dX4_couldGive_10 (lv_at hl 0 rfl) ?_
  refine lv_if_ge (tgt := 20) hx hb dX4_couldGive_12 (by decide) (fun hc => ?_) (fun hc => ?_)
  · have h0 := it_t h0 hc
    refine lv_aload_n hx hb dX4_couldGive_20 rfl (lv_at hl 1 rfl) ?_
    refine lv_iload_n hx hb dX4_couldGive_21 rfl (lv_at hl 2 rfl) ?_
    refine lv_iload_n hx hb dX4_couldGive_22 rfl (lv_at hl 3 rfl) ?_
    refine lv_iload_n hx hb dX4_couldGive_23 rfl (lv_at hl 4 rfl) ?_
    refine lv_iload hx hb dX4_couldGive_24 (lv_at hl 5 rfl) ?_
    refine lv_aload_n hx hb dX4_couldGive_26 rfl (lv_at hl 1 rfl) ?_
    refine va_get (D := (dC, dI)) (ci := 4) (v := .ref (ad 0)) (C := RX4) (T := TX4) (N := 16) hx hb hts hin0 hown hK hP 0 rfl rfl 0 (by decide) (hts (.fieldLink RX4 7 "MeanLocksModel" "at" "[I") (List.mem_of_getElem? (i := 1) rfl)) (fun _ h9 => h9) rfl dX4_couldGive_27 ?_
    refine lv_iconst (v := (1 : Int32)) hx hb dX4_couldGive_30 (by decide) ?_
    obtain ⟨hi, h0⟩ := ax_some h0
    refine va_iald hx hb hK hP 1 0 rfl rfl hi dX4_couldGive_31 ?_
    obtain ⟨r2, hf2, h0⟩ := bnd_some h0
    refine x_VI (As := [.int a1, .int a2, .int a3, .int a4, .int (σ 0 ((1 : Int32) : Int32).toNatClampNeg)]) (rest := []) hC (kX4_stoppedIn l dC dI cA h ad a1 a2 a3 a4 (σ 0 ((1 : Int32) : Int32).toNatClampNeg) σ r2  hf2) (cwV 5 hts gX4_couldGive_X4_stoppedIn rfl rfl rfl (by decide +kernel) ⟨Nat.le_of_ble_eq_true rfl, Nat.le_of_ble_eq_true rfl⟩) 0 4 hV hN hK hP hD hS hA rfl rfl rfl rfl hl.1 rfl (Nat.le_of_ble_eq_true rfl) ⟨Nat.zero_le _, Nat.zero_le _⟩ dX4_couldGive_32 (fun H locs hP hD hS => ?_)
    refine lv_if_ne (tgt := 42) hx hb dX4_couldGive_35 (by decide) (fun hc => ?_) (fun hc => ?_)
    · have h0 := it_f h0 hc
      refine lv_iconst (v := (0 : Int32)) hx hb dX4_couldGive_42 (by decide) ?_
      have e1 := Option.some.inj h0
      exact x_retI hC hr hlocks rfl hP hD hS dX4_couldGive_43 ⟨e1, rfl⟩
    · have h0 := it_t h0 hc
      refine lv_iconst (v := (1 : Int32)) hx hb dX4_couldGive_38 (by decide) ?_
      refine lv_goto (tgt := 43) hx hb dX4_couldGive_39 (by decide) ?_
      have e1 := Option.some.inj h0
      exact x_retI hC hr hlocks rfl hP hD hS dX4_couldGive_43 ⟨e1, rfl⟩
  · have h0 := it_f h0 hc
    refine lv_iload hx hb dX4_couldGive_15 (lv_at hl 0 rfl) ?_
    refine lv_goto (tgt := 43) hx hb dX4_couldGive_17 (by decide) ?_
    have e1 := Option.some.inj h0
    exact x_retI hC hr hlocks rfl hP hD hS dX4_couldGive_43 ⟨e1, rfl⟩
def bX4_owners_30 (a1 : Int32) (a2 : Int32) (σ : St) (x4 : Int32) (x3 : Int32) : Option ((Int32 × Int32) ⊕ (Int32 × Int32)) := if (8 : Int32) ≤ x3 then (some (.inr (x4, x3))) else (bnd (fX4_lock x3 a1 σ) fun r5 => if (r5 : Int32) = a2 then (nm (x4 ||| ((1 : Int32) <<< (x3 &&& 31))) fun v8 => nm (x3 + (1 : Int32)) fun v9 => some (.inl (v8, v9))) else (nm (x4 ||| (0 : Int32)) fun v6 => nm (x3 + (1 : Int32)) fun v7 => some (.inl (v6, v7))))
def fX4_owners (a1 : Int32) (a2 : Int32) (σ : St) : Option Int32 := bnd (fX4_in a1 (0 : Int32) (299 : Int32)) fun r1 => if (r1 : Int32) = (0 : Int32) then (some (-1 : Int32)) else (bnd (fX4_in a2 (0 : Int32) (3 : Int32)) fun r2 => if (r2 : Int32) = (0 : Int32) then (some (-2 : Int32)) else (bnd (lp (fun t : (Int32 × Int32) => bX4_owners_30 a1 a2 σ t.1 t.2) FU ((0 : Int32), (0 : Int32))) (fun e : (Int32 × Int32) => nm e.1 fun x10 => nm e.2 fun x11 => some x10)))
abbrev rmX4_owners : Room := { frames := 1, cells := 0, slots := 0, locals := 22 }
set_option maxHeartbeats 4000000 in
set_option maxRecDepth 100000 in
theorem kX4_owners (l : Launch) (dC : Nat → ClassId) (dI : Nat → Nat → Nat) (cA : Nat → ClassId) (h : Nat) (ad : Nat → Nat) (a1 : Int32) (a2 : Int32) (σ : St) (R0 : Int32) (h0 : fX4_owners a1 a2 σ = some R0) : CI l yX4_owners wsX4_owners rmX4_owners (dC, dI) vwCl (tysW cA) [.ref h, .int a1, .int a2] (wM cA h ad σ) R0 (wM cA h ad σ) := by
  refine CGI_of (cc := cX4_owners) (nL := 5) (ret := (some .int)) (by decide) rfl (Nat.le_of_ble_eq_true rfl) ?_
  intro p e s m av below meth c A ls H locs hC hl
  obtain ⟨hC, hr, hlocks, hV, hN, hK, hP, hD, hS, hA⟩ := hC
  have hC : CallFix p m c cX4_owners 5 s _ wsX4_owners RX4 := hC
  obtain ⟨hx, hb, hml, hown, hts⟩ := id hC
  have hin0 : ∀ w ∈ u_ws RX4 TX4 16, w ∈ wsX4_owners := fun _ h => (List.mem_cons_of_mem _ (List.mem_append_right _ h))
  have hl : lv_has ls 5 [(0, .ref h), (1, .int a1), (2, .int a2)] := hl
  unfold fX4_owners at h0
  refine lv_iload_n hx hb dX4_owners_0 rfl (lv_at hl 1 rfl) ?_
  refine lv_iconst (v := (0 : Int32)) hx hb dX4_owners_1 (by decide) ?_
  refine lv_sipush (v := (299 : Int32)) hx hb dX4_owners_2 (by decide) ?_
  obtain ⟨r1, hf1, h0⟩ := bnd_some h0
  refine x_SI (As := [.int a1, .int (0 : Int32), .int (299 : Int32)]) (rest := []) hC (kX4_in l dC dI cA a1 (0 : Int32) (299 : Int32) r1 hf1) (cwS 3 hts gX4_owners_X4_in rfl rfl rfl (by decide +kernel) ⟨Nat.le_of_ble_eq_true rfl, Nat.le_of_ble_eq_true rfl⟩) hV hN hK hP hD hS hA rfl hl.1 rfl (Nat.le_of_ble_eq_true rfl) ⟨Nat.zero_le _, Nat.zero_le _⟩ dX4_owners_5 (fun H locs hP hD hS => ?_)
  refine lv_if_ne (tgt := 13) hx hb dX4_owners_8 (by decide) (fun hc => ?_) (fun hc => ?_)
  · have h0 := it_f h0 hc
    refine lv_iload_n hx hb dX4_owners_13 rfl (lv_at hl 2 rfl) ?_
    refine lv_iconst (v := (0 : Int32)) hx hb dX4_owners_14 (by decide) ?_
    refine lv_iconst (v := (3 : Int32)) hx hb dX4_owners_15 (by decide) ?_
    obtain ⟨r2, hf2, h0⟩ := bnd_some h0
    refine x_SI (As := [.int a2, .int (0 : Int32), .int (3 : Int32)]) (rest := []) hC (kX4_in l dC dI cA a2 (0 : Int32) (3 : Int32) r2 hf2) (cwS 3 hts gX4_owners_X4_in rfl rfl rfl (by decide +kernel) ⟨Nat.le_of_ble_eq_true rfl, Nat.le_of_ble_eq_true rfl⟩) hV hN hK hP hD hS hA rfl hl.1 rfl (Nat.le_of_ble_eq_true rfl) ⟨Nat.zero_le _, Nat.zero_le _⟩ dX4_owners_16 (fun H locs hP hD hS => ?_)
    refine lv_if_ne (tgt := 25) hx hb dX4_owners_19 (by decide) (fun hc => ?_) (fun hc => ?_)
    · have h0 := it_f h0 hc
      refine lv_iconst (v := (0 : Int32)) hx hb dX4_owners_25 (by decide) ?_
      refine lv_istore_n (lv' := [(3, .int (0 : Int32)), (0, .ref h), (1, .int a1), (2, .int a2)]) hx hb dX4_owners_26 rfl hl (by decide) rfl (fun ls hl => ?_)
      refine lv_iconst (v := (0 : Int32)) hx hb dX4_owners_27 (by decide) ?_
      refine lv_istore (lv' := [(4, .int (0 : Int32)), (3, .int (0 : Int32)), (0, .ref h), (1, .int a1), (2, .int a2)]) hx hb dX4_owners_28 hl (by decide) rfl (fun ls hl => ?_)
      obtain ⟨ε3, hl3, h0⟩ := bnd_some h0
      have KN3 : ∀ (x10 : Int32) (x11 : Int32), ε3 = (x10, x11) → ∀ (H : Heap) (locs : List Loc), va_P (dC, dI) vwCl (wM cA h ad σ) H → va_D A (wM cA h ad σ) → va_S A s.heap H locs → ∀ (ls : Array Slot), lv_has ls 5 [(4, .int x11), (3, .int x10), (0, .ref h), (1, .int a1), (2, .int a2)] → W p l e (headSpec wsX4_owners rmX4_owners).room s m av below meth c H locs 0 0 (MQ below (qI (dC, dI) A R0 (wM cA h ad σ)) av s 0 0 A) (F0 m 65 ls []) := by
        intro x10 x11 hε H locs hP hD hS ls hl
        rw [hε] at h0
        have h0 := nm_at (z := x10) rfl h0
        have h0 := nm_at (z := x11) rfl h0
        refine lv_iload_n hx hb dX4_owners_65 rfl (lv_at hl 1 rfl) ?_
        have e1 := Option.some.inj h0
        exact x_retI hC hr hlocks rfl hP hD hS dX4_owners_66 ⟨e1, rfl⟩
      have LP3 : ∀ (n : Nat) (x4 : Int32) (x3 : Int32), lp (fun t : (Int32 × Int32) => bX4_owners_30 a1 a2 σ t.1 t.2) n (x4, x3) = some ε3 → ∀ (H : Heap) (locs : List Loc), va_P (dC, dI) vwCl (wM cA h ad σ) H → va_D A (wM cA h ad σ) → va_S A s.heap H locs → ∀ (ls : Array Slot), lv_has ls 5 [(4, .int x3), (3, .int x4), (0, .ref h), (1, .int a1), (2, .int a2)] → W p l e (headSpec wsX4_owners rmX4_owners).room s m av below meth c H locs 0 0 (MQ below (qI (dC, dI) A R0 (wM cA h ad σ)) av s 0 0 A) (F0 m 30 ls []) := by
        intro n
        induction n with
        | zero => intro x4 x3 hl0; exact (lp_0 hl0).elim
        | succ n ih3 =>
          intro x4 x3 hl0 H locs hP hD hS ls hl
          obtain ⟨z3, h1, hz3⟩ := lp_s hl0
          have h1 : bX4_owners_30 a1 a2 σ x4 x3 = some z3 := h1
          unfold bX4_owners_30 at h1
          refine lv_iload hx hb dX4_owners_30 (lv_at hl 0 rfl) ?_
          refine lv_bipush (v := (8 : Int32)) hx hb dX4_owners_32 (by decide) ?_
          refine lv_icmp_ge (tgt := 65) hx hb dX4_owners_34 (by decide) (fun hc => ?_) (fun hc => ?_)
          · have h1 := it_t h1 hc
            have he := lp_r h1 hz3
            exact KN3 x4 x3 he _ _ hP hD hS ls (lv_sub hl [0, 1, 2, 3, 4] rfl)
          · have h1 := it_f h1 hc
            refine lv_iload_n hx hb dX4_owners_37 rfl (lv_at hl 1 rfl) ?_
            refine lv_aload_n hx hb dX4_owners_38 rfl (lv_at hl 2 rfl) ?_
            refine lv_iload hx hb dX4_owners_39 (lv_at hl 0 rfl) ?_
            refine lv_iload_n hx hb dX4_owners_41 rfl (lv_at hl 3 rfl) ?_
            obtain ⟨r5, hf4, h1⟩ := bnd_some h1
            refine x_VI (As := [.int x3, .int a1]) (rest := [.int x4]) hC (kX4_lock l dC dI cA h ad x3 a1 σ r5  hf4) (cwV 2 hts gX4_owners_X4_lock rfl rfl rfl (by decide +kernel) ⟨Nat.le_of_ble_eq_true rfl, Nat.le_of_ble_eq_true rfl⟩) 0 4 hV hN hK hP hD hS hA rfl rfl rfl rfl hl.1 rfl (Nat.le_of_ble_eq_true rfl) ⟨Nat.zero_le _, Nat.zero_le _⟩ dX4_owners_42 (fun H locs hP hD hS => ?_)
            refine lv_iload_n hx hb dX4_owners_45 rfl (lv_at hl 4 rfl) ?_
            refine lv_icmp_ne (tgt := 56) hx hb dX4_owners_46 (by decide) (fun hc => ?_) (fun hc => ?_)
            · have h1 := it_f h1 hc
              refine lv_iconst (v := (0 : Int32)) hx hb dX4_owners_56 (by decide) ?_
              refine lv_ior hx hb dX4_owners_57 ?_
              refine lv_topi (fun v6 ev6 => ?_)
              have h1 := nm_at ev6 h1
              refine lv_istore_n (lv' := [(3, .int v6), (4, .int x3), (0, .ref h), (1, .int a1), (2, .int a2)]) hx hb dX4_owners_58 rfl hl (by decide) rfl (fun ls hl => ?_)
              obtain ⟨v7, ev7, h1⟩ := nm_some h1
              refine lv_iinc (v := v7) (lv' := [(4, .int v7), (3, .int v6), (0, .ref h), (1, .int a1), (2, .int a2)]) hx hb dX4_owners_59 hl (k := 1) rfl (by rw [ev7]; rfl) (by decide) rfl (fun ls hl => ?_)
              refine lv_goto (tgt := 30) hx hb dX4_owners_62 (by decide) ?_
              have hc := lp_l h1 hz3
              exact ih3 v6 v7 hc _ _ hP hD hS ls (lv_sub hl [0, 1, 2, 3, 4] rfl)
            · have h1 := it_t h1 hc
              refine lv_iconst (v := (1 : Int32)) hx hb dX4_owners_49 (by decide) ?_
              refine lv_iload hx hb dX4_owners_50 (lv_at hl 0 rfl) ?_
              refine lv_ishl hx hb dX4_owners_52 ?_
              refine lv_goto (tgt := 57) hx hb dX4_owners_53 (by decide) ?_
              refine lv_ior hx hb dX4_owners_57 ?_
              refine lv_topi (fun v8 ev8 => ?_)
              have h1 := nm_at ev8 h1
              refine lv_istore_n (lv' := [(3, .int v8), (4, .int x3), (0, .ref h), (1, .int a1), (2, .int a2)]) hx hb dX4_owners_58 rfl hl (by decide) rfl (fun ls hl => ?_)
              obtain ⟨v9, ev9, h1⟩ := nm_some h1
              refine lv_iinc (v := v9) (lv' := [(4, .int v9), (3, .int v8), (0, .ref h), (1, .int a1), (2, .int a2)]) hx hb dX4_owners_59 hl (k := 1) rfl (by rw [ev9]; rfl) (by decide) rfl (fun ls hl => ?_)
              refine lv_goto (tgt := 30) hx hb dX4_owners_62 (by decide) ?_
              have hc := lp_l h1 hz3
              exact ih3 v8 v9 hc _ _ hP hD hS ls (lv_sub hl [0, 1, 2, 3, 4] rfl)
      exact LP3 FU (0 : Int32) (0 : Int32) hl3 _ _ hP hD hS ls hl
    · have h0 := it_t h0 hc
      refine lv_bipush (v := (-2 : Int32)) hx hb dX4_owners_22 (by decide) ?_
      have e1 := Option.some.inj h0
      exact x_retI hC hr hlocks rfl hP hD hS dX4_owners_24 ⟨e1, rfl⟩
  · have h0 := it_t h0 hc
    refine lv_iconst (v := (-1 : Int32)) hx hb dX4_owners_11 (by decide) ?_
    have e1 := Option.some.inj h0
    exact x_retI hC hr hlocks rfl hP hD hS dX4_owners_12 ⟨e1, rfl⟩
def bX4_placesTaken_4 (σ : St) (x2 : Int32) (x1 : Int32) : Option ((Int32 × Int32) ⊕ (Int32 × Int32)) := if (300 : Int32) ≤ x1 then (some (.inr (x2, x1))) else (bnd (fX4_owners x1 (0 : Int32) σ) fun r3 => if (r3 : Int32) = (255 : Int32) then (nm (x2 + (0 : Int32)) fun v6 => nm (x1 + (1 : Int32)) fun v7 => some (.inl (v6, v7))) else (nm (x2 + (1 : Int32)) fun v4 => nm (x1 + (1 : Int32)) fun v5 => some (.inl (v4, v5))))
def fX4_placesTaken (σ : St) : Option Int32 := bnd (lp (fun t : (Int32 × Int32) => bX4_placesTaken_4 σ t.1 t.2) FU ((0 : Int32), (0 : Int32))) (fun e : (Int32 × Int32) => nm e.1 fun x8 => nm e.2 fun x9 => some x8)
abbrev rmX4_placesTaken : Room := { frames := 2, cells := 0, slots := 0, locals := 46 }
set_option maxHeartbeats 4000000 in
set_option maxRecDepth 100000 in
theorem kX4_placesTaken (l : Launch) (dC : Nat → ClassId) (dI : Nat → Nat → Nat) (cA : Nat → ClassId) (h : Nat) (ad : Nat → Nat) (σ : St) (R0 : Int32) (h0 : fX4_placesTaken σ = some R0) : CI l yX4_placesTaken wsX4_placesTaken rmX4_placesTaken (dC, dI) vwCl (tysW cA) [.ref h] (wM cA h ad σ) R0 (wM cA h ad σ) := by
  refine CGI_of (cc := cX4_placesTaken) (nL := 3) (ret := (some .int)) (by decide) rfl (Nat.le_of_ble_eq_true rfl) ?_
  intro p e s m av below meth c A ls H locs hC hl
  obtain ⟨hC, hr, hlocks, hV, hN, hK, hP, hD, hS, hA⟩ := hC
  have hC : CallFix p m c cX4_placesTaken 3 s _ wsX4_placesTaken RX4 := hC
  obtain ⟨hx, hb, hml, hown, hts⟩ := id hC
  have hin0 : ∀ w ∈ u_ws RX4 TX4 16, w ∈ wsX4_placesTaken := fun _ h => (List.mem_cons_of_mem _ (List.mem_append_right _ h))
  have hl : lv_has ls 3 [(0, .ref h)] := hl
  unfold fX4_placesTaken at h0
  refine lv_iconst (v := (0 : Int32)) hx hb dX4_placesTaken_0 (by decide) ?_
  refine lv_istore_n (lv' := [(1, .int (0 : Int32)), (0, .ref h)]) hx hb dX4_placesTaken_1 rfl hl (by decide) rfl (fun ls hl => ?_)
  refine lv_iconst (v := (0 : Int32)) hx hb dX4_placesTaken_2 (by decide) ?_
  refine lv_istore_n (lv' := [(2, .int (0 : Int32)), (1, .int (0 : Int32)), (0, .ref h)]) hx hb dX4_placesTaken_3 rfl hl (by decide) rfl (fun ls hl => ?_)
  obtain ⟨ε1, hl1, h0⟩ := bnd_some h0
  have KN1 : ∀ (x8 : Int32) (x9 : Int32), ε1 = (x8, x9) → ∀ (H : Heap) (locs : List Loc), va_P (dC, dI) vwCl (wM cA h ad σ) H → va_D A (wM cA h ad σ) → va_S A s.heap H locs → ∀ (ls : Array Slot), lv_has ls 3 [(2, .int x9), (1, .int x8), (0, .ref h)] → W p l e (headSpec wsX4_placesTaken rmX4_placesTaken).room s m av below meth c H locs 0 0 (MQ below (qI (dC, dI) A R0 (wM cA h ad σ)) av s 0 0 A) (F0 m 37 ls []) := by
    intro x8 x9 hε H locs hP hD hS ls hl
    rw [hε] at h0
    have h0 := nm_at (z := x8) rfl h0
    have h0 := nm_at (z := x9) rfl h0
    refine lv_iload_n hx hb dX4_placesTaken_37 rfl (lv_at hl 1 rfl) ?_
    have e1 := Option.some.inj h0
    exact x_retI hC hr hlocks rfl hP hD hS dX4_placesTaken_38 ⟨e1, rfl⟩
  have LP1 : ∀ (n : Nat) (x2 : Int32) (x1 : Int32), lp (fun t : (Int32 × Int32) => bX4_placesTaken_4 σ t.1 t.2) n (x2, x1) = some ε1 → ∀ (H : Heap) (locs : List Loc), va_P (dC, dI) vwCl (wM cA h ad σ) H → va_D A (wM cA h ad σ) → va_S A s.heap H locs → ∀ (ls : Array Slot), lv_has ls 3 [(2, .int x1), (1, .int x2), (0, .ref h)] → W p l e (headSpec wsX4_placesTaken rmX4_placesTaken).room s m av below meth c H locs 0 0 (MQ below (qI (dC, dI) A R0 (wM cA h ad σ)) av s 0 0 A) (F0 m 4 ls []) := by
    intro n
    induction n with
    | zero => intro x2 x1 hl0; exact (lp_0 hl0).elim
    | succ n ih1 =>
      intro x2 x1 hl0 H locs hP hD hS ls hl
      obtain ⟨z1, h1, hz1⟩ := lp_s hl0
      have h1 : bX4_placesTaken_4 σ x2 x1 = some z1 := h1
      unfold bX4_placesTaken_4 at h1
      refine lv_iload_n hx hb dX4_placesTaken_4 rfl (lv_at hl 0 rfl) ?_
      refine lv_sipush (v := (300 : Int32)) hx hb dX4_placesTaken_5 (by decide) ?_
      refine lv_icmp_ge (tgt := 37) hx hb dX4_placesTaken_8 (by decide) (fun hc => ?_) (fun hc => ?_)
      · have h1 := it_t h1 hc
        have he := lp_r h1 hz1
        exact KN1 x2 x1 he _ _ hP hD hS ls (lv_sub hl [0, 1, 2] rfl)
      · have h1 := it_f h1 hc
        refine lv_iload_n hx hb dX4_placesTaken_11 rfl (lv_at hl 1 rfl) ?_
        refine lv_aload_n hx hb dX4_placesTaken_12 rfl (lv_at hl 2 rfl) ?_
        refine lv_iload_n hx hb dX4_placesTaken_13 rfl (lv_at hl 0 rfl) ?_
        refine lv_iconst (v := (0 : Int32)) hx hb dX4_placesTaken_14 (by decide) ?_
        obtain ⟨r3, hf2, h1⟩ := bnd_some h1
        refine x_VI (As := [.int x1, .int (0 : Int32)]) (rest := [.int x2]) hC (kX4_owners l dC dI cA h ad x1 (0 : Int32) σ r3  hf2) (cwV 2 hts gX4_placesTaken_X4_owners rfl rfl rfl (by decide +kernel) ⟨Nat.le_of_ble_eq_true rfl, Nat.le_of_ble_eq_true rfl⟩) 0 4 hV hN hK hP hD hS hA rfl rfl rfl rfl hl.1 rfl (Nat.le_of_ble_eq_true rfl) ⟨Nat.zero_le _, Nat.zero_le _⟩ dX4_placesTaken_15 (fun H locs hP hD hS => ?_)
        refine lv_sipush (v := (255 : Int32)) hx hb dX4_placesTaken_18 (by decide) ?_
        refine lv_icmp_ne (tgt := 28) hx hb dX4_placesTaken_21 (by decide) (fun hc => ?_) (fun hc => ?_)
        · have h1 := it_f h1 hc
          refine lv_iconst (v := (1 : Int32)) hx hb dX4_placesTaken_28 (by decide) ?_
          refine lv_iadd hx hb dX4_placesTaken_29 ?_
          refine lv_topi (fun v4 ev4 => ?_)
          have h1 := nm_at ev4 h1
          refine lv_istore_n (lv' := [(1, .int v4), (2, .int x1), (0, .ref h)]) hx hb dX4_placesTaken_30 rfl hl (by decide) rfl (fun ls hl => ?_)
          obtain ⟨v5, ev5, h1⟩ := nm_some h1
          refine lv_iinc (v := v5) (lv' := [(2, .int v5), (1, .int v4), (0, .ref h)]) hx hb dX4_placesTaken_31 hl (k := 1) rfl (by rw [ev5]; rfl) (by decide) rfl (fun ls hl => ?_)
          refine lv_goto (tgt := 4) hx hb dX4_placesTaken_34 (by decide) ?_
          have hc := lp_l h1 hz1
          exact ih1 v4 v5 hc _ _ hP hD hS ls (lv_sub hl [0, 1, 2] rfl)
        · have h1 := it_t h1 hc
          refine lv_iconst (v := (0 : Int32)) hx hb dX4_placesTaken_24 (by decide) ?_
          refine lv_goto (tgt := 29) hx hb dX4_placesTaken_25 (by decide) ?_
          refine lv_iadd hx hb dX4_placesTaken_29 ?_
          refine lv_topi (fun v6 ev6 => ?_)
          have h1 := nm_at ev6 h1
          refine lv_istore_n (lv' := [(1, .int v6), (2, .int x1), (0, .ref h)]) hx hb dX4_placesTaken_30 rfl hl (by decide) rfl (fun ls hl => ?_)
          obtain ⟨v7, ev7, h1⟩ := nm_some h1
          refine lv_iinc (v := v7) (lv' := [(2, .int v7), (1, .int v6), (0, .ref h)]) hx hb dX4_placesTaken_31 hl (k := 1) rfl (by rw [ev7]; rfl) (by decide) rfl (fun ls hl => ?_)
          refine lv_goto (tgt := 4) hx hb dX4_placesTaken_34 (by decide) ?_
          have hc := lp_l h1 hz1
          exact ih1 v6 v7 hc _ _ hP hD hS ls (lv_sub hl [0, 1, 2] rfl)
  exact LP1 FU (0 : Int32) (0 : Int32) hl1 _ _ hP hD hS ls hl
def bX4_sum_4 (a1 : Int32) (σ : St) (x2 : Int32) (x1 : Int32) : Option ((Int32 × Int32) ⊕ (Int32 × Int32)) := if (8 : Int32) ≤ x1 then (some (.inr (x2, x1))) else (bnd (fX4_of x1 a1 σ) fun r3 => nm (x2 + r3) fun v4 => nm (x1 + (1 : Int32)) fun v5 => some (.inl (v4, v5)))
def fX4_sum (a1 : Int32) (σ : St) : Option Int32 := bnd (lp (fun t : (Int32 × Int32) => bX4_sum_4 a1 σ t.1 t.2) FU ((0 : Int32), (0 : Int32))) (fun e : (Int32 × Int32) => nm e.1 fun x6 => nm e.2 fun x7 => some x6)
abbrev rmX4_sum : Room := { frames := 1, cells := 0, slots := 0, locals := 22 }
set_option maxHeartbeats 4000000 in
set_option maxRecDepth 100000 in
theorem kX4_sum (l : Launch) (dC : Nat → ClassId) (dI : Nat → Nat → Nat) (cA : Nat → ClassId) (h : Nat) (ad : Nat → Nat) (a1 : Int32) (σ : St) (R0 : Int32) (h0 : fX4_sum a1 σ = some R0) : CI l yX4_sum wsX4_sum rmX4_sum (dC, dI) vwCl (tysW cA) [.ref h, .int a1] (wM cA h ad σ) R0 (wM cA h ad σ) := by
  refine CGI_of (cc := cX4_sum) (nL := 4) (ret := (some .int)) (by decide) rfl (Nat.le_of_ble_eq_true rfl) ?_
  intro p e s m av below meth c A ls H locs hC hl
  obtain ⟨hC, hr, hlocks, hV, hN, hK, hP, hD, hS, hA⟩ := hC
  have hC : CallFix p m c cX4_sum 4 s _ wsX4_sum RX4 := hC
  obtain ⟨hx, hb, hml, hown, hts⟩ := id hC
  have hin0 : ∀ w ∈ u_ws RX4 TX4 16, w ∈ wsX4_sum := fun _ h => (List.mem_cons_of_mem _ (List.mem_append_right _ h))
  have hl : lv_has ls 4 [(0, .ref h), (1, .int a1)] := hl
  unfold fX4_sum at h0
  refine lv_iconst (v := (0 : Int32)) hx hb dX4_sum_0 (by decide) ?_
  refine lv_istore_n (lv' := [(2, .int (0 : Int32)), (0, .ref h), (1, .int a1)]) hx hb dX4_sum_1 rfl hl (by decide) rfl (fun ls hl => ?_)
  refine lv_iconst (v := (0 : Int32)) hx hb dX4_sum_2 (by decide) ?_
  refine lv_istore_n (lv' := [(3, .int (0 : Int32)), (2, .int (0 : Int32)), (0, .ref h), (1, .int a1)]) hx hb dX4_sum_3 rfl hl (by decide) rfl (fun ls hl => ?_)
  obtain ⟨ε1, hl1, h0⟩ := bnd_some h0
  have KN1 : ∀ (x6 : Int32) (x7 : Int32), ε1 = (x6, x7) → ∀ (H : Heap) (locs : List Loc), va_P (dC, dI) vwCl (wM cA h ad σ) H → va_D A (wM cA h ad σ) → va_S A s.heap H locs → ∀ (ls : Array Slot), lv_has ls 4 [(3, .int x7), (2, .int x6), (0, .ref h), (1, .int a1)] → W p l e (headSpec wsX4_sum rmX4_sum).room s m av below meth c H locs 0 0 (MQ below (qI (dC, dI) A R0 (wM cA h ad σ)) av s 0 0 A) (F0 m 25 ls []) := by
    intro x6 x7 hε H locs hP hD hS ls hl
    rw [hε] at h0
    have h0 := nm_at (z := x6) rfl h0
    have h0 := nm_at (z := x7) rfl h0
    refine lv_iload_n hx hb dX4_sum_25 rfl (lv_at hl 1 rfl) ?_
    have e1 := Option.some.inj h0
    exact x_retI hC hr hlocks rfl hP hD hS dX4_sum_26 ⟨e1, rfl⟩
  have LP1 : ∀ (n : Nat) (x2 : Int32) (x1 : Int32), lp (fun t : (Int32 × Int32) => bX4_sum_4 a1 σ t.1 t.2) n (x2, x1) = some ε1 → ∀ (H : Heap) (locs : List Loc), va_P (dC, dI) vwCl (wM cA h ad σ) H → va_D A (wM cA h ad σ) → va_S A s.heap H locs → ∀ (ls : Array Slot), lv_has ls 4 [(3, .int x1), (2, .int x2), (0, .ref h), (1, .int a1)] → W p l e (headSpec wsX4_sum rmX4_sum).room s m av below meth c H locs 0 0 (MQ below (qI (dC, dI) A R0 (wM cA h ad σ)) av s 0 0 A) (F0 m 4 ls []) := by
    intro n
    induction n with
    | zero => intro x2 x1 hl0; exact (lp_0 hl0).elim
    | succ n ih1 =>
      intro x2 x1 hl0 H locs hP hD hS ls hl
      obtain ⟨z1, h1, hz1⟩ := lp_s hl0
      have h1 : bX4_sum_4 a1 σ x2 x1 = some z1 := h1
      unfold bX4_sum_4 at h1
      refine lv_iload_n hx hb dX4_sum_4 rfl (lv_at hl 0 rfl) ?_
      refine lv_bipush (v := (8 : Int32)) hx hb dX4_sum_5 (by decide) ?_
      refine lv_icmp_ge (tgt := 25) hx hb dX4_sum_7 (by decide) (fun hc => ?_) (fun hc => ?_)
      · have h1 := it_t h1 hc
        have he := lp_r h1 hz1
        exact KN1 x2 x1 he _ _ hP hD hS ls (lv_sub hl [0, 1, 2, 3] rfl)
      · have h1 := it_f h1 hc
        refine lv_iload_n hx hb dX4_sum_10 rfl (lv_at hl 1 rfl) ?_
        refine lv_aload_n hx hb dX4_sum_11 rfl (lv_at hl 2 rfl) ?_
        refine lv_iload_n hx hb dX4_sum_12 rfl (lv_at hl 0 rfl) ?_
        refine lv_iload_n hx hb dX4_sum_13 rfl (lv_at hl 3 rfl) ?_
        obtain ⟨r3, hf2, h1⟩ := bnd_some h1
        refine x_VI (As := [.int x1, .int a1]) (rest := [.int x2]) hC (kX4_of l dC dI cA h ad x1 a1 σ r3  hf2) (cwV 2 hts gX4_sum_X4_of rfl rfl rfl (by decide +kernel) ⟨Nat.le_of_ble_eq_true rfl, Nat.le_of_ble_eq_true rfl⟩) 0 4 hV hN hK hP hD hS hA rfl rfl rfl rfl hl.1 rfl (Nat.le_of_ble_eq_true rfl) ⟨Nat.zero_le _, Nat.zero_le _⟩ dX4_sum_14 (fun H locs hP hD hS => ?_)
        refine lv_iadd hx hb dX4_sum_17 ?_
        refine lv_topi (fun v4 ev4 => ?_)
        have h1 := nm_at ev4 h1
        refine lv_istore_n (lv' := [(2, .int v4), (3, .int x1), (0, .ref h), (1, .int a1)]) hx hb dX4_sum_18 rfl hl (by decide) rfl (fun ls hl => ?_)
        obtain ⟨v5, ev5, h1⟩ := nm_some h1
        refine lv_iinc (v := v5) (lv' := [(3, .int v5), (2, .int v4), (0, .ref h), (1, .int a1)]) hx hb dX4_sum_19 hl (k := 1) rfl (by rw [ev5]; rfl) (by decide) rfl (fun ls hl => ?_)
        refine lv_goto (tgt := 4) hx hb dX4_sum_22 (by decide) ?_
        have hc := lp_l h1 hz1
        exact ih1 v4 v5 hc _ _ hP hD hS ls (lv_sub hl [0, 1, 2, 3] rfl)
  exact LP1 FU (0 : Int32) (0 : Int32) hl1 _ _ hP hD hS ls hl
