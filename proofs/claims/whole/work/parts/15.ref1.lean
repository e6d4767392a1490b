def fX4_lock (a1 : Int32) (a2 : Int32) (σ : St) : Option Int32 := ax (((88 : Int32) + ((300 : Int32) * a1)) + a2) 2488 (some (σ 0 (((88 : Int32) + ((300 : Int32) * a1)) + a2 : Int32).toNatClampNeg))
abbrev rmX4_lock : Room := { frames := 0, cells := 0, slots := 0, locals := 0 }
set_option maxHeartbeats 4000000 in
set_option maxRecDepth 100000 in
theorem kX4_lock (l : Launch) (dC : Nat → ClassId) (dI : Nat → Nat → Nat) (cA : Nat → ClassId) (h : Nat) (ad : Nat → Nat) (a1 : Int32) (a2 : Int32) (σ : St) (R0 : Int32) (h0 : fX4_lock a1 a2 σ = some R0) : CI l yX4_lock wsX4_lock rmX4_lock (dC, dI) vwCl (tysW cA) [.ref h, .int a1, .int a2] (wM cA h ad σ) R0 (wM cA h ad σ) := by
  refine CGI_of (cc := cX4_lock) (nL := 3) (ret := (some .int)) (by decide) rfl (Nat.le_of_ble_eq_true rfl) ?_
  intro p e s m av below meth c A ls H locs hC hl
  obtain ⟨hC, hr, hlocks, hV, hN, hK, hP, hD, hS, hA⟩ := hC
  have hC : CallFix p m c cX4_lock 3 s _ wsX4_lock RX4 := hC
  obtain ⟨hx, hb, hml, hown, hts⟩ := id hC
  have hin0 : ∀ w ∈ u_ws RX4 TX4 16, w ∈ wsX4_lock := fun _ h => (List.mem_cons_of_mem _ (List.mem_append_right _ h))
  have hl : lv_has ls 3 [(0, .ref h), (1, .int a1), (2, .int a2)] := hl
  unfold fX4_lock at h0
  refine lv_aload_n hx hb dX4_lock_0 rfl (lv_at hl 0 rfl) ?_
  refine va_get (D := (dC, dI)) (ci := 4) (v := .ref (ad 0)) (C := RX4) (T := TX4) (N := 16) hx hb hts hin0 hown hK hP 0 rfl rfl 0 (by decide) (hts (.fieldLink RX4 7 "MeanLocksModel" "at" "[I") (List.mem_of_getElem? (i := 1) rfl)) (fun _ h9 => h9) rfl dX4_lock_1 ?_
  refine lv_bipush (v := (88 : Int32)) hx hb dX4_lock_4 (by decide) ?_
  refine lv_sipush (v := (300 : Int32)) hx hb dX4_lock_6 (by decide) ?_
  refine lv_iload_n hx hb dX4_lock_9 rfl (lv_at hl 1 rfl) ?_
  refine lv_imul hx hb dX4_lock_10 ?_
  refine lv_iadd hx hb dX4_lock_11 ?_
  refine lv_iload_n hx hb dX4_lock_12 rfl (lv_at hl 2 rfl) ?_
  refine lv_iadd hx hb dX4_lock_13 ?_
  obtain ⟨hi, h0⟩ := ax_some h0
  refine va_iald hx hb hK hP 1 0 rfl rfl hi dX4_lock_14 ?_
  have e1 := Option.some.inj h0
  exact x_retI hC hr hlocks rfl hP hD hS dX4_lock_15 ⟨e1, rfl⟩
def fX4_areTogether (a1 : Int32) (a2 : Int32) : Option Int32 := if (a1 : Int32) = (0 : Int32) then (some (1 : Int32)) else (if (a2 : Int32) = (0 : Int32) then (some (1 : Int32)) else (if (a1 : Int32) = (1 : Int32) then (if (a2 : Int32) ≤ (2 : Int32) then (some (1 : Int32)) else (if (a2 : Int32) = (1 : Int32) then (if (2 : Int32) < a1 then (some (0 : Int32)) else (some (1 : Int32))) else (some (0 : Int32)))) else (if (a2 : Int32) = (1 : Int32) then (if (2 : Int32) < a1 then (some (0 : Int32)) else (some (1 : Int32))) else (some (0 : Int32)))))
abbrev rmX4_areTogether : Room := { frames := 0, cells := 0, slots := 0, locals := 0 }
set_option maxHeartbeats 4000000 in
set_option maxRecDepth 100000 in
theorem kX4_areTogether (l : Launch) (dC : Nat → ClassId) (dI : Nat → Nat → Nat) (cA : Nat → ClassId) (a1 : Int32) (a2 : Int32) (R0 : Int32) (h0 : fX4_areTogether a1 a2 = some R0) : CI l yX4_areTogether wsX4_areTogether rmX4_areTogether (dC, dI) vwCl (tysW cA) [.int a1, .int a2] [] R0 [] := by
  refine CGI_of (cc := cX4_areTogether) (nL := 2) (ret := (some .boolean)) (by decide) rfl (Nat.le_of_ble_eq_true rfl) ?_
  intro p e s m av below meth c A ls H locs hC hl
  obtain ⟨hC, hr, hlocks, hV, hN, hK, hP, hD, hS, hA⟩ := hC
  have hC : CallFix p m c cX4_areTogether 2 s _ wsX4_areTogether RX4 := hC
  obtain ⟨hx, hb, hml, hown, hts⟩ := id hC
  have hl : lv_has ls 2 [(0, .int a1), (1, .int a2)] := hl
  unfold fX4_areTogether at h0
  refine lv_iload_n hx hb dX4_areTogether_0 rfl (lv_at hl 0 rfl) ?_
  refine lv_if_eq (tgt := 28) hx hb dX4_areTogether_1 (by decide) (fun hc => ?_) (fun hc => ?_)
  · have h0 := it_t h0 hc
    refine lv_iconst (v := (1 : Int32)) hx hb dX4_areTogether_28 (by decide) ?_
    refine lv_goto (tgt := 33) hx hb dX4_areTogether_29 (by decide) ?_
    have e1 := Option.some.inj h0
    exact x_retI hC hr hlocks rfl hP hD hS dX4_areTogether_33 ⟨e1, rfl⟩
  · have h0 := it_f h0 hc
    refine lv_iload_n hx hb dX4_areTogether_4 rfl (lv_at hl 1 rfl) ?_
    refine lv_if_eq (tgt := 28) hx hb dX4_areTogether_5 (by decide) (fun hc => ?_) (fun hc => ?_)
    · have h0 := it_t h0 hc
      refine lv_iconst (v := (1 : Int32)) hx hb dX4_areTogether_28 (by decide) ?_
      refine lv_goto (tgt := 33) hx hb dX4_areTogether_29 (by decide) ?_
      have e1 := Option.some.inj h0
      exact x_retI hC hr hlocks rfl hP hD hS dX4_areTogether_33 ⟨e1, rfl⟩
    · have h0 := it_f h0 hc
      refine lv_iload_n hx hb dX4_areTogether_8 rfl (lv_at hl 0 rfl) ?_
      refine lv_iconst (v := (1 : Int32)) hx hb dX4_areTogether_9 (by decide) ?_
      refine lv_icmp_ne (tgt := 18) hx hb dX4_areTogether_10 (by decide) (fun hc => ?_) (fun hc => ?_)
      · have h0 := it_f h0 hc
        refine lv_iload_n hx hb dX4_areTogether_18 rfl (lv_at hl 1 rfl) ?_
        refine lv_iconst (v := (1 : Int32)) hx hb dX4_areTogether_19 (by decide) ?_
        refine lv_icmp_ne (tgt := 32) hx hb dX4_areTogether_20 (by decide) (fun hc => ?_) (fun hc => ?_)
        · have h0 := it_f h0 hc
          refine lv_iconst (v := (0 : Int32)) hx hb dX4_areTogether_32 (by decide) ?_
          have e1 := Option.some.inj h0
          exact x_retI hC hr hlocks rfl hP hD hS dX4_areTogether_33 ⟨e1, rfl⟩
        · have h0 := it_t h0 hc
          refine lv_iload_n hx hb dX4_areTogether_23 rfl (lv_at hl 0 rfl) ?_
          refine lv_iconst (v := (2 : Int32)) hx hb dX4_areTogether_24 (by decide) ?_
          refine lv_icmp_gt (tgt := 32) hx hb dX4_areTogether_25 (by decide) (fun hc => ?_) (fun hc => ?_)
          · have h0 := it_t h0 hc
            refine lv_iconst (v := (0 : Int32)) hx hb dX4_areTogether_32 (by decide) ?_
            have e1 := Option.some.inj h0
            exact x_retI hC hr hlocks rfl hP hD hS dX4_areTogether_33 ⟨e1, rfl⟩
          · have h0 := it_f h0 hc
            refine lv_iconst (v := (1 : Int32)) hx hb dX4_areTogether_28 (by decide) ?_
            refine lv_goto (tgt := 33) hx hb dX4_areTogether_29 (by decide) ?_
            have e1 := Option.some.inj h0
            exact x_retI hC hr hlocks rfl hP hD hS dX4_areTogether_33 ⟨e1, rfl⟩
      · have h0 := it_t h0 hc
        refine lv_iload_n hx hb dX4_areTogether_13 rfl (lv_at hl 1 rfl) ?_
        refine lv_iconst (v := (2 : Int32)) hx hb dX4_areTogether_14 (by decide) ?_
        refine lv_icmp_le (tgt := 28) hx hb dX4_areTogether_15 (by decide) (fun hc => ?_) (fun hc => ?_)
        · have h0 := it_t h0 hc
          refine lv_iconst (v := (1 : Int32)) hx hb dX4_areTogether_28 (by decide) ?_
          refine lv_goto (tgt := 33) hx hb dX4_areTogether_29 (by decide) ?_
          have e1 := Option.some.inj h0
          exact x_retI hC hr hlocks rfl hP hD hS dX4_areTogether_33 ⟨e1, rfl⟩
        · have h0 := it_f h0 hc
          refine lv_iload_n hx hb dX4_areTogether_18 rfl (lv_at hl 1 rfl) ?_
          refine lv_iconst (v := (1 : Int32)) hx hb dX4_areTogether_19 (by decide) ?_
          refine lv_icmp_ne (tgt := 32) hx hb dX4_areTogether_20 (by decide) (fun hc => ?_) (fun hc => ?_)
          · have h0 := it_f h0 hc
            refine lv_iconst (v := (0 : Int32)) hx hb dX4_areTogether_32 (by decide) ?_
            have e1 := Option.some.inj h0
            exact x_retI hC hr hlocks rfl hP hD hS dX4_areTogether_33 ⟨e1, rfl⟩
          · have h0 := it_t h0 hc
            refine lv_iload_n hx hb dX4_areTogether_23 rfl (lv_at hl 0 rfl) ?_
            refine lv_iconst (v := (2 : Int32)) hx hb dX4_areTogether_24 (by decide) ?_
            refine lv_icmp_gt (tgt := 32) hx hb dX4_areTogether_25 (by decide) (fun hc => ?_) (fun hc => ?_)
            · have h0 := it_t h0 hc
              refine lv_iconst (v := (0 : Int32)) hx hb dX4_areTogether_32 (by decide) ?_
              have e1 := Option.some.inj h0
              exact x_retI hC hr hlocks rfl hP hD hS dX4_areTogether_33 ⟨e1, rfl⟩
            · have h0 := it_f h0 hc
              refine lv_iconst (v := (1 : Int32)) hx hb dX4_areTogether_28 (by decide) ?_
              refine lv_goto (tgt := 33) hx hb dX4_areTogether_29 (by decide) ?_
              have e1 := Option.some.inj h0
              exact x_retI hC hr hlocks rfl hP hD hS dX4_areTogether_33 ⟨e1, rfl⟩
def fX4_of (a1 : Int32) (a2 : Int32) (σ : St) : Option Int32 := ax (((16 : Int32) + ((9 : Int32) * a1)) + a2) 2488 (some (σ 0 (((16 : Int32) + ((9 : Int32) * a1)) + a2 : Int32).toNatClampNeg))
abbrev rmX4_of : Room := { frames := 0, cells := 0, slots := 0, locals := 0 }
set_option maxHeartbeats 4000000 in
set_option maxRecDepth 100000 in
theorem kX4_of (l : Launch) (dC : Nat → ClassId) (dI : Nat → Nat → Nat) (cA : Nat → ClassId) (h : Nat) (ad : Nat → Nat) (a1 : Int32) (a2 : Int32) (σ : St) (R0 : Int32) (h0 : fX4_of a1 a2 σ = some R0) : CI l yX4_of wsX4_of rmX4_of (dC, dI) vwCl (tysW cA) [.ref h, .int a1, .int a2] (wM cA h ad σ) R0 (wM cA h ad σ) := by
  refine CGI_of (cc := cX4_of) (nL := 3) (ret := (some .int)) (by decide) rfl (Nat.le_of_ble_eq_true rfl) ?_
  intro p e s m av below meth c A ls H locs hC hl
  obtain ⟨hC, hr, hlocks, hV, hN, hK, hP, hD, hS, hA⟩ := hC
  have hC : CallFix p m c cX4_of 3 s _ wsX4_of RX4 := hC
  obtain ⟨hx, hb, hml, hown, hts⟩ := id hC
  have hin0 : ∀ w ∈ u_ws RX4 TX4 16, w ∈ wsX4_of := fun _ h => (List.mem_cons_of_mem _ (List.mem_append_right _ h))
  have hl : lv_has ls 3 [(0, .ref h), (1, .int a1), (2, .int a2)] := hl
  unfold fX4_of at h0
  refine lv_aload_n hx hb dX4_of_0 rfl (lv_at hl 0 rfl) ?_
  refine va_get (D := (dC, dI)) (ci := 4) (v := .ref (ad 0)) (C := RX4) (T := TX4) (N := 16) hx hb hts hin0 hown hK hP 0 rfl rfl 0 (by decide) (hts (.fieldLink RX4 7 "MeanLocksModel" "at" "[I") (List.mem_of_getElem? (i := 1) rfl)) (fun _ h9 => h9) rfl dX4_of_1 ?_
  refine lv_bipush (v := (16 : Int32)) hx hb dX4_of_4 (by decide) ?_
  refine lv_bipush (v := (9 : Int32)) hx hb dX4_of_6 (by decide) ?_
  refine lv_iload_n hx hb dX4_of_8 rfl (lv_at hl 1 rfl) ?_
  refine lv_imul hx hb dX4_of_9 ?_
  refine lv_iadd hx hb dX4_of_10 ?_
  refine lv_iload_n hx hb dX4_of_11 rfl (lv_at hl 2 rfl) ?_
  refine lv_iadd hx hb dX4_of_12 ?_
  obtain ⟨hi, h0⟩ := ax_some h0
  refine va_iald hx hb hK hP 1 0 rfl rfl hi dX4_of_13 ?_
  have e1 := Option.some.inj h0
  exact x_retI hC hr hlocks rfl hP hD hS dX4_of_14 ⟨e1, rfl⟩
def bX4_against_6 (a1 : Int32) (a2 : Int32) (a3 : Int32) (σ : St) (x2 : Int32) (x1 : Int32) : Option ((Int32 × Int32) ⊕ (Int32 × Int32)) := if (8 : Int32) ≤ x1 then (some (.inr (x2, x1))) else (if (x1 : Int32) = a1 then (nm (x2 ||| (0 : Int32)) fun v3 => nm (x1 + (1 : Int32)) fun v4 => some (.inl (v3, v4))) else (bnd (fX4_lock x1 a3 σ) fun r5 => bnd (fX4_areTogether a2 r5) fun r6 => if (r6 : Int32) = (0 : Int32) then (nm (x2 ||| ((1 : Int32) <<< (x1 &&& 31))) fun v9 => nm (x1 + (1 : Int32)) fun v10 => some (.inl (v9, v10))) else (nm (x2 ||| (0 : Int32)) fun v7 => nm (x1 + (1 : Int32)) fun v8 => some (.inl (v7, v8)))))
def bX4_against_55 (a1 : Int32) (a2 : Int32) (a3 : Int32) (a4 : Int32) (σ : St) (x14 : Int32) (x13 : Int32) : Option ((Int32 × Int32) ⊕ (Int32 × Int32)) := if a4 ≤ x13 then (some (.inr (x14, x13))) else (ax (2 : Int32) 2488 (if ((σ 0 ((2 : Int32) : Int32).toNatClampNeg) : Int32) = (1 : Int32) then (ax ((8 : Int32) + x13) 2488 (nm (σ 0 ((8 : Int32) + x13 : Int32).toNatClampNeg) fun v15 => bnd (fX4_of v15 (1 : Int32) σ) fun r16 => if (a3 : Int32) < r16 then (if (v15 : Int32) = a1 then (nm (x14 ||| (0 : Int32)) fun v17 => nm (x13 + (1 : Int32)) fun v18 => some (.inl (v17, v18))) else (nm (x14 ||| (0 : Int32)) fun v19 => nm (x13 + (1 : Int32)) fun v20 => some (.inl (v19, v20)))) else (bnd (fX4_of v15 (2 : Int32) σ) fun r21 => if r21 ≤ a3 then (if (v15 : Int32) = a1 then (nm (x14 ||| (0 : Int32)) fun v22 => nm (x13 + (1 : Int32)) fun v23 => some (.inl (v22, v23))) else (nm (x14 ||| (0 : Int32)) fun v24 => nm (x13 + (1 : Int32)) fun v25 => some (.inl (v24, v25)))) else (if (v15 : Int32) = a1 then (nm (x14 ||| (0 : Int32)) fun v26 => nm (x13 + (1 : Int32)) fun v27 => some (.inl (v26, v27))) else (bnd (fX4_of v15 (0 : Int32) σ) fun r28 => bnd (fX4_areTogether a2 r28) fun r29 => if (r29 : Int32) = (0 : Int32) then (nm (x14 ||| ((1 : Int32) <<< (v15 &&& 31))) fun v32 => nm (x13 + (1 : Int32)) fun v33 => some (.inl (v32, v33))) else (nm (x14 ||| (0 : Int32)) fun v30 => nm (x13 + (1 : Int32)) fun v31 => some (.inl (v30, v31)))))))) else (some (.inr (x14, x13)))))
def fX4_against (a1 : Int32) (a2 : Int32) (a3 : Int32) (a4 : Int32) (σ : St) : Option Int32 := bnd (lp (fun t : (Int32 × Int32) => bX4_against_6 a1 a2 a3 σ t.1 t.2) FU ((0 : Int32), (0 : Int32))) (fun e : (Int32 × Int32) => nm e.1 fun x11 => nm e.2 fun x12 => bnd (lp (fun t : (Int32 × Int32) => bX4_against_55 a1 a2 a3 a4 σ t.1 t.2) FU (x11, (0 : Int32))) (fun e : (Int32 × Int32) => nm e.1 fun x34 => nm e.2 fun x35 => some x34))
abbrev rmX4_against : Room := { frames := 1, cells := 0, slots := 0, locals := 22 }
set_option maxHeartbeats 4000000 in
set_option maxRecDepth 100000 in
theorem kX4_against (l : Launch) (dC : Nat → ClassId) (dI : Nat → Nat → Nat) (cA : Nat → ClassId) (h : Nat) (ad : Nat → Nat) (a1 : Int32) (a2 : Int32) (a3 : Int32) (a4 : Int32) (σ : St) (R0 : Int32) (h0 : fX4_against a1 a2 a3 a4 σ = some R0) : CI l yX4_against wsX4_against rmX4_against (dC, dI) vwCl (tysW cA) [.ref h, .int a1, .int a2, .int a3, .int a4] (wM cA h ad σ) R0 (wM cA h ad σ) := by
  refine CGI_of (cc := cX4_against) (nL := 9) (ret := (some .int)) (by decide) rfl (Nat.le_of_ble_eq_true rfl) ?_
  intro p e s m av below meth c A ls H locs hC hl
  obtain ⟨hC, hr, hlocks, hV, hN, hK, hP, hD, hS, hA⟩ := hC
  have hC : CallFix p m c cX4_against 9 s _ wsX4_against RX4 := hC
  obtain ⟨hx, hb, hml, hown, hts⟩ := id hC
  have hin0 : ∀ w ∈ u_ws RX4 TX4 16, w ∈ wsX4_against := fun _ h => (List.mem_cons_of_mem _ (List.mem_append_right _ h))
  have hl : lv_has ls 9 [(0, .ref h), (1, .int a1), (2, .int a2), (3, .int a3), (4, .int a4)] := hl
  unfold fX4_against at h0
  refine lv_iconst (v := (0 : Int32)) hx hb dX4_against_0 (by decide) ?_
  refine lv_istore (lv' := [(5, .int (0 : Int32)), (0, .ref h), (1, .int a1), (2, .int a2), (3, .int a3), (4, .int a4)]) hx hb dX4_against_1 hl (by decide) rfl (fun ls hl => ?_)
  refine lv_iconst (v := (0 : Int32)) hx hb dX4_against_3 (by decide) ?_
  refine lv_istore (lv' := [(6, .int (0 : Int32)), (5, .int (0 : Int32)), (0, .ref h), (1, .int a1), (2, .int a2), (3, .int a3), (4, .int a4)]) hx hb dX4_against_4 hl (by decide) rfl (fun ls hl => ?_)
  obtain ⟨ε1, hl1, h0⟩ := bnd_some h0
  have KN1 : ∀ (x11 : Int32) (x12 : Int32), ε1 = (x11, x12) → ∀ (H : Heap) (locs : List Loc), va_P (dC, dI) vwCl (wM cA h ad σ) H → va_D A (wM cA h ad σ) → va_S A s.heap H locs → ∀ (ls : Array Slot), lv_has ls 9 [(6, .int x12), (5, .int x11), (0, .ref h), (1, .int a1), (2, .int a2), (3, .int a3), (4, .int a4)] → W p l e (headSpec wsX4_against rmX4_against).room s m av below meth c H locs 0 0 (MQ below (qI (dC, dI) A R0 (wM cA h ad σ)) av s 0 0 A) (F0 m 52 ls []) := by
    intro x11 x12 hε H locs hP hD hS ls hl
    rw [hε] at h0
    have h0 := nm_at (z := x11) rfl h0
    have h0 := nm_at (z := x12) rfl h0
    refine lv_iconst (v := (0 : Int32)) hx hb dX4_against_52 (by decide) ?_
    refine lv_istore (lv' := [(6, .int (0 : Int32)), (5, .int x11), (0, .ref h), (1, .int a1), (2, .int a2), (3, .int a3), (4, .int a4)]) hx hb dX4_against_53 hl (by decide) rfl (fun ls hl => ?_)
    obtain ⟨ε4, hl4, h0⟩ := bnd_some h0
    have KN4 : ∀ (x34 : Int32) (x35 : Int32), ε4 = (x34, x35) → ∀ (H : Heap) (locs : List Loc), va_P (dC, dI) vwCl (wM cA h ad σ) H → va_D A (wM cA h ad σ) → va_S A s.heap H locs → ∀ (ls : Array Slot), lv_has ls 9 [(6, .int x35), (5, .int x34), (0, .ref h), (1, .int a1), (2, .int a2), (3, .int a3), (4, .int a4)] → W p l e (headSpec wsX4_against rmX4_against).room s m av below meth c H locs 0 0 (MQ below (qI (dC, dI) A R0 (wM cA h ad σ)) av s 0 0 A) (F0 m 157 ls []) := by
      intro x34 x35 hε H locs hP hD hS ls hl
      rw [hε] at h0
      have h0 := nm_at (z := x34) rfl h0
      have h0 := nm_at (z := x35) rfl h0
      refine lv_iload hx hb dX4_against_157 (lv_at hl 1 rfl) ?_
      have e1 := Option.some.inj h0
      exact x_retI hC hr hlocks rfl hP hD hS dX4_against_159 ⟨e1, rfl⟩
    have LP4 : ∀ (n : Nat) (x14 : Int32) (x13 : Int32), lp (fun t : (Int32 × Int32) => bX4_against_55 a1 a2 a3 a4 σ t.1 t.2) n (x14, x13) = some ε4 → ∀ (H : Heap) (locs : List Loc), va_P (dC, dI) vwCl (wM cA h ad σ) H → va_D A (wM cA h ad σ) → va_S A s.heap H locs → ∀ (ls : Array Slot), lv_has ls 9 [(6, .int x13), (5, .int x14), (0, .ref h), (1, .int a1), (2, .int a2), (3, .int a3), (4, .int a4)] → W p l e (headSpec wsX4_against rmX4_against).room s m av below meth c H locs 0 0 (MQ below (qI (dC, dI) A R0 (wM cA h ad σ)) av s 0 0 A) (F0 m 55 ls []) := by
      intro n
      induction n with
      | zero => intro x14 x13 hl0; exact (lp_0 hl0).elim
      | succ n ih4 =>
        intro x14 x13 hl0 H locs hP hD hS ls hl
        obtain ⟨z4, h1, hz4⟩ := lp_s hl0
        have h1 : bX4_against_55 a1 a2 a3 a4 σ x14 x13 = some z4 := h1
        unfold bX4_against_55 at h1
        refine lv_iload hx hb dX4_against_55 (lv_at hl 0 rfl) ?_
        refine lv_iload hx hb dX4_against_57 (lv_at hl 6 rfl) ?_
        refine lv_icmp_ge (tgt := 157) hx hb dX4_against_59 (by decide) (fun hc => ?_) (fun hc => ?_)
        · have h1 := it_t h1 hc
          have he := lp_r h1 hz4
          exact KN4 x14 x13 he _ _ hP hD hS ls (lv_sub hl [0, 1, 2, 3, 4, 5, 6] rfl)
        · have h1 := it_f h1 hc
          refine lv_aload_n hx hb dX4_against_62 rfl (lv_at hl 2 rfl) ?_
          refine va_get (D := (dC, dI)) (ci := 4) (v := .ref (ad 0)) (C := RX4) (T := TX4) (N := 16) hx hb hts hin0 hown hK hP 0 rfl rfl 0 (by decide) (hts (.fieldLink RX4 7 "MeanLocksModel" "at" "[I") (List.mem_of_getElem? (i := 1) rfl)) (fun _ h9 => h9) rfl dX4_against_63 ?_
          refine lv_iconst (v := (2 : Int32)) hx hb dX4_against_66 (by decide) ?_
          obtain ⟨hi, h1⟩ := ax_some h1
          refine va_iald hx hb hK hP 1 0 rfl rfl hi dX4_against_67 ?_
          refine lv_iconst (v := (1 : Int32)) hx hb dX4_against_68 (by decide) ?_
          refine lv_icmp_ne (tgt := 157) hx hb dX4_against_69 (by decide) (fun hc => ?_) (fun hc => ?_)
          · have h1 := it_f h1 hc
            have he := lp_r h1 hz4
            exact KN4 x14 x13 he _ _ hP hD hS ls (lv_sub hl [0, 1, 2, 3, 4, 5, 6] rfl)
          · have h1 := it_t h1 hc
            refine lv_aload_n hx hb dX4_against_72 rfl (lv_at hl 2 rfl) ?_
            refine va_get (D := (dC, dI)) (ci := 4) (v := .ref (ad 0)) (C := RX4) (T := TX4) (N := 16) hx hb hts hin0 hown hK hP 0 rfl rfl 0 (by decide) (hts (.fieldLink RX4 7 "MeanLocksModel" "at" "[I") (List.mem_of_getElem? (i := 1) rfl)) (fun _ h9 => h9) rfl dX4_against_73 ?_
            refine lv_bipush (v := (8 : Int32)) hx hb dX4_against_76 (by decide) ?_
            refine lv_iload hx hb dX4_against_78 (lv_at hl 0 rfl) ?_
            refine lv_iadd hx hb dX4_against_80 ?_
            obtain ⟨hi, h1⟩ := ax_some h1
            refine va_iald hx hb hK hP 1 0 rfl rfl hi dX4_against_81 ?_
            refine lv_topi (fun v15 ev15 => ?_)
            have h1 := nm_at ev15 h1
            refine lv_istore (lv' := [(7, .int v15), (6, .int x13), (5, .int x14), (0, .ref h), (1, .int a1), (2, .int a2), (3, .int a3), (4, .int a4)]) hx hb dX4_against_82 hl (by decide) rfl (fun ls hl => ?_)
            refine lv_iload_n hx hb dX4_against_84 rfl (lv_at hl 6 rfl) ?_
            refine lv_aload_n hx hb dX4_against_85 rfl (lv_at hl 3 rfl) ?_
            refine lv_iload hx hb dX4_against_86 (lv_at hl 0 rfl) ?_
            refine lv_iconst (v := (1 : Int32)) hx hb dX4_against_88 (by decide) ?_
            obtain ⟨r16, hf5, h1⟩ := bnd_some h1
            refine x_VI (As := [.int v15, .int (1 : Int32)]) (rest := [.int a3]) hC (kX4_of l dC dI cA h ad v15 (1 : Int32) σ r16  hf5) (cwV 2 hts gX4_against_X4_of rfl rfl rfl (by decide +kernel) ⟨Nat.le_of_ble_eq_true rfl, Nat.le_of_ble_eq_true rfl⟩) 0 4 hV hN hK hP hD hS hA rfl rfl rfl rfl hl.1 rfl (Nat.le_of_ble_eq_true rfl) ⟨Nat.zero_le _, Nat.zero_le _⟩ dX4_against_89 (fun H locs hP hD hS => ?_)
            refine lv_icmp_lt (tgt := 110) hx hb dX4_against_92 (by decide) (fun hc => ?_) (fun hc => ?_)
            · have h1 := it_t h1 hc
              refine lv_iconst (v := (0 : Int32)) hx hb dX4_against_110 (by decide) ?_
              refine lv_istore (lv' := [(8, .int (0 : Int32)), (7, .int v15), (6, .int x13), (5, .int x14), (0, .ref h), (1, .int a1), (2, .int a2), (3, .int a3), (4, .int a4)]) hx hb dX4_against_111 hl (by decide) rfl (fun ls hl => ?_)
              refine lv_iload hx hb dX4_against_113 (lv_at hl 3 rfl) ?_
              refine lv_iload hx hb dX4_against_115 (lv_at hl 1 rfl) ?_
              refine lv_iload_n hx hb dX4_against_117 rfl (lv_at hl 5 rfl) ?_
              refine lv_icmp_eq (tgt := 147) hx hb dX4_against_118 (by decide) (fun hc => ?_) (fun hc => ?_)
              · have h1 := it_t h1 hc
                refine lv_iconst (v := (0 : Int32)) hx hb dX4_against_147 (by decide) ?_
                refine lv_ior hx hb dX4_against_148 ?_
                refine lv_topi (fun v17 ev17 => ?_)
                have h1 := nm_at ev17 h1
                refine lv_istore (lv' := [(5, .int v17), (8, .int (0 : Int32)), (7, .int v15), (6, .int x13), (0, .ref h), (1, .int a1), (2, .int a2), (3, .int a3), (4, .int a4)]) hx hb dX4_against_149 hl (by decide) rfl (fun ls hl => ?_)
                obtain ⟨v18, ev18, h1⟩ := nm_some h1
                refine lv_iinc (v := v18) (lv' := [(6, .int v18), (5, .int v17), (8, .int (0 : Int32)), (7, .int v15), (0, .ref h), (1, .int a1), (2, .int a2), (3, .int a3), (4, .int a4)]) hx hb dX4_against_151 hl (k := 3) rfl (by rw [ev18]; rfl) (by decide) rfl (fun ls hl => ?_)
                refine lv_goto (tgt := 55) hx hb dX4_against_154 (by decide) ?_
                have hc := lp_l h1 hz4
                exact ih4 v17 v18 hc _ _ hP hD hS ls (lv_sub hl [0, 1, 4, 5, 6, 7, 8] rfl)
              · have h1 := it_f h1 hc
                refine lv_iload hx hb dX4_against_121 (lv_at hl 0 rfl) ?_
                refine lv_if_eq (tgt := 147) hx hb dX4_against_123 (by decide) (fun hc => ?_) (fun hc => absurd hc (by decide))
                refine lv_iconst (v := (0 : Int32)) hx hb dX4_against_147 (by decide) ?_
                refine lv_ior hx hb dX4_against_148 ?_
                refine lv_topi (fun v19 ev19 => ?_)
                have h1 := nm_at ev19 h1
                refine lv_istore (lv' := [(5, .int v19), (8, .int (0 : Int32)), (7, .int v15), (6, .int x13), (0, .ref h), (1, .int a1), (2, .int a2), (3, .int a3), (4, .int a4)]) hx hb dX4_against_149 hl (by decide) rfl (fun ls hl => ?_)
                obtain ⟨v20, ev20, h1⟩ := nm_some h1
                refine lv_iinc (v := v20) (lv' := [(6, .int v20), (5, .int v19), (8, .int (0 : Int32)), (7, .int v15), (0, .ref h), (1, .int a1), (2, .int a2), (3, .int a3), (4, .int a4)]) hx hb dX4_against_151 hl (k := 3) rfl (by rw [ev20]; rfl) (by decide) rfl (fun ls hl => ?_)
                refine lv_goto (tgt := 55) hx hb dX4_against_154 (by decide) ?_
                have hc := lp_l h1 hz4
                exact ih4 v19 v20 hc _ _ hP hD hS ls (lv_sub hl [0, 1, 4, 5, 6, 7, 8] rfl)
            · have h1 := it_f h1 hc
              refine lv_iload_n hx hb dX4_against_95 rfl (lv_at hl 6 rfl) ?_
              refine lv_aload_n hx hb dX4_against_96 rfl (lv_at hl 3 rfl) ?_
              refine lv_iload hx hb dX4_against_97 (lv_at hl 0 rfl) ?_
              refine lv_iconst (v := (2 : Int32)) hx hb dX4_against_99 (by decide) ?_
              obtain ⟨r21, hf6, h1⟩ := bnd_some h1
              refine x_VI (As := [.int v15, .int (2 : Int32)]) (rest := [.int a3]) hC (kX4_of l dC dI cA h ad v15 (2 : Int32) σ r21  hf6) (cwV 2 hts gX4_against_X4_of rfl rfl rfl (by decide +kernel) ⟨Nat.le_of_ble_eq_true rfl, Nat.le_of_ble_eq_true rfl⟩) 0 4 hV hN hK hP hD hS hA rfl rfl rfl rfl hl.1 rfl (Nat.le_of_ble_eq_true rfl) ⟨Nat.zero_le _, Nat.zero_le _⟩ dX4_against_100 (fun H locs hP hD hS => ?_)
              refine lv_icmp_ge (tgt := 110) hx hb dX4_against_103 (by decide) (fun hc => ?_) (fun hc => ?_)
              · have h1 := it_t h1 hc
                refine lv_iconst (v := (0 : Int32)) hx hb dX4_against_110 (by decide) ?_
                refine lv_istore (lv' := [(8, .int (0 : Int32)), (7, .int v15), (6, .int x13), (5, .int x14), (0, .ref h), (1, .int a1), (2, .int a2), (3, .int a3), (4, .int a4)]) hx hb dX4_against_111 hl (by decide) rfl (fun ls hl => ?_)
                refine lv_iload hx hb dX4_against_113 (lv_at hl 3 rfl) ?_
                refine lv_iload hx hb dX4_against_115 (lv_at hl 1 rfl) ?_
                refine lv_iload_n hx hb dX4_against_117 rfl (lv_at hl 5 rfl) ?_
                refine lv_icmp_eq (tgt := 147) hx hb dX4_against_118 (by decide) (fun hc => ?_) (fun hc => ?_)
                · have h1 := it_t h1 hc
                  refine lv_iconst (v := (0 : Int32)) hx hb dX4_against_147 (by decide) ?_
                  refine lv_ior hx hb dX4_against_148 ?_
                  refine lv_topi (fun v22 ev22 => ?_)
                  have h1 := nm_at ev22 h1
                  refine lv_istore (lv' := [(5, .int v22), (8, .int (0 : Int32)), (7, .int v15), (6, .int x13), (0, .ref h), (1, .int a1), (2, .int a2), (3, .int a3), (4, .int a4)]) hx hb dX4_against_149 hl (by decide) rfl (fun ls hl => ?_)
                  obtain ⟨v23, ev23, h1⟩ := nm_some h1
                  refine lv_iinc (v := v23) (lv' := [(6, .int v23), (5, .int v22), (8, .int (0 : Int32)), (7, .int v15), (0, .ref h), (1, .int a1), (2, .int a2), (3, .int a3), (4, .int a4)]) hx hb dX4_against_151 hl (k := 3) rfl (by rw [ev23]; rfl) (by decide) rfl (fun ls hl => ?_)
                  refine lv_goto (tgt := 55) hx hb dX4_against_154 (by decide) ?_
                  have hc := lp_l h1 hz4
                  exact ih4 v22 v23 hc _ _ hP hD hS ls (lv_sub hl [0, 1, 4, 5, 6, 7, 8] rfl)
                · have h1 := it_f h1 hc
                  refine lv_iload hx hb dX4_against_121 (lv_at hl 0 rfl) ?_
                  refine lv_if_eq (tgt := 147) hx hb dX4_against_123 (by decide) (fun hc => ?_) (fun hc => absurd hc (by decide))
                  refine lv_iconst (v := (0 : Int32)) hx hb dX4_against_147 (by decide) ?_
                  refine lv_ior hx hb dX4_against_148 ?_
                  refine lv_topi (fun v24 ev24 => ?_)
                  have h1 := nm_at ev24 h1
                  refine lv_istore (lv' := [(5, .int v24), (8, .int (0 : Int32)), (7, .int v15), (6, .int x13), (0, .ref h), (1, .int a1), (2, .int a2), (3, .int a3), (4, .int a4)]) hx hb dX4_against_149 hl (by decide) rfl (fun ls hl => ?_)
                  obtain ⟨v25, ev25, h1⟩ := nm_some h1
                  refine lv_iinc (v := v25) (lv' := [(6, .int v25), (5, .int v24), (8, .int (0 : Int32)), (7, .int v15), (0, .ref h), (1, .int a1), (2, .int a2), (3, .int a3), (4, .int a4)]) hx hb dX4_against_151 hl (k := 3) rfl (by rw [ev25]; rfl) (by decide) rfl (fun ls hl => ?_)
                  refine lv_goto (tgt := 55) hx hb dX4_against_154 (by decide) ?_
                  have hc := lp_l h1 hz4
                  exact ih4 v24 v25 hc _ _ hP hD hS ls (lv_sub hl [0, 1, 4, 5, 6, 7, 8] rfl)
              · have h1 := it_f h1 hc
                refine lv_iconst (v := (1 : Int32)) hx hb dX4_against_106 (by decide) ?_
                refine lv_goto (tgt := 111) hx hb dX4_against_107 (by decide) ?_
                refine lv_istore (lv' := [(8, .int (1 : Int32)), (7, .int v15), (6, .int x13), (5, .int x14), (0, .ref h), (1, .int a1), (2, .int a2), (3, .int a3), (4, .int a4)]) hx hb dX4_against_111 hl (by decide) rfl (fun ls hl => ?_)
                refine lv_iload hx hb dX4_against_113 (lv_at hl 3 rfl) ?_
                refine lv_iload hx hb dX4_against_115 (lv_at hl 1 rfl) ?_
                refine lv_iload_n hx hb dX4_against_117 rfl (lv_at hl 5 rfl) ?_
                refine lv_icmp_eq (tgt := 147) hx hb dX4_against_118 (by decide) (fun hc => ?_) (fun hc => ?_)
                · have h1 := it_t h1 hc
                  refine lv_iconst (v := (0 : Int32)) hx hb dX4_against_147 (by decide) ?_
                  refine lv_ior hx hb dX4_against_148 ?_
                  refine lv_topi (fun v26 ev26 => ?_)
                  have h1 := nm_at ev26 h1
                  refine lv_istore (lv' := [(5, .int v26), (8, .int (1 : Int32)), (7, .int v15), (6, .int x13), (0, .ref h), (1, .int a1), (2, .int a2), (3, .int a3), (4, .int a4)]) hx hb dX4_against_149 hl (by decide) rfl (fun ls hl => ?_)
                  obtain ⟨v27, ev27, h1⟩ := nm_some h1
                  refine lv_iinc (v := v27) (lv' := [(6, .int v27), (5, .int v26), (8, .int (1 : Int32)), (7, .int v15), (0, .ref h), (1, .int a1), (2, .int a2), (3, .int a3), (4, .int a4)]) hx hb dX4_against_151 hl (k := 3) rfl (by rw [ev27]; rfl) (by decide) rfl (fun ls hl => ?_)
                  refine lv_goto (tgt := 55) hx hb dX4_against_154 (by decide) ?_
                  have hc := lp_l h1 hz4
                  exact ih4 v26 v27 hc _ _ hP hD hS ls (lv_sub hl [0, 1, 4, 5, 6, 7, 8] rfl)
                · have h1 := it_f h1 hc
                  refine lv_iload hx hb dX4_against_121 (lv_at hl 0 rfl) ?_
                  refine lv_if_eq (tgt := 147) hx hb dX4_against_123 (by decide) (fun hc => absurd hc (by decide)) (fun hc => ?_)
                  refine lv_iload_n hx hb dX4_against_126 rfl (lv_at hl 6 rfl) ?_
                  refine lv_aload_n hx hb dX4_against_127 rfl (lv_at hl 4 rfl) ?_
                  refine lv_iload hx hb dX4_against_128 (lv_at hl 1 rfl) ?_
                  refine lv_iconst (v := (0 : Int32)) hx hb dX4_against_130 (by decide) ?_
                  obtain ⟨r28, hf7, h1⟩ := bnd_some h1
                  refine x_VI (As := [.int v15, .int (0 : Int32)]) (rest := [.int a2, .int x14]) hC (kX4_of l dC dI cA h ad v15 (0 : Int32) σ r28  hf7) (cwV 2 hts gX4_against_X4_of rfl rfl rfl (by decide +kernel) ⟨Nat.le_of_ble_eq_true rfl, Nat.le_of_ble_eq_true rfl⟩) 0 4 hV hN hK hP hD hS hA rfl rfl rfl rfl hl.1 rfl (Nat.le_of_ble_eq_true rfl) ⟨Nat.zero_le _, Nat.zero_le _⟩ dX4_against_131 (fun H locs hP hD hS => ?_)
                  obtain ⟨r29, hf8, h1⟩ := bnd_some h1
                  refine x_SI (As := [.int a2, .int r28]) (rest := [.int x14]) hC (kX4_areTogether l dC dI cA a2 r28 r29 hf8) (cwS 2 hts gX4_against_X4_areTogether rfl rfl rfl (by decide +kernel) ⟨Nat.le_of_ble_eq_true rfl, Nat.le_of_ble_eq_true rfl⟩) hV hN hK hP hD hS hA rfl hl.1 rfl (Nat.le_of_ble_eq_true rfl) ⟨Nat.zero_le _, Nat.zero_le _⟩ dX4_against_134 (fun H locs hP hD hS => ?_)
                  refine lv_if_ne (tgt := 147) hx hb dX4_against_137 (by decide) (fun hc => ?_) (fun hc => ?_)
                  · have h1 := it_f h1 hc
                    refine lv_iconst (v := (0 : Int32)) hx hb dX4_against_147 (by decide) ?_
                    refine lv_ior hx hb dX4_against_148 ?_
                    refine lv_topi (fun v30 ev30 => ?_)
                    have h1 := nm_at ev30 h1
                    refine lv_istore (lv' := [(5, .int v30), (8, .int (1 : Int32)), (7, .int v15), (6, .int x13), (0, .ref h), (1, .int a1), (2, .int a2), (3, .int a3), (4, .int a4)]) hx hb dX4_against_149 hl (by decide) rfl (fun ls hl => ?_)
                    obtain ⟨v31, ev31, h1⟩ := nm_some h1
                    refine lv_iinc (v := v31) (lv' := [(6, .int v31), (5, .int v30), (8, .int (1 : Int32)), (7, .int v15), (0, .ref h), (1, .int a1), (2, .int a2), (3, .int a3), (4, .int a4)]) hx hb dX4_against_151 hl (k := 3) rfl (by rw [ev31]; rfl) (by decide) rfl (fun ls hl => ?_)
                    refine lv_goto (tgt := 55) hx hb dX4_against_154 (by decide) ?_
                    have hc := lp_l h1 hz4
                    exact ih4 v30 v31 hc _ _ hP hD hS ls (lv_sub hl [0, 1, 4, 5, 6, 7, 8] rfl)
                  · have h1 := it_t h1 hc
                    refine lv_iconst (v := (1 : Int32)) hx hb dX4_against_140 (by decide) ?_
                    refine lv_iload hx hb dX4_against_141 (lv_at hl 1 rfl) ?_
                    refine lv_ishl hx hb dX4_against_143 ?_
                    refine lv_goto (tgt := 148) hx hb dX4_against_144 (by decide) ?_
                    refine lv_ior hx hb dX4_against_148 ?_
                    refine lv_topi (fun v32 ev32 => ?_)
                    have h1 := nm_at ev32 h1
                    refine lv_istore (lv' := [(5, .int v32), (8, .int (1 : Int32)), (7, .int v15), (6, .int x13), (0, .ref h), (1, .int a1), (2, .int a2), (3, .int a3), (4, .int a4)]) hx hb dX4_against_149 hl (by decide) rfl (fun ls hl => ?_)
                    obtain ⟨v33, ev33, h1⟩ := nm_some h1
                    refine lv_iinc (v := v33) (lv' := [(6, .int v33), (5, .int v32), (8, .int (1 : Int32)), (7, .int v15), (0, .ref h), (1, .int a1), (2, .int a2), (3, .int a3), (4, .int a4)]) hx hb dX4_against_151 hl (k := 3) rfl (by rw [ev33]; rfl) (by decide) rfl (fun ls hl => ?_)
                    refine lv_goto (tgt := 55) hx hb dX4_against_154 (by decide) ?_
                    have hc := lp_l h1 hz4
                    exact ih4 v32 v33 hc _ _ hP hD hS ls (lv_sub hl [0, 1, 4, 5, 6, 7, 8] rfl)
    exact LP4 FU x11 (0 : Int32) hl4 _ _ hP hD hS ls hl
  have LP1 : ∀ (n : Nat) (x2 : Int32) (x1 : Int32), lp (fun t : (Int32 × Int32) => bX4_against_6 a1 a2 a3 σ t.1 t.2) n (x2, x1) = some ε1 → ∀ (H : Heap) (locs : List Loc), va_P (dC, dI) vwCl (wM cA h ad σ) H → va_D A (wM cA h ad σ) → va_S A s.heap H locs → ∀ (ls : Array Slot), lv_has ls 9 [(6, .int x1), (5, .int x2), (0, .ref h), (1, .int a1), (2, .int a2), (3, .int a3), (4, .int a4)] → W p l e (headSpec wsX4_against rmX4_against).room s m av below meth c H locs 0 0 (MQ below (qI (dC, dI) A R0 (wM cA h ad σ)) av s 0 0 A) (F0 m 6 ls []) := by
    intro n
    induction n with
    | zero => intro x2 x1 hl0; exact (lp_0 hl0).elim
    | succ n ih1 =>
      intro x2 x1 hl0 H locs hP hD hS ls hl
      obtain ⟨z1, h1, hz1⟩ := lp_s hl0
      have h1 : bX4_against_6 a1 a2 a3 σ x2 x1 = some z1 := h1
      unfold bX4_against_6 at h1
      refine lv_iload hx hb dX4_against_6 (lv_at hl 0 rfl) ?_
      refine lv_bipush (v := (8 : Int32)) hx hb dX4_against_8 (by decide) ?_
      refine lv_icmp_ge (tgt := 52) hx hb dX4_against_10 (by decide) (fun hc => ?_) (fun hc => ?_)
      · have h1 := it_t h1 hc
        have he := lp_r h1 hz1
        exact KN1 x2 x1 he _ _ hP hD hS ls (lv_sub hl [0, 1, 2, 3, 4, 5, 6] rfl)
      · have h1 := it_f h1 hc
        refine lv_iload hx hb dX4_against_13 (lv_at hl 1 rfl) ?_
        refine lv_iload hx hb dX4_against_15 (lv_at hl 0 rfl) ?_
        refine lv_iload_n hx hb dX4_against_17 rfl (lv_at hl 3 rfl) ?_
        refine lv_icmp_eq (tgt := 42) hx hb dX4_against_18 (by decide) (fun hc => ?_) (fun hc => ?_)
        · have h1 := it_t h1 hc
          refine lv_iconst (v := (0 : Int32)) hx hb dX4_against_42 (by decide) ?_
          refine lv_ior hx hb dX4_against_43 ?_
          refine lv_topi (fun v3 ev3 => ?_)
          have h1 := nm_at ev3 h1
          refine lv_istore (lv' := [(5, .int v3), (6, .int x1), (0, .ref h), (1, .int a1), (2, .int a2), (3, .int a3), (4, .int a4)]) hx hb dX4_against_44 hl (by decide) rfl (fun ls hl => ?_)
          obtain ⟨v4, ev4, h1⟩ := nm_some h1
          refine lv_iinc (v := v4) (lv' := [(6, .int v4), (5, .int v3), (0, .ref h), (1, .int a1), (2, .int a2), (3, .int a3), (4, .int a4)]) hx hb dX4_against_46 hl (k := 1) rfl (by rw [ev4]; rfl) (by decide) rfl (fun ls hl => ?_)
          refine lv_goto (tgt := 6) hx hb dX4_against_49 (by decide) ?_
          have hc := lp_l h1 hz1
          exact ih1 v3 v4 hc _ _ hP hD hS ls (lv_sub hl [0, 1, 2, 3, 4, 5, 6] rfl)
        · have h1 := it_f h1 hc
          refine lv_iload_n hx hb dX4_against_21 rfl (lv_at hl 4 rfl) ?_
          refine lv_aload_n hx hb dX4_against_22 rfl (lv_at hl 2 rfl) ?_
          refine lv_iload hx hb dX4_against_23 (lv_at hl 0 rfl) ?_
          refine lv_iload_n hx hb dX4_against_25 rfl (lv_at hl 5 rfl) ?_
          obtain ⟨r5, hf2, h1⟩ := bnd_some h1
          refine x_VI (As := [.int x1, .int a3]) (rest := [.int a2, .int x2]) hC (kX4_lock l dC dI cA h ad x1 a3 σ r5  hf2) (cwV 2 hts gX4_against_X4_lock rfl rfl rfl (by decide +kernel) ⟨Nat.le_of_ble_eq_true rfl, Nat.le_of_ble_eq_true rfl⟩) 0 4 hV hN hK hP hD hS hA rfl rfl rfl rfl hl.1 rfl (Nat.le_of_ble_eq_true rfl) ⟨Nat.zero_le _, Nat.zero_le _⟩ dX4_against_26 (fun H locs hP hD hS => ?_)
          obtain ⟨r6, hf3, h1⟩ := bnd_some h1
          refine x_SI (As := [.int a2, .int r5]) (rest := [.int x2]) hC (kX4_areTogether l dC dI cA a2 r5 r6 hf3) (cwS 2 hts gX4_against_X4_areTogether rfl rfl rfl (by decide +kernel) ⟨Nat.le_of_ble_eq_true rfl, Nat.le_of_ble_eq_true rfl⟩) hV hN hK hP hD hS hA rfl hl.1 rfl (Nat.le_of_ble_eq_true rfl) ⟨Nat.zero_le _, Nat.zero_le _⟩ dX4_against_29 (fun H locs hP hD hS => ?_)
          refine lv_if_ne (tgt := 42) hx hb dX4_against_32 (by decide) (fun hc => ?_) (fun hc => ?_)
          · have h1 := it_f h1 hc
            refine lv_iconst (v := (0 : Int32)) hx hb dX4_against_42 (by decide) ?_
            refine lv_ior hx hb dX4_against_43 ?_
            refine lv_topi (fun v7 ev7 => ?_)
            have h1 := nm_at ev7 h1
            refine lv_istore (lv' := [(5, .int v7), (6, .int x1), (0, .ref h), (1, .int a1), (2, .int a2), (3, .int a3), (4, .int a4)]) hx hb dX4_against_44 hl (by decide) rfl (fun ls hl => ?_)
            obtain ⟨v8, ev8, h1⟩ := nm_some h1
            refine lv_iinc (v := v8) (lv' := [(6, .int v8), (5, .int v7), (0, .ref h), (1, .int a1), (2, .int a2), (3, .int a3), (4, .int a4)]) hx hb dX4_against_46 hl (k := 1) rfl (by rw [ev8]; rfl) (by decide) rfl (fun ls hl => ?_)
            refine lv_goto (tgt := 6) hx hb dX4_against_49 (by decide) ?_
            have hc := lp_l h1 hz1
            exact ih1 v7 v8 hc _ _ hP hD hS ls (lv_sub hl [0, 1, 2, 3, 4, 5, 6] rfl)
          · have h1 := it_t h1 hc
            refine lv_iconst (v := (1 : Int32)) hx hb dX4_against_35 (by decide) ?_
            refine lv_iload hx hb dX4_against_36 (lv_at hl 0 rfl) ?_
            refine lv_ishl hx hb dX4_against_38 ?_
            refine lv_goto (tgt := 43) hx hb dX4_against_39 (by decide) ?_
            refine lv_ior hx hb dX4_against_43 ?_
            refine lv_topi (fun v9 ev9 => ?_)
            have h1 := nm_at ev9 h1
            refine lv_istore (lv' := [(5, .int v9), (6, .int x1), (0, .ref h), (1, .int a1), (2, .int a2), (3, .int a3), (4, .int a4)]) hx hb dX4_against_44 hl (by decide) rfl (fun ls hl => ?_)
            obtain ⟨v10, ev10, h1⟩ := nm_some h1
            refine lv_iinc (v := v10) (lv' := [(6, .int v10), (5, .int v9), (0, .ref h), (1, .int a1), (2, .int a2), (3, .int a3), (4, .int a4)]) hx hb dX4_against_46 hl (k := 1) rfl (by rw [ev10]; rfl) (by decide) rfl (fun ls hl => ?_)
            refine lv_goto (tgt := 6) hx hb dX4_against_49 (by decide) ?_
            have hc := lp_l h1 hz1
            exact ih1 v9 v10 hc _ _ hP hD hS ls (lv_sub hl [0, 1, 2, 3, 4, 5, 6] rfl)
  exact LP1 FU (0 : Int32) (0 : Int32) hl1 _ _ hP hD hS ls hl
def fX4_in (a1 : Int32) (a2 : Int32) (a3 : Int32) : Option Int32 := if (a1 : Int32) < a2 then (some (0 : Int32)) else (if a3 < a1 then (some (0 : Int32)) else (some (1 : Int32)))
abbrev rmX4_in : Room := { frames := 0, cells := 0, slots := 0, locals := 0 }
set_option maxHeartbeats 4000000 in
set_option maxRecDepth 100000 in
theorem kX4_in (l : Launch) (dC : Nat → ClassId) (dI : Nat → Nat → Nat) (cA : Nat → ClassId) (a1 : Int32) (a2 : Int32) (a3 : Int32) (R0 : Int32) (h0 : fX4_in a1 a2 a3 = some R0) : CI l yX4_in wsX4_in rmX4_in (dC, dI) vwCl (tysW cA) [.int a1, .int a2, .int a3] [] R0 [] := by
  refine CGI_of (cc := cX4_in) (nL := 3) (ret := (some .boolean)) (by decide) rfl (Nat.le_of_ble_eq_true rfl) ?_
  intro p e s m av below meth c A ls H locs hC hl
  obtain ⟨hC, hr, hlocks, hV, hN, hK, hP, hD, hS, hA⟩ := hC
  have hC : CallFix p m c cX4_in 3 s _ wsX4_in RX4 := hC
  obtain ⟨hx, hb, hml, hown, hts⟩ := id hC
  have hl : lv_has ls 3 [(0, .int a1), (1, .int a2), (2, .int a3)] := hl
  unfold fX4_in at h0
  refine lv_iload_n hx hb dX4_in_0 rfl (lv_at hl 0 rfl) ?_
  refine lv_iload_n hx hb dX4_in_1 rfl (lv_at hl 1 rfl) ?_
  refine lv_icmp_lt (tgt := 14) hx hb dX4_in_2 (by decide) (fun hc => ?_) (fun hc => ?_)
  · have h0 := it_t h0 hc
    refine lv_iconst (v := (0 : Int32)) hx hb dX4_in_14 (by decide) ?_
    have e1 := Option.some.inj h0
    exact x_retI hC hr hlocks rfl hP hD hS dX4_in_15 ⟨e1, rfl⟩
  · have h0 := it_f h0 hc
    refine lv_iload_n hx hb dX4_in_5 rfl (lv_at hl 0 rfl) ?_
    refine lv_iload_n hx hb dX4_in_6 rfl (lv_at hl 2 rfl) ?_
    refine lv_icmp_gt (tgt := 14) hx hb dX4_in_7 (by decide) (fun hc => ?_) (fun hc => ?_)
    · have h0 := it_t h0 hc
      refine lv_iconst (v := (0 : Int32)) hx hb dX4_in_14 (by decide) ?_
      have e1 := Option.some.inj h0
      exact x_retI hC hr hlocks rfl hP hD hS dX4_in_15 ⟨e1, rfl⟩
    · have h0 := it_f h0 hc
      refine lv_iconst (v := (1 : Int32)) hx hb dX4_in_10 (by decide) ?_
      refine lv_goto (tgt := 15) hx hb dX4_in_11 (by decide) ?_
      have e1 := Option.some.inj h0
      exact x_retI hC hr hlocks rfl hP hD hS dX4_in_15 ⟨e1, rfl⟩
def fX4_isOwner (a1 : Int32) : Option Int32 := bnd (fX4_in a1 (0 : Int32) (7 : Int32)) fun r1 => gd (r1 = 0 ∨ r1 = 1) (some r1)
abbrev rmX4_isOwner : Room := { frames := 1, cells := 0, slots := 0, locals := 22 }
set_option maxHeartbeats 4000000 in
set_option maxRecDepth 100000 in
theorem kX4_isOwner (l : Launch) (dC : Nat → ClassId) (dI : Nat → Nat → Nat) (cA : Nat → ClassId) (a1 : Int32) (R0 : Int32) (h0 : fX4_isOwner a1 = some R0) : CI l yX4_isOwner wsX4_isOwner rmX4_isOwner (dC, dI) vwCl (tysW cA) [.int a1] [] R0 [] := by
  refine CGI_of (cc := cX4_isOwner) (nL := 1) (ret := (some .boolean)) (by decide) rfl (Nat.le_of_ble_eq_true rfl) ?_
  intro p e s m av below meth c A ls H locs hC hl
  obtain ⟨hC, hr, hlocks, hV, hN, hK, hP, hD, hS, hA⟩ := hC
  have hC : CallFix p m c cX4_isOwner 1 s _ wsX4_isOwner RX4 := hC
  obtain ⟨hx, hb, hml, hown, hts⟩ := id hC
  have hl : lv_has ls 1 [(0, .int a1)] := hl
  unfold fX4_isOwner at h0
  refine lv_iload_n hx hb dX4_isOwner_0 rfl (lv_at hl 0 rfl) ?_
  refine lv_iconst (v := (0 : Int32)) hx hb dX4_isOwner_1 (by decide) ?_
  refine lv_bipush (v := (7 : Int32)) hx hb dX4_isOwner_2 (by decide) ?_
  obtain ⟨r1, hf1, h0⟩ := bnd_some h0
  refine x_SI (As := [.int a1, .int (0 : Int32), .int (7 : Int32)]) (rest := []) hC (kX4_in l dC dI cA a1 (0 : Int32) (7 : Int32) r1 hf1) (cwS 3 hts gX4_isOwner_X4_in rfl rfl rfl (by decide +kernel) ⟨Nat.le_of_ble_eq_true rfl, Nat.le_of_ble_eq_true rfl⟩) hV hN hK hP hD hS hA rfl hl.1 rfl (Nat.le_of_ble_eq_true rfl) ⟨Nat.zero_le _, Nat.zero_le _⟩ dX4_isOwner_4 (fun H locs hP hD hS => ?_)
  obtain ⟨hg, h0⟩ := gd_some h0
  have e1 := Option.some.inj h0
  exact x_retI hC hr hlocks (zg_nar hg) hP hD hS dX4_isOwner_7 ⟨e1, rfl⟩
def fX4_at (a1 : Int32) (a2 : Int32) (σ : St) : Option Int32 := bnd (fX4_isOwner a1) fun r1 => if (r1 : Int32) = (0 : Int32) then (some (-1 : Int32)) else (bnd (fX4_in a2 (0 : Int32) (299 : Int32)) fun r2 => if (r2 : Int32) = (0 : Int32) then (some (-1 : Int32)) else (bnd (fX4_lock a1 a2 σ) fun r3 => some r3))
abbrev rmX4_at : Room := { frames := 2, cells := 0, slots := 0, locals := 42 }
set_option maxHeartbeats 4000000 in
set_option maxRecDepth 100000 in
theorem kX4_at (l : Launch) (dC : Nat → ClassId) (dI : Nat → Nat → Nat) (cA : Nat → ClassId) (h : Nat) (ad : Nat → Nat) (a1 : Int32) (a2 : Int32) (σ : St) (R0 : Int32) (h0 : fX4_at a1 a2 σ = some R0) : CI l yX4_at wsX4_at rmX4_at (dC, dI) vwCl (tysW cA) [.ref h, .int a1, .int a2] (wM cA h ad σ) R0 (wM cA h ad σ) := by
  refine CGI_of (cc := cX4_at) (nL := 3) (ret := (some .int)) (by decide) rfl (Nat.le_of_ble_eq_true rfl) ?_
  intro p e s m av below meth c A ls H locs hC hl
  obtain ⟨hC, hr, hlocks, hV, hN, hK, hP, hD, hS, hA⟩ := hC
  have hC : CallFix p m c cX4_at 3 s _ wsX4_at RX4 := hC
  obtain ⟨hx, hb, hml, hown, hts⟩ := id hC
  have hin0 : ∀ w ∈ u_ws RX4 TX4 16, w ∈ wsX4_at := fun _ h => (List.mem_cons_of_mem _ (List.mem_append_right _ h))
  have hl : lv_has ls 3 [(0, .ref h), (1, .int a1), (2, .int a2)] := hl
  unfold fX4_at at h0
  refine lv_iload_n hx hb dX4_at_0 rfl (lv_at hl 1 rfl) ?_
  obtain ⟨r1, hf1, h0⟩ := bnd_some h0
  refine x_SI (As := [.int a1]) (rest := []) hC (kX4_isOwner l dC dI cA a1 r1 hf1) (cwS 1 hts gX4_at_X4_isOwner rfl rfl rfl (by decide +kernel) ⟨Nat.le_of_ble_eq_true rfl, Nat.le_of_ble_eq_true rfl⟩) hV hN hK hP hD hS hA rfl hl.1 rfl (Nat.le_of_ble_eq_true rfl) ⟨Nat.zero_le _, Nat.zero_le _⟩ dX4_at_1 (fun H locs hP hD hS => ?_)
  refine lv_if_eq (tgt := 27) hx hb dX4_at_4 (by decide) (fun hc => ?_) (fun hc => ?_)
  · have h0 := it_t h0 hc
    refine lv_iconst (v := (-1 : Int32)) hx hb dX4_at_27 (by decide) ?_
    have e1 := Option.some.inj h0
    exact x_retI hC hr hlocks rfl hP hD hS dX4_at_28 ⟨e1, rfl⟩
  · have h0 := it_f h0 hc
    refine lv_iload_n hx hb dX4_at_7 rfl (lv_at hl 2 rfl) ?_
    refine lv_iconst (v := (0 : Int32)) hx hb dX4_at_8 (by decide) ?_
    refine lv_sipush (v := (299 : Int32)) hx hb dX4_at_9 (by decide) ?_
    obtain ⟨r2, hf2, h0⟩ := bnd_some h0
    refine x_SI (As := [.int a2, .int (0 : Int32), .int (299 : Int32)]) (rest := []) hC (kX4_in l dC dI cA a2 (0 : Int32) (299 : Int32) r2 hf2) (cwS 3 hts gX4_at_X4_in rfl rfl rfl (by decide +kernel) ⟨Nat.le_of_ble_eq_true rfl, Nat.le_of_ble_eq_true rfl⟩) hV hN hK hP hD hS hA rfl hl.1 rfl (Nat.le_of_ble_eq_true rfl) ⟨Nat.zero_le _, Nat.zero_le _⟩ dX4_at_12 (fun H locs hP hD hS => ?_)
    refine lv_if_eq (tgt := 27) hx hb dX4_at_15 (by decide) (fun hc => ?_) (fun hc => ?_)
    · have h0 := it_t h0 hc
      refine lv_iconst (v := (-1 : Int32)) hx hb dX4_at_27 (by decide) ?_
      have e1 := Option.some.inj h0
      exact x_retI hC hr hlocks rfl hP hD hS dX4_at_28 ⟨e1, rfl⟩
    · have h0 := it_f h0 hc
      refine lv_aload_n hx hb dX4_at_18 rfl (lv_at hl 0 rfl) ?_
      refine lv_iload_n hx hb dX4_at_19 rfl (lv_at hl 1 rfl) ?_
      refine lv_iload_n hx hb dX4_at_20 rfl (lv_at hl 2 rfl) ?_
      obtain ⟨r3, hf3, h0⟩ := bnd_some h0
      refine x_VI (As := [.int a1, .int a2]) (rest := []) hC (kX4_lock l dC dI cA h ad a1 a2 σ r3  hf3) (cwV 2 hts gX4_at_X4_lock rfl rfl rfl (by decide +kernel) ⟨Nat.le_of_ble_eq_true rfl, Nat.le_of_ble_eq_true rfl⟩) 0 4 hV hN hK hP hD hS hA rfl rfl rfl rfl hl.1 rfl (Nat.le_of_ble_eq_true rfl) ⟨Nat.zero_le _, Nat.zero_le _⟩ dX4_at_21 (fun H locs hP hD hS => ?_)
      refine lv_goto (tgt := 28) hx hb dX4_at_24 (by decide) ?_
      have e1 := Option.some.inj h0
      exact x_retI hC hr hlocks rfl hP hD hS dX4_at_28 ⟨e1, rfl⟩
def fX4_begins (a1 : Int32) (a2 : Int32) (σ : St) : Option Int32 := bnd (fX4_lock a1 a2 σ) fun r1 => if (r1 : Int32) ≤ (0 : Int32) then (some (0 : Int32)) else (if (a2 : Int32) = (0 : Int32) then (some (1 : Int32)) else (bnd (fX4_lock a1 (a2 - (1 : Int32)) σ) fun r2 => bnd (fX4_lock a1 a2 σ) fun r3 => if (r2 : Int32) = r3 then (some (0 : Int32)) else (some (1 : Int32))))
abbrev rmX4_begins : Room := { frames := 1, cells := 0, slots := 0, locals := 22 }
set_option maxHeartbeats 4000000 in
set_option maxRecDepth 100000 in
theorem kX4_begins (l : Launch) (dC : Nat → ClassId) (dI : Nat → Nat → Nat) (cA : Nat → ClassId) (h : Nat) (ad : Nat → Nat) (a1 : Int32) (a2 : Int32) (σ : St) (R0 : Int32) (h0 : fX4_begins a1 a2 σ = some R0) : CI l yX4_begins wsX4_begins rmX4_begins (dC, dI) vwCl (tysW cA) [.ref h, .int a1, .int a2] (wM cA h ad σ) R0 (wM cA h ad σ) := by
  refine CGI_of (cc := cX4_begins) (nL := 3) (ret := (some .boolean)) (by decide) rfl (Nat.le_of_ble_eq_true rfl) ?_
  intro p e s m av below meth c A ls H locs hC hl
  obtain ⟨hC, hr, hlocks, hV, hN, hK, hP, hD, hS, hA⟩ := hC
  have hC : CallFix p m c cX4_begins 3 s _ wsX4_begins RX4 := hC
  obtain ⟨hx, hb, hml, hown, hts⟩ := id hC
  have hin0 : ∀ w ∈ u_ws RX4 TX4 16, w ∈ wsX4_begins := fun _ h => (List.mem_cons_of_mem _ (List.mem_append_right _ h))
  have hl : lv_has ls 3 [(0, .ref h), (1, .int a1), (2, .int a2)] := hl
  unfold fX4_begins at h0
  refine lv_aload_n hx hb dX4_begins_0 rfl (lv_at hl 0 rfl) ?_
  refine lv_iload_n hx hb dX4_begins_1 rfl (lv_at hl 1 rfl) ?_
  refine lv_iload_n hx hb dX4_begins_2 rfl (lv_at hl 2 rfl) ?_
  obtain ⟨r1, hf1, h0⟩ := bnd_some h0
  refine x_VI (As := [.int a1, .int a2]) (rest := []) hC (kX4_lock l dC dI cA h ad a1 a2 σ r1  hf1) (cwV 2 hts gX4_begins_X4_lock rfl rfl rfl (by decide +kernel) ⟨Nat.le_of_ble_eq_true rfl, Nat.le_of_ble_eq_true rfl⟩) 0 4 hV hN hK hP hD hS hA rfl rfl rfl rfl hl.1 rfl (Nat.le_of_ble_eq_true rfl) ⟨Nat.zero_le _, Nat.zero_le _⟩ dX4_begins_3 (fun H locs hP hD hS => ?_)
  refine lv_if_le (tgt := 34) hx hb dX4_begins_6 (by decide) (fun hc => ?_) (fun hc => ?_)
  · have h0 := it_t h0 hc
    refine lv_iconst (v := (0 : Int32)) hx hb dX4_begins_34 (by decide) ?_
    have e1 := Option.some.inj h0
    exact x_retI hC hr hlocks rfl hP hD hS dX4_begins_35 ⟨e1, rfl⟩
  · have h0 := it_f h0 hc
    refine lv_iload_n hx hb dX4_begins_9 rfl (lv_at hl 2 rfl) ?_
    refine lv_if_eq (tgt := 30) hx hb dX4_begins_10 (by decide) (fun hc => ?_) (fun hc => ?_)
    · have h0 := it_t h0 hc
      refine lv_iconst (v := (1 : Int32)) hx hb dX4_begins_30 (by decide) ?_
      refine lv_goto (tgt := 35) hx hb dX4_begins_31 (by decide) ?_
      have e1 := Option.some.inj h0
      exact x_retI hC hr hlocks rfl hP hD hS dX4_begins_35 ⟨e1, rfl⟩
    · have h0 := it_f h0 hc
      refine lv_aload_n hx hb dX4_begins_13 rfl (lv_at hl 0 rfl) ?_
      refine lv_iload_n hx hb dX4_begins_14 rfl (lv_at hl 1 rfl) ?_
      refine lv_iload_n hx hb dX4_begins_15 rfl (lv_at hl 2 rfl) ?_
      refine lv_iconst (v := (1 : Int32)) hx hb dX4_begins_16 (by decide) ?_
      refine lv_isub hx hb dX4_begins_17 ?_
      obtain ⟨r2, hf2, h0⟩ := bnd_some h0
      refine x_VI (As := [.int a1, .int (a2 - (1 : Int32))]) (rest := []) hC (kX4_lock l dC dI cA h ad a1 (a2 - (1 : Int32)) σ r2  hf2) (cwV 2 hts gX4_begins_X4_lock rfl rfl rfl (by decide +kernel) ⟨Nat.le_of_ble_eq_true rfl, Nat.le_of_ble_eq_true rfl⟩) 0 4 hV hN hK hP hD hS hA rfl rfl rfl rfl hl.1 rfl (Nat.le_of_ble_eq_true rfl) ⟨Nat.zero_le _, Nat.zero_le _⟩ dX4_begins_18 (fun H locs hP hD hS => ?_)
      refine lv_aload_n hx hb dX4_begins_21 rfl (lv_at hl 0 rfl) ?_
      refine lv_iload_n hx hb dX4_begins_22 rfl (lv_at hl 1 rfl) ?_
      refine lv_iload_n hx hb dX4_begins_23 rfl (lv_at hl 2 rfl) ?_
      obtain ⟨r3, hf3, h0⟩ := bnd_some h0
      refine x_VI (As := [.int a1, .int a2]) (rest := [.int r2]) hC (kX4_lock l dC dI cA h ad a1 a2 σ r3  hf3) (cwV 2 hts gX4_begins_X4_lock rfl rfl rfl (by decide +kernel) ⟨Nat.le_of_ble_eq_true rfl, Nat.le_of_ble_eq_true rfl⟩) 0 4 hV hN hK hP hD hS hA rfl rfl rfl rfl hl.1 rfl (Nat.le_of_ble_eq_true rfl) ⟨Nat.zero_le _, Nat.zero_le _⟩ dX4_begins_24 (fun H locs hP hD hS => ?_)
      refine lv_icmp_eq (tgt := 34) hx hb dX4_begins_27 (by decide) (fun hc => ?_) (fun hc => ?_)
      · have h0 := it_t h0 hc
        refine lv_iconst (v := (0 : Int32)) hx hb dX4_begins_34 (by decide) ?_
        have e1 := Option.some.inj h0
        exact x_retI hC hr hlocks rfl hP hD hS dX4_begins_35 ⟨e1, rfl⟩
      · have h0 := it_f h0 hc
        refine lv_iconst (v := (1 : Int32)) hx hb dX4_begins_30 (by decide) ?_
        refine lv_goto (tgt := 35) hx hb dX4_begins_31 (by decide) ?_
        have e1 := Option.some.inj h0
        exact x_retI hC hr hlocks rfl hP hD hS dX4_begins_35 ⟨e1, rfl⟩
def fX4_has (a1 : Int32) (a2 : Int32) : Option Int32 := if (((a1 >>> (a2 &&& 31)) &&& (1 : Int32)) : Int32) = (1 : Int32) then (some (1 : Int32)) else (some (0 : Int32))
abbrev rmX4_has : Room := { frames := 0, cells := 0, slots := 0, locals := 0 }
set_option maxHeartbeats 4000000 in
set_option maxRecDepth 100000 in
theorem kX4_has (l : Launch) (dC : Nat → ClassId) (dI : Nat → Nat → Nat) (cA : Nat → ClassId) (a1 : Int32) (a2 : Int32) (R0 : Int32) (h0 : fX4_has a1 a2 = some R0) : CI l yX4_has wsX4_has rmX4_has (dC, dI) vwCl (tysW cA) [.int a1, .int a2] [] R0 [] := by
  refine CGI_of (cc := cX4_has) (nL := 2) (ret := (some .boolean)) (by decide) rfl (Nat.le_of_ble_eq_true rfl) ?_
  intro p e s m av below meth c A ls H locs hC hl
  obtain ⟨hC, hr, hlocks, hV, hN, hK, hP, hD, hS, hA⟩ := hC
  have hC : CallFix p m c cX4_has 2 s _ wsX4_has RX4 := hC
  obtain ⟨hx, hb, hml, hown, hts⟩ := id hC
  have hl : lv_has ls 2 [(0, .int a1), (1, .int a2)] := hl
  unfold fX4_has at h0
  refine lv_iload_n hx hb dX4_has_0 rfl (lv_at hl 0 rfl) ?_
  refine lv_iload_n hx hb dX4_has_1 rfl (lv_at hl 1 rfl) ?_
  refine lv_ishr hx hb dX4_has_2 ?_
  refine lv_iconst (v := (1 : Int32)) hx hb dX4_has_3 (by decide) ?_
  refine lv_iand hx hb dX4_has_4 ?_
  refine lv_iconst (v := (1 : Int32)) hx hb dX4_has_5 (by decide) ?_
  refine lv_icmp_ne (tgt := 13) hx hb dX4_has_6 (by decide) (fun hc => ?_) (fun hc => ?_)
  · have h0 := it_f h0 hc
    refine lv_iconst (v := (0 : Int32)) hx hb dX4_has_13 (by decide) ?_
    have e1 := Option.some.inj h0
    exact x_retI hC hr hlocks rfl hP hD hS dX4_has_14 ⟨e1, rfl⟩
  · have h0 := it_t h0 hc
    refine lv_iconst (v := (1 : Int32)) hx hb dX4_has_9 (by decide) ?_
    refine lv_goto (tgt := 14) hx hb dX4_has_10 (by decide) ?_
    have e1 := Option.some.inj h0
    exact x_retI hC hr hlocks rfl hP hD hS dX4_has_14 ⟨e1, rfl⟩
def bX4_givesUp_6 (a1 : Int32) (a2 : Int32) (a3 : Int32) (σ : St) (x2 : Int32) (x1 : Int32) : Option ((Int32 × Int32) ⊕ (Int32 × Int32)) := if (8 : Int32) ≤ x1 then (some (.inr (x2, x1))) else (bnd (fX4_of x1 (0 : Int32) σ) fun r3 => if (x1 : Int32) = a1 then (nm (x2 ||| (0 : Int32)) fun v4 => nm (x1 + (1 : Int32)) fun v5 => some (.inl (v4, v5))) else (bnd (fX4_has a3 x1) fun r6 => if (r6 : Int32) = (0 : Int32) then (nm (x2 ||| (0 : Int32)) fun v7 => nm (x1 + (1 : Int32)) fun v8 => some (.inl (v7, v8))) else (if (r3 : Int32) ≤ (0 : Int32) then (nm (x2 ||| (0 : Int32)) fun v9 => nm (x1 + (1 : Int32)) fun v10 => some (.inl (v9, v10))) else (bnd (fX4_of x1 (1 : Int32) σ) fun r11 => if (a2 : Int32) < r11 then (nm (x2 ||| (0 : Int32)) fun v12 => nm (x1 + (1 : Int32)) fun v13 => some (.inl (v12, v13))) else (bnd (fX4_of x1 (2 : Int32) σ) fun r14 => if r14 ≤ a2 then (nm (x2 ||| (0 : Int32)) fun v15 => nm (x1 + (1 : Int32)) fun v16 => some (.inl (v15, v16))) else (bnd (fX4_lock x1 a2 σ) fun r17 => if r3 ≤ r17 then (nm (x2 ||| (0 : Int32)) fun v18 => nm (x1 + (1 : Int32)) fun v19 => some (.inl (v18, v19))) else (bnd (fX4_lock a1 a2 σ) fun r20 => bnd (fX4_areTogether r3 r20) fun r21 => if (r21 : Int32) = (0 : Int32) then (nm (x2 ||| (1 : Int32)) fun v24 => nm (x1 + (1 : Int32)) fun v25 => some (.inl (v24, v25))) else (nm (x2 ||| (0 : Int32)) fun v22 => nm (x1 + (1 : Int32)) fun v23 => some (.inl (v22, v23))))))))))
def fX4_givesUp (a1 : Int32) (a2 : Int32) (a3 : Int32) (σ : St) : Option Int32 := bnd (lp (fun t : (Int32 × Int32) => bX4_givesUp_6 a1 a2 a3 σ t.1 t.2) FU ((0 : Int32), (0 : Int32))) (fun e : (Int32 × Int32) => nm e.1 fun x26 => nm e.2 fun x27 => gd (x26 = 0 ∨ x26 = 1) (some x26))
abbrev rmX4_givesUp : Room := { frames := 1, cells := 0, slots := 0, locals := 22 }
set_option maxHeartbeats 4000000 in
set_option maxRecDepth 100000 in
theorem kX4_givesUp (l : Launch) (dC : Nat → ClassId) (dI : Nat → Nat → Nat) (cA : Nat → ClassId) (h : Nat) (ad : Nat → Nat) (a1 : Int32) (a2 : Int32) (a3 : Int32) (σ : St) (R0 : Int32) (h0 : fX4_givesUp a1 a2 a3 σ = some R0) : CI l yX4_givesUp wsX4_givesUp rmX4_givesUp (dC, dI) vwCl (tysW cA) [.ref h, .int a1, .int a2, .int a3] (wM cA h ad σ) R0 (wM cA h ad σ) := by
  refine CGI_of (cc := cX4_givesUp) (nL := 8) (ret := (some .boolean)) (by decide) rfl (Nat.le_of_ble_eq_true rfl) ?_
  intro p e s m av below meth c A ls H locs hC hl
  obtain ⟨hC, hr, hlocks, hV, hN, hK, hP, hD, hS, hA⟩ := hC
  have hC : CallFix p m c cX4_givesUp 8 s _ wsX4_givesUp RX4 := hC
  obtain ⟨hx, hb, hml, hown, hts⟩ := id hC
  have hin0 : ∀ w ∈ u_ws RX4 TX4 16, w ∈ wsX4_givesUp := fun _ h => (List.mem_cons_of_mem _ (List.mem_append_right _ h))
  have hl : lv_has ls 8 [(0, .ref h), (1, .int a1), (2, .int a2), (3, .int a3)] := hl
  unfold fX4_givesUp at h0
  refine lv_iconst (v := (0 : Int32)) hx hb dX4_givesUp_0 (by decide) ?_
  refine lv_istore (lv' := [(4, .int (0 : Int32)), (0, .ref h), (1, .int a1), (2, .int a2), (3, .int a3)]) hx hb dX4_givesUp_1 hl (by decide) rfl (fun ls hl => ?_)
  refine lv_iconst (v := (0 : Int32)) hx hb dX4_givesUp_3 (by decide) ?_
  refine lv_istore (lv' := [(5, .int (0 : Int32)), (4, .int (0 : Int32)), (0, .ref h), (1, .int a1), (2, .int a2), (3, .int a3)]) hx hb dX4_givesUp_4 hl (by decide) rfl (fun ls hl => ?_)
  obtain ⟨ε1, hl1, h0⟩ := bnd_some h0
  have KN1 : ∀ (x26 : Int32) (x27 : Int32), ε1 = (x26, x27) → ∀ (H : Heap) (locs : List Loc), va_P (dC, dI) vwCl (wM cA h ad σ) H → va_D A (wM cA h ad σ) → va_S A s.heap H locs → ∀ (ls : Array Slot), lv_has ls 8 [(5, .int x27), (4, .int x26), (0, .ref h), (1, .int a1), (2, .int a2), (3, .int a3)] → W p l e (headSpec wsX4_givesUp rmX4_givesUp).room s m av below meth c H locs 0 0 (MQ below (qI (dC, dI) A R0 (wM cA h ad σ)) av s 0 0 A) (F0 m 118 ls []) := by
    intro x26 x27 hε H locs hP hD hS ls hl
    rw [hε] at h0
    have h0 := nm_at (z := x26) rfl h0
    have h0 := nm_at (z := x27) rfl h0
    refine lv_iload hx hb dX4_givesUp_118 (lv_at hl 1 rfl) ?_
    obtain ⟨hg, h0⟩ := gd_some h0
    have e1 := Option.some.inj h0
    exact x_retI hC hr hlocks (zg_nar hg) hP hD hS dX4_givesUp_120 ⟨e1, rfl⟩
  have LP1 : ∀ (n : Nat) (x2 : Int32) (x1 : Int32), lp (fun t : (Int32 × Int32) => bX4_givesUp_6 a1 a2 a3 σ t.1 t.2) n (x2, x1) = some ε1 → ∀ (H : Heap) (locs : List Loc), va_P (dC, dI) vwCl (wM cA h ad σ) H → va_D A (wM cA h ad σ) → va_S A s.heap H locs → ∀ (ls : Array Slot), lv_has ls 8 [(5, .int x1), (4, .int x2), (0, .ref h), (1, .int a1), (2, .int a2), (3, .int a3)] → W p l e (headSpec wsX4_givesUp rmX4_givesUp).room s m av below meth c H locs 0 0 (MQ below (qI (dC, dI) A R0 (wM cA h ad σ)) av s 0 0 A) (F0 m 6 ls []) := by
    intro n
    induction n with
    | zero => intro x2 x1 hl0; exact (lp_0 hl0).elim
    | succ n ih1 =>
      intro x2 x1 hl0 H locs hP hD hS ls hl
      obtain ⟨z1, h1, hz1⟩ := lp_s hl0
      have h1 : bX4_givesUp_6 a1 a2 a3 σ x2 x1 = some z1 := h1
      unfold bX4_givesUp_6 at h1
      refine lv_iload hx hb dX4_givesUp_6 (lv_at hl 0 rfl) ?_
      refine lv_bipush (v := (8 : Int32)) hx hb dX4_givesUp_8 (by decide) ?_
      refine lv_icmp_ge (tgt := 118) hx hb dX4_givesUp_10 (by decide) (fun hc => ?_) (fun hc => ?_)
      · have h1 := it_t h1 hc
        have he := lp_r h1 hz1
        exact KN1 x2 x1 he _ _ hP hD hS ls (lv_sub hl [0, 1, 2, 3, 4, 5] rfl)
      · have h1 := it_f h1 hc
        refine lv_aload_n hx hb dX4_givesUp_13 rfl (lv_at hl 2 rfl) ?_
        refine lv_iload hx hb dX4_givesUp_14 (lv_at hl 0 rfl) ?_
        refine lv_iconst (v := (0 : Int32)) hx hb dX4_givesUp_16 (by decide) ?_
        obtain ⟨r3, hf2, h1⟩ := bnd_some h1
        refine x_VI (As := [.int x1, .int (0 : Int32)]) (rest := []) hC (kX4_of l dC dI cA h ad x1 (0 : Int32) σ r3  hf2) (cwV 2 hts gX4_givesUp_X4_of rfl rfl rfl (by decide +kernel) ⟨Nat.le_of_ble_eq_true rfl, Nat.le_of_ble_eq_true rfl⟩) 0 4 hV hN hK hP hD hS hA rfl rfl rfl rfl hl.1 rfl (Nat.le_of_ble_eq_true rfl) ⟨Nat.zero_le _, Nat.zero_le _⟩ dX4_givesUp_17 (fun H locs hP hD hS => ?_)
        refine lv_istore (lv' := [(6, .int r3), (5, .int x1), (4, .int x2), (0, .ref h), (1, .int a1), (2, .int a2), (3, .int a3)]) hx hb dX4_givesUp_20 hl (by decide) rfl (fun ls hl => ?_)
        refine lv_iload hx hb dX4_givesUp_22 (lv_at hl 1 rfl) ?_
        refine lv_iload_n hx hb dX4_givesUp_24 rfl (lv_at hl 4 rfl) ?_
        refine lv_icmp_eq (tgt := 80) hx hb dX4_givesUp_25 (by decide) (fun hc => ?_) (fun hc => ?_)
        · have h1 := it_t h1 hc
          refine lv_iconst (v := (0 : Int32)) hx hb dX4_givesUp_80 (by decide) ?_
          refine lv_istore (lv' := [(7, .int (0 : Int32)), (6, .int r3), (5, .int x1), (4, .int x2), (0, .ref h), (1, .int a1), (2, .int a2), (3, .int a3)]) hx hb dX4_givesUp_81 hl (by decide) rfl (fun ls hl => ?_)
          refine lv_iload hx hb dX4_givesUp_83 (lv_at hl 3 rfl) ?_
          refine lv_iload hx hb dX4_givesUp_85 (lv_at hl 0 rfl) ?_
          refine lv_if_eq (tgt := 108) hx hb dX4_givesUp_87 (by decide) (fun hc => ?_) (fun hc => absurd hc (by decide))
          refine lv_iconst (v := (0 : Int32)) hx hb dX4_givesUp_108 (by decide) ?_
          refine lv_ior hx hb dX4_givesUp_109 ?_
          refine lv_topi (fun v4 ev4 => ?_)
          have h1 := nm_at ev4 h1
          refine lv_istore (lv' := [(4, .int v4), (7, .int (0 : Int32)), (6, .int r3), (5, .int x1), (0, .ref h), (1, .int a1), (2, .int a2), (3, .int a3)]) hx hb dX4_givesUp_110 hl (by decide) rfl (fun ls hl => ?_)
          obtain ⟨v5, ev5, h1⟩ := nm_some h1
          refine lv_iinc (v := v5) (lv' := [(5, .int v5), (4, .int v4), (7, .int (0 : Int32)), (6, .int r3), (0, .ref h), (1, .int a1), (2, .int a2), (3, .int a3)]) hx hb dX4_givesUp_112 hl (k := 3) rfl (by rw [ev5]; rfl) (by decide) rfl (fun ls hl => ?_)
          refine lv_goto (tgt := 6) hx hb dX4_givesUp_115 (by decide) ?_
          have hc := lp_l h1 hz1
          exact ih1 v4 v5 hc _ _ hP hD hS ls (lv_sub hl [0, 1, 4, 5, 6, 7] rfl)
        · have h1 := it_f h1 hc
          refine lv_iload_n hx hb dX4_givesUp_28 rfl (lv_at hl 6 rfl) ?_
          refine lv_iload hx hb dX4_givesUp_29 (lv_at hl 1 rfl) ?_
          obtain ⟨r6, hf3, h1⟩ := bnd_some h1
          refine x_SI (As := [.int a3, .int x1]) (rest := []) hC (kX4_has l dC dI cA a3 x1 r6 hf3) (cwS 2 hts gX4_givesUp_X4_has rfl rfl rfl (by decide +kernel) ⟨Nat.le_of_ble_eq_true rfl, Nat.le_of_ble_eq_true rfl⟩) hV hN hK hP hD hS hA rfl hl.1 rfl (Nat.le_of_ble_eq_true rfl) ⟨Nat.zero_le _, Nat.zero_le _⟩ dX4_givesUp_31 (fun H locs hP hD hS => ?_)
          refine lv_if_eq (tgt := 80) hx hb dX4_givesUp_34 (by decide) (fun hc => ?_) (fun hc => ?_)
          · have h1 := it_t h1 hc
            refine lv_iconst (v := (0 : Int32)) hx hb dX4_givesUp_80 (by decide) ?_
            refine lv_istore (lv' := [(7, .int (0 : Int32)), (6, .int r3), (5, .int x1), (4, .int x2), (0, .ref h), (1, .int a1), (2, .int a2), (3, .int a3)]) hx hb dX4_givesUp_81 hl (by decide) rfl (fun ls hl => ?_)
            refine lv_iload hx hb dX4_givesUp_83 (lv_at hl 3 rfl) ?_
            refine lv_iload hx hb dX4_givesUp_85 (lv_at hl 0 rfl) ?_
            refine lv_if_eq (tgt := 108) hx hb dX4_givesUp_87 (by decide) (fun hc => ?_) (fun hc => absurd hc (by decide))
            refine lv_iconst (v := (0 : Int32)) hx hb dX4_givesUp_108 (by decide) ?_
            refine lv_ior hx hb dX4_givesUp_109 ?_
            refine lv_topi (fun v7 ev7 => ?_)
            have h1 := nm_at ev7 h1
            refine lv_istore (lv' := [(4, .int v7), (7, .int (0 : Int32)), (6, .int r3), (5, .int x1), (0, .ref h), (1, .int a1), (2, .int a2), (3, .int a3)]) hx hb dX4_givesUp_110 hl (by decide) rfl (fun ls hl => ?_)
            obtain ⟨v8, ev8, h1⟩ := nm_some h1
            refine lv_iinc (v := v8) (lv' := [(5, .int v8), (4, .int v7), (7, .int (0 : Int32)), (6, .int r3), (0, .ref h), (1, .int a1), (2, .int a2), (3, .int a3)]) hx hb dX4_givesUp_112 hl (k := 3) rfl (by rw [ev8]; rfl) (by decide) rfl (fun ls hl => ?_)
            refine lv_goto (tgt := 6) hx hb dX4_givesUp_115 (by decide) ?_
            have hc := lp_l h1 hz1
            exact ih1 v7 v8 hc _ _ hP hD hS ls (lv_sub hl [0, 1, 4, 5, 6, 7] rfl)
          · have h1 := it_f h1 hc
            refine lv_iload hx hb dX4_givesUp_37 (lv_at hl 0 rfl) ?_
            refine lv_if_le (tgt := 80) hx hb dX4_givesUp_39 (by decide) (fun hc => ?_) (fun hc => ?_)
            · have h1 := it_t h1 hc
              refine lv_iconst (v := (0 : Int32)) hx hb dX4_givesUp_80 (by decide) ?_
              refine lv_istore (lv' := [(7, .int (0 : Int32)), (6, .int r3), (5, .int x1), (4, .int x2), (0, .ref h), (1, .int a1), (2, .int a2), (3, .int a3)]) hx hb dX4_givesUp_81 hl (by decide) rfl (fun ls hl => ?_)
              refine lv_iload hx hb dX4_givesUp_83 (lv_at hl 3 rfl) ?_
              refine lv_iload hx hb dX4_givesUp_85 (lv_at hl 0 rfl) ?_
              refine lv_if_eq (tgt := 108) hx hb dX4_givesUp_87 (by decide) (fun hc => ?_) (fun hc => absurd hc (by decide))
              refine lv_iconst (v := (0 : Int32)) hx hb dX4_givesUp_108 (by decide) ?_
              refine lv_ior hx hb dX4_givesUp_109 ?_
              refine lv_topi (fun v9 ev9 => ?_)
              have h1 := nm_at ev9 h1
              refine lv_istore (lv' := [(4, .int v9), (7, .int (0 : Int32)), (6, .int r3), (5, .int x1), (0, .ref h), (1, .int a1), (2, .int a2), (3, .int a3)]) hx hb dX4_givesUp_110 hl (by decide) rfl (fun ls hl => ?_)
              obtain ⟨v10, ev10, h1⟩ := nm_some h1
              refine lv_iinc (v := v10) (lv' := [(5, .int v10), (4, .int v9), (7, .int (0 : Int32)), (6, .int r3), (0, .ref h), (1, .int a1), (2, .int a2), (3, .int a3)]) hx hb dX4_givesUp_112 hl (k := 3) rfl (by rw [ev10]; rfl) (by decide) rfl (fun ls hl => ?_)
              refine lv_goto (tgt := 6) hx hb dX4_givesUp_115 (by decide) ?_
              have hc := lp_l h1 hz1
              exact ih1 v9 v10 hc _ _ hP hD hS ls (lv_sub hl [0, 1, 4, 5, 6, 7] rfl)
            · have h1 := it_f h1 hc
              refine lv_iload_n hx hb dX4_givesUp_42 rfl (lv_at hl 5 rfl) ?_
              refine lv_aload_n hx hb dX4_givesUp_43 rfl (lv_at hl 3 rfl) ?_
              refine lv_iload hx hb dX4_givesUp_44 (lv_at hl 1 rfl) ?_
              refine lv_iconst (v := (1 : Int32)) hx hb dX4_givesUp_46 (by decide) ?_
              obtain ⟨r11, hf4, h1⟩ := bnd_some h1
              refine x_VI (As := [.int x1, .int (1 : Int32)]) (rest := [.int a2]) hC (kX4_of l dC dI cA h ad x1 (1 : Int32) σ r11  hf4) (cwV 2 hts gX4_givesUp_X4_of rfl rfl rfl (by decide +kernel) ⟨Nat.le_of_ble_eq_true rfl, Nat.le_of_ble_eq_true rfl⟩) 0 4 hV hN hK hP hD hS hA rfl rfl rfl rfl hl.1 rfl (Nat.le_of_ble_eq_true rfl) ⟨Nat.zero_le _, Nat.zero_le _⟩ dX4_givesUp_47 (fun H locs hP hD hS => ?_)
              refine lv_icmp_lt (tgt := 80) hx hb dX4_givesUp_50 (by decide) (fun hc => ?_) (fun hc => ?_)
              · have h1 := it_t h1 hc
                refine lv_iconst (v := (0 : Int32)) hx hb dX4_givesUp_80 (by decide) ?_
                refine lv_istore (lv' := [(7, .int (0 : Int32)), (6, .int r3), (5, .int x1), (4, .int x2), (0, .ref h), (1, .int a1), (2, .int a2), (3, .int a3)]) hx hb dX4_givesUp_81 hl (by decide) rfl (fun ls hl => ?_)
                refine lv_iload hx hb dX4_givesUp_83 (lv_at hl 3 rfl) ?_
                refine lv_iload hx hb dX4_givesUp_85 (lv_at hl 0 rfl) ?_
                refine lv_if_eq (tgt := 108) hx hb dX4_givesUp_87 (by decide) (fun hc => ?_) (fun hc => absurd hc (by decide))
                refine lv_iconst (v := (0 : Int32)) hx hb dX4_givesUp_108 (by decide) ?_
                refine lv_ior hx hb dX4_givesUp_109 ?_
                refine lv_topi (fun v12 ev12 => ?_)
                have h1 := nm_at ev12 h1
                refine lv_istore (lv' := [(4, .int v12), (7, .int (0 : Int32)), (6, .int r3), (5, .int x1), (0, .ref h), (1, .int a1), (2, .int a2), (3, .int a3)]) hx hb dX4_givesUp_110 hl (by decide) rfl (fun ls hl => ?_)
                obtain ⟨v13, ev13, h1⟩ := nm_some h1
                refine lv_iinc (v := v13) (lv' := [(5, .int v13), (4, .int v12), (7, .int (0 : Int32)), (6, .int r3), (0, .ref h), (1, .int a1), (2, .int a2), (3, .int a3)]) hx hb dX4_givesUp_112 hl (k := 3) rfl (by rw [ev13]; rfl) (by decide) rfl (fun ls hl => ?_)
                refine lv_goto (tgt := 6) hx hb dX4_givesUp_115 (by decide) ?_
                have hc := lp_l h1 hz1
                exact ih1 v12 v13 hc _ _ hP hD hS ls (lv_sub hl [0, 1, 4, 5, 6, 7] rfl)
              · have h1 := it_f h1 hc
                refine lv_iload_n hx hb dX4_givesUp_53 rfl (lv_at hl 5 rfl) ?_
                refine lv_aload_n hx hb dX4_givesUp_54 rfl (lv_at hl 3 rfl) ?_
                refine lv_iload hx hb dX4_givesUp_55 (lv_at hl 1 rfl) ?_
                refine lv_iconst (v := (2 : Int32)) hx hb dX4_givesUp_57 (by decide) ?_
                obtain ⟨r14, hf5, h1⟩ := bnd_some h1
                refine x_VI (As := [.int x1, .int (2 : Int32)]) (rest := [.int a2]) hC (kX4_of l dC dI cA h ad x1 (2 : Int32) σ r14  hf5) (cwV 2 hts gX4_givesUp_X4_of rfl rfl rfl (by decide +kernel) ⟨Nat.le_of_ble_eq_true rfl, Nat.le_of_ble_eq_true rfl⟩) 0 4 hV hN hK hP hD hS hA rfl rfl rfl rfl hl.1 rfl (Nat.le_of_ble_eq_true rfl) ⟨Nat.zero_le _, Nat.zero_le _⟩ dX4_givesUp_58 (fun H locs hP hD hS => ?_)
                refine lv_icmp_ge (tgt := 80) hx hb dX4_givesUp_61 (by decide) (fun hc => ?_) (fun hc => ?_)
                · have h1 := it_t h1 hc
                  refine lv_iconst (v := (0 : Int32)) hx hb dX4_givesUp_80 (by decide) ?_
                  refine lv_istore (lv' := [(7, .int (0 : Int32)), (6, .int r3), (5, .int x1), (4, .int x2), (0, .ref h), (1, .int a1), (2, .int a2), (3, .int a3)]) hx hb dX4_givesUp_81 hl (by decide) rfl (fun ls hl => ?_)
                  refine lv_iload hx hb dX4_givesUp_83 (lv_at hl 3 rfl) ?_
                  refine lv_iload hx hb dX4_givesUp_85 (lv_at hl 0 rfl) ?_
                  refine lv_if_eq (tgt := 108) hx hb dX4_givesUp_87 (by decide) (fun hc => ?_) (fun hc => absurd hc (by decide))
                  refine lv_iconst (v := (0 : Int32)) hx hb dX4_givesUp_108 (by decide) ?_
                  refine lv_ior hx hb dX4_givesUp_109 ?_
                  refine lv_topi (fun v15 ev15 => ?_)
                  have h1 := nm_at ev15 h1
                  refine lv_istore (lv' := [(4, .int v15), (7, .int (0 : Int32)), (6, .int r3), (5, .int x1), (0, .ref h), (1, .int a1), (2, .int a2), (3, .int a3)]) hx hb dX4_givesUp_110 hl (by decide) rfl (fun ls hl => ?_)
                  obtain ⟨v16, ev16, h1⟩ := nm_some h1
                  refine lv_iinc (v := v16) (lv' := [(5, .int v16), (4, .int v15), (7, .int (0 : Int32)), (6, .int r3), (0, .ref h), (1, .int a1), (2, .int a2), (3, .int a3)]) hx hb dX4_givesUp_112 hl (k := 3) rfl (by rw [ev16]; rfl) (by decide) rfl (fun ls hl => ?_)
                  refine lv_goto (tgt := 6) hx hb dX4_givesUp_115 (by decide) ?_
                  have hc := lp_l h1 hz1
                  exact ih1 v15 v16 hc _ _ hP hD hS ls (lv_sub hl [0, 1, 4, 5, 6, 7] rfl)
                · have h1 := it_f h1 hc
                  refine lv_aload_n hx hb dX4_givesUp_64 rfl (lv_at hl 3 rfl) ?_
                  refine lv_iload hx hb dX4_givesUp_65 (lv_at hl 1 rfl) ?_
                  refine lv_iload_n hx hb dX4_givesUp_67 rfl (lv_at hl 5 rfl) ?_
                  obtain ⟨r17, hf6, h1⟩ := bnd_some h1
                  refine x_VI (As := [.int x1, .int a2]) (rest := []) hC (kX4_lock l dC dI cA h ad x1 a2 σ r17  hf6) (cwV 2 hts gX4_givesUp_X4_lock rfl rfl rfl (by decide +kernel) ⟨Nat.le_of_ble_eq_true rfl, Nat.le_of_ble_eq_true rfl⟩) 0 4 hV hN hK hP hD hS hA rfl rfl rfl rfl hl.1 rfl (Nat.le_of_ble_eq_true rfl) ⟨Nat.zero_le _, Nat.zero_le _⟩ dX4_givesUp_68 (fun H locs hP hD hS => ?_)
                  refine lv_iload hx hb dX4_givesUp_71 (lv_at hl 0 rfl) ?_
                  refine lv_icmp_ge (tgt := 80) hx hb dX4_givesUp_73 (by decide) (fun hc => ?_) (fun hc => ?_)
                  · have h1 := it_t h1 hc
                    refine lv_iconst (v := (0 : Int32)) hx hb dX4_givesUp_80 (by decide) ?_
                    refine lv_istore (lv' := [(7, .int (0 : Int32)), (6, .int r3), (5, .int x1), (4, .int x2), (0, .ref h), (1, .int a1), (2, .int a2), (3, .int a3)]) hx hb dX4_givesUp_81 hl (by decide) rfl (fun ls hl => ?_)
                    refine lv_iload hx hb dX4_givesUp_83 (lv_at hl 3 rfl) ?_
                    refine lv_iload hx hb dX4_givesUp_85 (lv_at hl 0 rfl) ?_
                    refine lv_if_eq (tgt := 108) hx hb dX4_givesUp_87 (by decide) (fun hc => ?_) (fun hc => absurd hc (by decide))
                    refine lv_iconst (v := (0 : Int32)) hx hb dX4_givesUp_108 (by decide) ?_
                    refine lv_ior hx hb dX4_givesUp_109 ?_
                    refine lv_topi (fun v18 ev18 => ?_)
                    have h1 := nm_at ev18 h1
                    refine lv_istore (lv' := [(4, .int v18), (7, .int (0 : Int32)), (6, .int r3), (5, .int x1), (0, .ref h), (1, .int a1), (2, .int a2), (3, .int a3)]) hx hb dX4_givesUp_110 hl (by decide) rfl (fun ls hl => ?_)
                    obtain ⟨v19, ev19, h1⟩ := nm_some h1
                    refine lv_iinc (v := v19) (lv' := [(5, .int v19), (4, .int v18), (7, .int (0 : Int32)), (6, .int r3), (0, .ref h), (1, .int a1), (2, .int a2), (3, .int a3)]) hx hb dX4_givesUp_112 hl (k := 3) rfl (by rw [ev19]; rfl) (by decide) rfl (fun ls hl => ?_)
                    refine lv_goto (tgt := 6) hx hb dX4_givesUp_115 (by decide) ?_
                    have hc := lp_l h1 hz1
                    exact ih1 v18 v19 hc _ _ hP hD hS ls (lv_sub hl [0, 1, 4, 5, 6, 7] rfl)
                  · have h1 := it_f h1 hc
                    refine lv_iconst (v := (1 : Int32)) hx hb dX4_givesUp_76 (by decide) ?_
                    refine lv_goto (tgt := 81) hx hb dX4_givesUp_77 (by decide) ?_
                    refine lv_istore (lv' := [(7, .int (1 : Int32)), (6, .int r3), (5, .int x1), (4, .int x2), (0, .ref h), (1, .int a1), (2, .int a2), (3, .int a3)]) hx hb dX4_givesUp_81 hl (by decide) rfl (fun ls hl => ?_)
                    refine lv_iload hx hb dX4_givesUp_83 (lv_at hl 3 rfl) ?_
                    refine lv_iload hx hb dX4_givesUp_85 (lv_at hl 0 rfl) ?_
                    refine lv_if_eq (tgt := 108) hx hb dX4_givesUp_87 (by decide) (fun hc => absurd hc (by decide)) (fun hc => ?_)
                    refine lv_iload hx hb dX4_givesUp_90 (lv_at hl 1 rfl) ?_
                    refine lv_aload_n hx hb dX4_givesUp_92 rfl (lv_at hl 4 rfl) ?_
                    refine lv_iload_n hx hb dX4_givesUp_93 rfl (lv_at hl 5 rfl) ?_
                    refine lv_iload_n hx hb dX4_givesUp_94 rfl (lv_at hl 6 rfl) ?_
                    obtain ⟨r20, hf7, h1⟩ := bnd_some h1
                    refine x_VI (As := [.int a1, .int a2]) (rest := [.int r3, .int x2]) hC (kX4_lock l dC dI cA h ad a1 a2 σ r20  hf7) (cwV 2 hts gX4_givesUp_X4_lock rfl rfl rfl (by decide +kernel) ⟨Nat.le_of_ble_eq_true rfl, Nat.le_of_ble_eq_true rfl⟩) 0 4 hV hN hK hP hD hS hA rfl rfl rfl rfl hl.1 rfl (Nat.le_of_ble_eq_true rfl) ⟨Nat.zero_le _, Nat.zero_le _⟩ dX4_givesUp_95 (fun H locs hP hD hS => ?_)
                    obtain ⟨r21, hf8, h1⟩ := bnd_some h1
                    refine x_SI (As := [.int r3, .int r20]) (rest := [.int x2]) hC (kX4_areTogether l dC dI cA r3 r20 r21 hf8) (cwS 2 hts gX4_givesUp_X4_areTogether rfl rfl rfl (by decide +kernel) ⟨Nat.le_of_ble_eq_true rfl, Nat.le_of_ble_eq_true rfl⟩) hV hN hK hP hD hS hA rfl hl.1 rfl (Nat.le_of_ble_eq_true rfl) ⟨Nat.zero_le _, Nat.zero_le _⟩ dX4_givesUp_98 (fun H locs hP hD hS => ?_)
                    refine lv_if_ne (tgt := 108) hx hb dX4_givesUp_101 (by decide) (fun hc => ?_) (fun hc => ?_)
                    · have h1 := it_f h1 hc
                      refine lv_iconst (v := (0 : Int32)) hx hb dX4_givesUp_108 (by decide) ?_
                      refine lv_ior hx hb dX4_givesUp_109 ?_
                      refine lv_topi (fun v22 ev22 => ?_)
                      have h1 := nm_at ev22 h1
                      refine lv_istore (lv' := [(4, .int v22), (7, .int (1 : Int32)), (6, .int r3), (5, .int x1), (0, .ref h), (1, .int a1), (2, .int a2), (3, .int a3)]) hx hb dX4_givesUp_110 hl (by decide) rfl (fun ls hl => ?_)
                      obtain ⟨v23, ev23, h1⟩ := nm_some h1
                      refine lv_iinc (v := v23) (lv' := [(5, .int v23), (4, .int v22), (7, .int (1 : Int32)), (6, .int r3), (0, .ref h), (1, .int a1), (2, .int a2), (3, .int a3)]) hx hb dX4_givesUp_112 hl (k := 3) rfl (by rw [ev23]; rfl) (by decide) rfl (fun ls hl => ?_)
                      refine lv_goto (tgt := 6) hx hb dX4_givesUp_115 (by decide) ?_
                      have hc := lp_l h1 hz1
                      exact ih1 v22 v23 hc _ _ hP hD hS ls (lv_sub hl [0, 1, 4, 5, 6, 7] rfl)
                    · have h1 := it_t h1 hc
                      refine lv_iconst (v := (1 : Int32)) hx hb dX4_givesUp_104 (by decide) ?_
                      refine lv_goto (tgt := 109) hx hb dX4_givesUp_105 (by decide) ?_
                      refine lv_ior hx hb dX4_givesUp_109 ?_
                      refine lv_topi (fun v24 ev24 => ?_)
                      have h1 := nm_at ev24 h1
                      refine lv_istore (lv' := [(4, .int v24), (7, .int (1 : Int32)), (6, .int r3), (5, .int x1), (0, .ref h), (1, .int a1), (2, .int a2), (3, .int a3)]) hx hb dX4_givesUp_110 hl (by decide) rfl (fun ls hl => ?_)
                      obtain ⟨v25, ev25, h1⟩ := nm_some h1
                      refine lv_iinc (v := v25) (lv' := [(5, .int v25), (4, .int v24), (7, .int (1 : Int32)), (6, .int r3), (0, .ref h), (1, .int a1), (2, .int a2), (3, .int a3)]) hx hb dX4_givesUp_112 hl (k := 3) rfl (by rw [ev25]; rfl) (by decide) rfl (fun ls hl => ?_)
                      refine lv_goto (tgt := 6) hx hb dX4_givesUp_115 (by decide) ?_
                      have hc := lp_l h1 hz1
                      exact ih1 v24 v25 hc _ _ hP hD hS ls (lv_sub hl [0, 1, 4, 5, 6, 7] rfl)
  exact LP1 FU (0 : Int32) (0 : Int32) hl1 _ _ hP hD hS ls hl
def bX4_placesOf_5 (a1 : Int32) (a2 : Int32) (σ : St) (x2 : Int32) (x1 : Int32) : Option ((Int32 × Int32) ⊕ (Int32 × Int32)) := if (300 : Int32) ≤ x1 then (some (.inr (x2, x1))) else (bnd (fX4_givesUp a1 x1 a2 σ) fun r3 => if (r3 : Int32) = (0 : Int32) then (nm (x2 + (0 : Int32)) fun v4 => nm (x1 + (1 : Int32)) fun v5 => some (.inl (v4, v5))) else (nm (x2 + (1 : Int32)) fun v6 => nm (x1 + (1 : Int32)) fun v7 => some (.inl (v6, v7))))
def fX4_placesOf (a1 : Int32) (a2 : Int32) (σ : St) : Option Int32 := bnd (lp (fun t : (Int32 × Int32) => bX4_placesOf_5 a1 a2 σ t.1 t.2) FU ((0 : Int32), (0 : Int32))) (fun e : (Int32 × Int32) => nm e.1 fun x8 => nm e.2 fun x9 => some x8)
abbrev rmX4_placesOf : Room := { frames := 2, cells := 0, slots := 0, locals := 49 }
set_option maxHeartbeats 4000000 in
set_option maxRecDepth 100000 in
theorem kX4_placesOf (l : Launch) (dC : Nat → ClassId) (dI : Nat → Nat → Nat) (cA : Nat → ClassId) (h : Nat) (ad : Nat → Nat) (a1 : Int32) (a2 : Int32) (σ : St) (R0 : Int32) (h0 : fX4_placesOf a1 a2 σ = some R0) : CI l yX4_placesOf wsX4_placesOf rmX4_placesOf (dC, dI) vwCl (tysW cA) [.ref h, .int a1, .int a2] (wM cA h ad σ) R0 (wM cA h ad σ) := by
  refine CGI_of (cc := cX4_placesOf) (nL := 5) (ret := (some .int)) (by decide) rfl (Nat.le_of_ble_eq_true rfl) ?_
  intro p e s m av below meth c A ls H locs hC hl
  obtain ⟨hC, hr, hlocks, hV, hN, hK, hP, hD, hS, hA⟩ := hC
  have hC : CallFix p m c cX4_placesOf 5 s _ wsX4_placesOf RX4 := hC
  obtain ⟨hx, hb, hml, hown, hts⟩ := id hC
  have hin0 : ∀ w ∈ u_ws RX4 TX4 16, w ∈ wsX4_placesOf := fun _ h => (List.mem_cons_of_mem _ (List.mem_append_right _ h))
  have hl : lv_has ls 5 [(0, .ref h), (1, .int a1), (2, .int a2)] := hl
  unfold fX4_placesOf at h0
  refine lv_iconst (v := (0 : Int32)) hx hb dX4_placesOf_0 (by decide) ?_
  refine lv_istore_n (lv' := [(3, .int (0 : Int32)), (0, .ref h), (1, .int a1), (2, .int a2)]) hx hb dX4_placesOf_1 rfl hl (by decide) rfl (fun ls hl => ?_)
  refine lv_iconst (v := (0 : Int32)) hx hb dX4_placesOf_2 (by decide) ?_
  refine lv_istore (lv' := [(4, .int (0 : Int32)), (3, .int (0 : Int32)), (0, .ref h), (1, .int a1), (2, .int a2)]) hx hb dX4_placesOf_3 hl (by decide) rfl (fun ls hl => ?_)
  obtain ⟨ε1, hl1, h0⟩ := bnd_some h0
  have KN1 : ∀ (x8 : Int32) (x9 : Int32), ε1 = (x8, x9) → ∀ (H : Heap) (locs : List Loc), va_P (dC, dI) vwCl (wM cA h ad σ) H → va_D A (wM cA h ad σ) → va_S A s.heap H locs → ∀ (ls : Array Slot), lv_has ls 5 [(4, .int x9), (3, .int x8), (0, .ref h), (1, .int a1), (2, .int a2)] → W p l e (headSpec wsX4_placesOf rmX4_placesOf).room s m av below meth c H locs 0 0 (MQ below (qI (dC, dI) A R0 (wM cA h ad σ)) av s 0 0 A) (F0 m 38 ls []) := by
    intro x8 x9 hε H locs hP hD hS ls hl
    rw [hε] at h0
    have h0 := nm_at (z := x8) rfl h0
    have h0 := nm_at (z := x9) rfl h0
    refine lv_iload_n hx hb dX4_placesOf_38 rfl (lv_at hl 1 rfl) ?_
    have e1 := Option.some.inj h0
    exact x_retI hC hr hlocks rfl hP hD hS dX4_placesOf_39 ⟨e1, rfl⟩
  have LP1 : ∀ (n : Nat) (x2 : Int32) (x1 : Int32), lp (fun t : (Int32 × Int32) => bX4_placesOf_5 a1 a2 σ t.1 t.2) n (x2, x1) = some ε1 → ∀ (H : Heap) (locs : List Loc), va_P (dC, dI) vwCl (wM cA h ad σ) H → va_D A (wM cA h ad σ) → va_S A s.heap H locs → ∀ (ls : Array Slot), lv_has ls 5 [(4, .int x1), (3, .int x2), (0, .ref h), (1, .int a1), (2, .int a2)] → W p l e (headSpec wsX4_placesOf rmX4_placesOf).room s m av below meth c H locs 0 0 (MQ below (qI (dC, dI) A R0 (wM cA h ad σ)) av s 0 0 A) (F0 m 5 ls []) := by
    intro n
    induction n with
    | zero => intro x2 x1 hl0; exact (lp_0 hl0).elim
    | succ n ih1 =>
      intro x2 x1 hl0 H locs hP hD hS ls hl
      obtain ⟨z1, h1, hz1⟩ := lp_s hl0
      have h1 : bX4_placesOf_5 a1 a2 σ x2 x1 = some z1 := h1
      unfold bX4_placesOf_5 at h1
      refine lv_iload hx hb dX4_placesOf_5 (lv_at hl 0 rfl) ?_
      refine lv_sipush (v := (300 : Int32)) hx hb dX4_placesOf_7 (by decide) ?_
      refine lv_icmp_ge (tgt := 38) hx hb dX4_placesOf_10 (by decide) (fun hc => ?_) (fun hc => ?_)
      · have h1 := it_t h1 hc
        have he := lp_r h1 hz1
        exact KN1 x2 x1 he _ _ hP hD hS ls (lv_sub hl [0, 1, 2, 3, 4] rfl)
      · have h1 := it_f h1 hc
        refine lv_iload_n hx hb dX4_placesOf_13 rfl (lv_at hl 1 rfl) ?_
        refine lv_aload_n hx hb dX4_placesOf_14 rfl (lv_at hl 2 rfl) ?_
        refine lv_iload_n hx hb dX4_placesOf_15 rfl (lv_at hl 3 rfl) ?_
        refine lv_iload hx hb dX4_placesOf_16 (lv_at hl 0 rfl) ?_
        refine lv_iload_n hx hb dX4_placesOf_18 rfl (lv_at hl 4 rfl) ?_
        obtain ⟨r3, hf2, h1⟩ := bnd_some h1
        refine x_VI (As := [.int a1, .int x1, .int a2]) (rest := [.int x2]) hC (kX4_givesUp l dC dI cA h ad a1 x1 a2 σ r3  hf2) (cwV 3 hts gX4_placesOf_X4_givesUp rfl rfl rfl (by decide +kernel) ⟨Nat.le_of_ble_eq_true rfl, Nat.le_of_ble_eq_true rfl⟩) 0 4 hV hN hK hP hD hS hA rfl rfl rfl rfl hl.1 rfl (Nat.le_of_ble_eq_true rfl) ⟨Nat.zero_le _, Nat.zero_le _⟩ dX4_placesOf_19 (fun H locs hP hD hS => ?_)
        refine lv_if_eq (tgt := 29) hx hb dX4_placesOf_22 (by decide) (fun hc => ?_) (fun hc => ?_)
        · have h1 := it_t h1 hc
          refine lv_iconst (v := (0 : Int32)) hx hb dX4_placesOf_29 (by decide) ?_
          refine lv_iadd hx hb dX4_placesOf_30 ?_
          refine lv_topi (fun v4 ev4 => ?_)
          have h1 := nm_at ev4 h1
          refine lv_istore_n (lv' := [(3, .int v4), (4, .int x1), (0, .ref h), (1, .int a1), (2, .int a2)]) hx hb dX4_placesOf_31 rfl hl (by decide) rfl (fun ls hl => ?_)
          obtain ⟨v5, ev5, h1⟩ := nm_some h1
          refine lv_iinc (v := v5) (lv' := [(4, .int v5), (3, .int v4), (0, .ref h), (1, .int a1), (2, .int a2)]) hx hb dX4_placesOf_32 hl (k := 1) rfl (by rw [ev5]; rfl) (by decide) rfl (fun ls hl => ?_)
          refine lv_goto (tgt := 5) hx hb dX4_placesOf_35 (by decide) ?_
          have hc := lp_l h1 hz1
          exact ih1 v4 v5 hc _ _ hP hD hS ls (lv_sub hl [0, 1, 2, 3, 4] rfl)
        · have h1 := it_f h1 hc
          refine lv_iconst (v := (1 : Int32)) hx hb dX4_placesOf_25 (by decide) ?_
          refine lv_goto (tgt := 30) hx hb dX4_placesOf_26 (by decide) ?_
          refine lv_iadd hx hb dX4_placesOf_30 ?_
          refine lv_topi (fun v6 ev6 => ?_)
          have h1 := nm_at ev6 h1
          refine lv_istore_n (lv' := [(3, .int v6), (4, .int x1), (0, .ref h), (1, .int a1), (2, .int a2)]) hx hb dX4_placesOf_31 rfl hl (by decide) rfl (fun ls hl => ?_)
          obtain ⟨v7, ev7, h1⟩ := nm_some h1
          refine lv_iinc (v := v7) (lv' := [(4, .int v7), (3, .int v6), (0, .ref h), (1, .int a1), (2, .int a2)]) hx hb dX4_placesOf_32 hl (k := 1) rfl (by rw [ev7]; rfl) (by decide) rfl (fun ls hl => ?_)
          refine lv_goto (tgt := 5) hx hb dX4_placesOf_35 (by decide) ?_
          have hc := lp_l h1 hz1
          exact ih1 v6 v7 hc _ _ hP hD hS ls (lv_sub hl [0, 1, 2, 3, 4] rfl)
  exact LP1 FU (0 : Int32) (0 : Int32) hl1 _ _ hP hD hS ls hl
def fX4_layLock (a1 : Int32) (a2 : Int32) (a3 : Int32) (σ : St) : Option St := ax (((88 : Int32) + ((300 : Int32) * a1)) + a2) 2488 (nm (put σ 0 (upd (σ 0) (((88 : Int32) + ((300 : Int32) * a1)) + a2 : Int32).toNatClampNeg (a3))) fun s1 => some s1)
abbrev rmX4_layLock : Room := { frames := 0, cells := 0, slots := 0, locals := 0 }
set_option maxHeartbeats 4000000 in
set_option maxRecDepth 100000 in
theorem kX4_layLock (l : Launch) (dC : Nat → ClassId) (dI : Nat → Nat → Nat) (cA : Nat → ClassId) (h : Nat) (ad : Nat → Nat) (a1 : Int32) (a2 : Int32) (a3 : Int32) (σ : St) (σ' : St) (h0 : fX4_layLock a1 a2 a3 σ = some σ') : CV l yX4_layLock wsX4_layLock rmX4_layLock (dC, dI) vwCl (tysW cA) [.ref h, .int a1, .int a2, .int a3] (wM cA h ad σ) (wM cA h ad σ') := by
  refine CGV_of (cc := cX4_layLock) (nL := 4) (ret := none) (by decide) rfl (Nat.le_of_ble_eq_true rfl) ?_
  intro p e s m av below meth c A ls H locs hC hl
  obtain ⟨hC, hr, hlocks, hV, hN, hK, hP, hD, hS, hA⟩ := hC
  have hC : CallFix p m c cX4_layLock 4 s _ wsX4_layLock RX4 := hC
  obtain ⟨hx, hb, hml, hown, hts⟩ := id hC
  have hin0 : ∀ w ∈ u_ws RX4 TX4 16, w ∈ wsX4_layLock := fun _ h => (List.mem_cons_of_mem _ (List.mem_append_right _ h))
  have hl : lv_has ls 4 [(0, .ref h), (1, .int a1), (2, .int a2), (3, .int a3)] := hl
  unfold fX4_layLock at h0
  refine lv_aload_n hx hb dX4_layLock_0 rfl (lv_at hl 0 rfl) ?_
  refine va_get (D := (dC, dI)) (ci := 4) (v := .ref (ad 0)) (C := RX4) (T := TX4) (N := 16) hx hb hts hin0 hown hK hP 0 rfl rfl 0 (by decide) (hts (.fieldLink RX4 7 "MeanLocksModel" "at" "[I") (List.mem_of_getElem? (i := 1) rfl)) (fun _ h9 => h9) rfl dX4_layLock_1 ?_
  refine lv_bipush (v := (88 : Int32)) hx hb dX4_layLock_4 (by decide) ?_
  refine lv_sipush (v := (300 : Int32)) hx hb dX4_layLock_6 (by decide) ?_
  refine lv_iload_n hx hb dX4_layLock_9 rfl (lv_at hl 1 rfl) ?_
  refine lv_imul hx hb dX4_layLock_10 ?_
  refine lv_iadd hx hb dX4_layLock_11 ?_
  refine lv_iload_n hx hb dX4_layLock_12 rfl (lv_at hl 2 rfl) ?_
  refine lv_iadd hx hb dX4_layLock_13 ?_
  refine lv_iload_n hx hb dX4_layLock_14 rfl (lv_at hl 3 rfl) ?_
  obtain ⟨hi, h0⟩ := ax_some h0
  obtain ⟨s1, es1, h0⟩ := nm_some h0
  refine x_iast (ws' := wM cA h ad s1) hC hK hP hD hS 1 0 rfl rfl (by rw [es1]; exact wM_s0 _ _ _ _ _) hi dX4_layLock_15 (fun H locs hP hD hS => ?_)
  have e1 := Option.some.inj h0
  exact x_retV hC hr hlocks hP hD hS dX4_layLock_16 (by rw [← e1])
def fX4_more (a1 : Int32) (a2 : Int32) (a3 : Int32) (σ : St) : Option St := ax (((16 : Int32) + ((9 : Int32) * a1)) + a2) 2488 (ax (((16 : Int32) + ((9 : Int32) * a1)) + a2) 2488 (nm (put σ 0 (upd (σ 0) (((16 : Int32) + ((9 : Int32) * a1)) + a2 : Int32).toNatClampNeg ((σ 0 (((16 : Int32) + ((9 : Int32) * a1)) + a2 : Int32).toNatClampNeg) + a3))) fun s1 => some s1))
abbrev rmX4_more : Room := { frames := 0, cells := 0, slots := 0, locals := 0 }
set_option maxHeartbeats 4000000 in
set_option maxRecDepth 100000 in
theorem kX4_more (l : Launch) (dC : Nat → ClassId) (dI : Nat → Nat → Nat) (cA : Nat → ClassId) (h : Nat) (ad : Nat → Nat) (a1 : Int32) (a2 : Int32) (a3 : Int32) (σ : St) (σ' : St) (h0 : fX4_more a1 a2 a3 σ = some σ') : CV l yX4_more wsX4_more rmX4_more (dC, dI) vwCl (tysW cA) [.ref h, .int a1, .int a2, .int a3] (wM cA h ad σ) (wM cA h ad σ') := by
  refine CGV_of (cc := cX4_more) (nL := 4) (ret := none) (by decide) rfl (Nat.le_of_ble_eq_true rfl) ?_
  intro p e s m av below meth c A ls H locs hC hl
  obtain ⟨hC, hr, hlocks, hV, hN, hK, hP, hD, hS, hA⟩ := hC
  have hC : CallFix p m c cX4_more 4 s _ wsX4_more RX4 := hC
  obtain ⟨hx, hb, hml, hown, hts⟩ := id hC
  have hin0 : ∀ w ∈ u_ws RX4 TX4 16, w ∈ wsX4_more := fun _ h => (List.mem_cons_of_mem _ (List.mem_append_right _ h))
  have hl : lv_has ls 4 [(0, .ref h), (1, .int a1), (2, .int a2), (3, .int a3)] := hl
  unfold fX4_more at h0
  refine lv_aload_n hx hb dX4_more_0 rfl (lv_at hl 0 rfl) ?_
  refine va_get (D := (dC, dI)) (ci := 4) (v := .ref (ad 0)) (C := RX4) (T := TX4) (N := 16) hx hb hts hin0 hown hK hP 0 rfl rfl 0 (by decide) (hts (.fieldLink RX4 7 "MeanLocksModel" "at" "[I") (List.mem_of_getElem? (i := 1) rfl)) (fun _ h9 => h9) rfl dX4_more_1 ?_
  refine lv_bipush (v := (16 : Int32)) hx hb dX4_more_4 (by decide) ?_
  refine lv_bipush (v := (9 : Int32)) hx hb dX4_more_6 (by decide) ?_
  refine lv_iload_n hx hb dX4_more_8 rfl (lv_at hl 1 rfl) ?_
  refine lv_imul hx hb dX4_more_9 ?_
  refine lv_iadd hx hb dX4_more_10 ?_
  refine lv_iload_n hx hb dX4_more_11 rfl (lv_at hl 2 rfl) ?_
  refine lv_iadd hx hb dX4_more_12 ?_
  refine lv_dup2_11 hx hb dX4_more_13 rfl rfl ?_
  obtain ⟨hi, h0⟩ := ax_some h0
  refine va_iald hx hb hK hP 1 0 rfl rfl hi dX4_more_14 ?_
  refine lv_iload_n hx hb dX4_more_15 rfl (lv_at hl 3 rfl) ?_
  refine lv_iadd hx hb dX4_more_16 ?_
  obtain ⟨hi, h0⟩ := ax_some h0
  obtain ⟨s1, es1, h0⟩ := nm_some h0
  refine x_iast (ws' := wM cA h ad s1) hC hK hP hD hS 1 0 rfl rfl (by rw [es1]; exact wM_s0 _ _ _ _ _) hi dX4_more_17 (fun H locs hP hD hS => ?_)
  have e1 := Option.some.inj h0
  exact x_retV hC hr hlocks hP hD hS dX4_more_18 (by rw [← e1])
def bX4_placeInRow_2 (a1 : Int32) (σ : St) (x1 : Int32) : Option (Int32 ⊕ Int32) := ax (1 : Int32) 2488 (if (σ 0 ((1 : Int32) : Int32).toNatClampNeg) ≤ x1 then (some (.inr x1)) else (ax ((8 : Int32) + x1) 2488 (if ((σ 0 ((8 : Int32) + x1 : Int32).toNatClampNeg) : Int32) = a1 then (some (.inr x1)) else (nm (x1 + (1 : Int32)) fun v2 => some (.inl v2)))))
def fX4_placeInRow (a1 : Int32) (σ : St) : Option Int32 := bnd (lp (fun t : Int32 => bX4_placeInRow_2 a1 σ t) FU (0 : Int32)) (fun e : Int32 => nm e fun x3 => ax (1 : Int32) 2488 (if (σ 0 ((1 : Int32) : Int32).toNatClampNeg) ≤ x3 then (some (-6 : Int32)) else (some x3)))
abbrev rmX4_placeInRow : Room := { frames := 0, cells := 0, slots := 0, locals := 0 }
set_option maxHeartbeats 4000000 in
set_option maxRecDepth 100000 in
theorem kX4_placeInRow (l : Launch) (dC : Nat → ClassId) (dI : Nat → Nat → Nat) (cA : Nat → ClassId) (h : Nat) (ad : Nat → Nat) (a1 : Int32) (σ : St) (R0 : Int32) (h0 : fX4_placeInRow a1 σ = some R0) : CI l yX4_placeInRow wsX4_placeInRow rmX4_placeInRow (dC, dI) vwCl (tysW cA) [.ref h, .int a1] (wM cA h ad σ) R0 (wM cA h ad σ) := by
  refine CGI_of (cc := cX4_placeInRow) (nL := 3) (ret := (some .int)) (by decide) rfl (Nat.le_of_ble_eq_true rfl) ?_
  intro p e s m av below meth c A ls H locs hC hl
  obtain ⟨hC, hr, hlocks, hV, hN, hK, hP, hD, hS, hA⟩ := hC
  have hC : CallFix p m c cX4_placeInRow 3 s _ wsX4_placeInRow RX4 := hC
  obtain ⟨hx, hb, hml, hown, hts⟩ := id hC
  have hin0 : ∀ w ∈ u_ws RX4 TX4 16, w ∈ wsX4_placeInRow := fun _ h => (List.mem_cons_of_mem _ (List.mem_append_right _ h))
  have hl : lv_has ls 3 [(0, .ref h), (1, .int a1)] := hl
  unfold fX4_placeInRow at h0
  refine lv_iconst (v := (0 : Int32)) hx hb dX4_placeInRow_0 (by decide) ?_
  refine lv_istore_n (lv' := [(2, .int (0 : Int32)), (0, .ref h), (1, .int a1)]) hx hb dX4_placeInRow_1 rfl hl (by decide) rfl (fun ls hl => ?_)
  obtain ⟨ε1, hl1, h0⟩ := bnd_some h0
  have KN1 : ∀ (x3 : Int32), ε1 = x3 → ∀ (H : Heap) (locs : List Loc), va_P (dC, dI) vwCl (wM cA h ad σ) H → va_D A (wM cA h ad σ) → va_S A s.heap H locs → ∀ (ls : Array Slot), lv_has ls 3 [(2, .int x3), (0, .ref h), (1, .int a1)] → W p l e (headSpec wsX4_placeInRow rmX4_placeInRow).room s m av below meth c H locs 0 0 (MQ below (qI (dC, dI) A R0 (wM cA h ad σ)) av s 0 0 A) (F0 m 31 ls []) := by
    intro x3 hε H locs hP hD hS ls hl
    rw [hε] at h0
    have h0 := nm_at (z := x3) rfl h0
    refine lv_iload_n hx hb dX4_placeInRow_31 rfl (lv_at hl 0 rfl) ?_
    refine lv_aload_n hx hb dX4_placeInRow_32 rfl (lv_at hl 1 rfl) ?_
    refine va_get (D := (dC, dI)) (ci := 4) (v := .ref (ad 0)) (C := RX4) (T := TX4) (N := 16) hx hb hts hin0 hown hK hP 0 rfl rfl 0 (by decide) (hts (.fieldLink RX4 7 "MeanLocksModel" "at" "[I") (List.mem_of_getElem? (i := 1) rfl)) (fun _ h9 => h9) rfl dX4_placeInRow_33 ?_
    refine lv_iconst (v := (1 : Int32)) hx hb dX4_placeInRow_36 (by decide) ?_
    obtain ⟨hi, h0⟩ := ax_some h0
    refine va_iald hx hb hK hP 1 0 rfl rfl hi dX4_placeInRow_37 ?_
    refine lv_icmp_ge (tgt := 45) hx hb dX4_placeInRow_38 (by decide) (fun hc => ?_) (fun hc => ?_)
    · have h0 := it_t h0 hc
      refine lv_bipush (v := (-6 : Int32)) hx hb dX4_placeInRow_45 (by decide) ?_
      have e1 := Option.some.inj h0
      exact x_retI hC hr hlocks rfl hP hD hS dX4_placeInRow_47 ⟨e1, rfl⟩
    · have h0 := it_f h0 hc
      refine lv_iload_n hx hb dX4_placeInRow_41 rfl (lv_at hl 0 rfl) ?_
      refine lv_goto (tgt := 47) hx hb dX4_placeInRow_42 (by decide) ?_
      have e1 := Option.some.inj h0
      exact x_retI hC hr hlocks rfl hP hD hS dX4_placeInRow_47 ⟨e1, rfl⟩
  have LP1 : ∀ (n : Nat) (x1 : Int32), lp (fun t : Int32 => bX4_placeInRow_2 a1 σ t) n x1 = some ε1 → ∀ (H : Heap) (locs : List Loc), va_P (dC, dI) vwCl (wM cA h ad σ) H → va_D A (wM cA h ad σ) → va_S A s.heap H locs → ∀ (ls : Array Slot), lv_has ls 3 [(2, .int x1), (0, .ref h), (1, .int a1)] → W p l e (headSpec wsX4_placeInRow rmX4_placeInRow).room s m av below meth c H locs 0 0 (MQ below (qI (dC, dI) A R0 (wM cA h ad σ)) av s 0 0 A) (F0 m 2 ls []) := by
    intro n
    induction n with
    | zero => intro x1 hl0; exact (lp_0 hl0).elim
    | succ n ih1 =>
      intro x1 hl0 H locs hP hD hS ls hl
      obtain ⟨z1, h1, hz1⟩ := lp_s hl0
      have h1 : bX4_placeInRow_2 a1 σ x1 = some z1 := h1
      unfold bX4_placeInRow_2 at h1
      refine lv_iload_n hx hb dX4_placeInRow_2 rfl (lv_at hl 0 rfl) ?_
      refine lv_aload_n hx hb dX4_placeInRow_3 rfl (lv_at hl 1 rfl) ?_
      refine va_get (D := (dC, dI)) (ci := 4) (v := .ref (ad 0)) (C := RX4) (T := TX4) (N := 16) hx hb hts hin0 hown hK hP 0 rfl rfl 0 (by decide) (hts (.fieldLink RX4 7 "MeanLocksModel" "at" "[I") (List.mem_of_getElem? (i := 1) rfl)) (fun _ h9 => h9) rfl dX4_placeInRow_4 ?_
      refine lv_iconst (v := (1 : Int32)) hx hb dX4_placeInRow_7 (by decide) ?_
      obtain ⟨hi, h1⟩ := ax_some h1
      refine va_iald hx hb hK hP 1 0 rfl rfl hi dX4_placeInRow_8 ?_
      refine lv_icmp_ge (tgt := 31) hx hb dX4_placeInRow_9 (by decide) (fun hc => ?_) (fun hc => ?_)
      · have h1 := it_t h1 hc
        have he := lp_r h1 hz1
        exact KN1 x1 he _ _ hP hD hS ls (lv_sub hl [0, 1, 2] rfl)
      · have h1 := it_f h1 hc
        refine lv_aload_n hx hb dX4_placeInRow_12 rfl (lv_at hl 1 rfl) ?_
        refine va_get (D := (dC, dI)) (ci := 4) (v := .ref (ad 0)) (C := RX4) (T := TX4) (N := 16) hx hb hts hin0 hown hK hP 0 rfl rfl 0 (by decide) (hts (.fieldLink RX4 7 "MeanLocksModel" "at" "[I") (List.mem_of_getElem? (i := 1) rfl)) (fun _ h9 => h9) rfl dX4_placeInRow_13 ?_
        refine lv_bipush (v := (8 : Int32)) hx hb dX4_placeInRow_16 (by decide) ?_
        refine lv_iload_n hx hb dX4_placeInRow_18 rfl (lv_at hl 0 rfl) ?_
        refine lv_iadd hx hb dX4_placeInRow_19 ?_
        obtain ⟨hi, h1⟩ := ax_some h1
        refine va_iald hx hb hK hP 1 0 rfl rfl hi dX4_placeInRow_20 ?_
        refine lv_iload_n hx hb dX4_placeInRow_21 rfl (lv_at hl 2 rfl) ?_
        refine lv_icmp_eq (tgt := 31) hx hb dX4_placeInRow_22 (by decide) (fun hc => ?_) (fun hc => ?_)
        · have h1 := it_t h1 hc
          have he := lp_r h1 hz1
          exact KN1 x1 he _ _ hP hD hS ls (lv_sub hl [0, 1, 2] rfl)
        · have h1 := it_f h1 hc
          obtain ⟨v2, ev2, h1⟩ := nm_some h1
          refine lv_iinc (v := v2) (lv' := [(2, .int v2), (0, .ref h), (1, .int a1)]) hx hb dX4_placeInRow_25 hl (k := 0) rfl (by rw [ev2]; rfl) (by decide) rfl (fun ls hl => ?_)
          refine lv_goto (tgt := 2) hx hb dX4_placeInRow_28 (by decide) ?_
          have hc := lp_l h1 hz1
          exact ih1 v2 hc _ _ hP hD hS ls (lv_sub hl [0, 1, 2] rfl)
  exact LP1 FU (0 : Int32) hl1 _ _ hP hD hS ls hl
def fX4_stoppedBy (a1 : Int32) (a2 : Int32) (a3 : Int32) (a4 : Int32) (σ : St) : Option Int32 := bnd (fX4_lock a1 a3 σ) fun r1 => if (r1 : Int32) < a2 then (bnd (fX4_against a1 a2 a3 a4 σ) fun r2 => some r2) else (some (0 : Int32))
abbrev rmX4_stoppedBy : Room := { frames := 2, cells := 0, slots := 0, locals := 50 }
set_option maxHeartbeats 4000000 in
set_option maxRecDepth 100000 in
theorem kX4_stoppedBy (l : Launch) (dC : Nat → ClassId) (dI : Nat → Nat → Nat) (cA : Nat → ClassId) (h : Nat) (ad : Nat → Nat) (a1 : Int32) (a2 : Int32) (a3 : Int32) (a4 : Int32) (σ : St) (R0 : Int32) (h0 : fX4_stoppedBy a1 a2 a3 a4 σ = some R0) : CI l yX4_stoppedBy wsX4_stoppedBy rmX4_stoppedBy (dC, dI) vwCl (tysW cA) [.ref h, .int a1, .int a2, .int a3, .int a4] (wM cA h ad σ) R0 (wM cA h ad σ) := by
  refine CGI_of (cc := cX4_stoppedBy) (nL := 5) (ret := (some .int)) (by decide) rfl (Nat.le_of_ble_eq_true rfl) ?_
  intro p e s m av below meth c A ls H locs hC hl
  obtain ⟨hC, hr, hlocks, hV, hN, hK, hP, hD, hS, hA⟩ := hC
  have hC : CallFix p m c cX4_stoppedBy 5 s _ wsX4_stoppedBy RX4 := hC
  obtain ⟨hx, hb, hml, hown, hts⟩ := id hC
  have hin0 : ∀ w ∈ u_ws RX4 TX4 16, w ∈ wsX4_stoppedBy := fun _ h => (List.mem_cons_of_mem _ (List.mem_append_right _ h))
  have hl : lv_has ls 5 [(0, .ref h), (1, .int a1), (2, .int a2), (3, .int a3), (4, .int a4)] := hl
  unfold fX4_stoppedBy at h0
  refine lv_aload_n hx hb dX4_stoppedBy_0 rfl (lv_at hl 0 rfl) ?_
  refine lv_iload_n hx hb dX4_stoppedBy_1 rfl (lv_at hl 1 rfl) ?_
  refine lv_iload_n hx hb dX4_stoppedBy_2 rfl (lv_at hl 3 rfl) ?_
  obtain ⟨r1, hf1, h0⟩ := bnd_some h0
  refine x_VI (As := [.int a1, .int a3]) (rest := []) hC (kX4_lock l dC dI cA h ad a1 a3 σ r1  hf1) (cwV 2 hts gX4_stoppedBy_X4_lock rfl rfl rfl (by decide +kernel) ⟨Nat.le_of_ble_eq_true rfl, Nat.le_of_ble_eq_true rfl⟩) 0 4 hV hN hK hP hD hS hA rfl rfl rfl rfl hl.1 rfl (Nat.le_of_ble_eq_true rfl) ⟨Nat.zero_le _, Nat.zero_le _⟩ dX4_stoppedBy_3 (fun H locs hP hD hS => ?_)
  refine lv_iload_n hx hb dX4_stoppedBy_6 rfl (lv_at hl 2 rfl) ?_
  refine lv_icmp_lt (tgt := 14) hx hb dX4_stoppedBy_7 (by decide) (fun hc => ?_) (fun hc => ?_)
  · have h0 := it_t h0 hc
    refine lv_aload_n hx hb dX4_stoppedBy_14 rfl (lv_at hl 0 rfl) ?_
    refine lv_iload_n hx hb dX4_stoppedBy_15 rfl (lv_at hl 1 rfl) ?_
    refine lv_iload_n hx hb dX4_stoppedBy_16 rfl (lv_at hl 2 rfl) ?_
    refine lv_iload_n hx hb dX4_stoppedBy_17 rfl (lv_at hl 3 rfl) ?_
    refine lv_iload hx hb dX4_stoppedBy_18 (lv_at hl 4 rfl) ?_
    obtain ⟨r2, hf2, h0⟩ := bnd_some h0
    refine x_VI (As := [.int a1, .int a2, .int a3, .int a4]) (rest := []) hC (kX4_against l dC dI cA h ad a1 a2 a3 a4 σ r2  hf2) (cwV 4 hts gX4_stoppedBy_X4_against rfl rfl rfl (by decide +kernel) ⟨Nat.le_of_ble_eq_true rfl, Nat.le_of_ble_eq_true rfl⟩) 0 4 hV hN hK hP hD hS hA rfl rfl rfl rfl hl.1 rfl (Nat.le_of_ble_eq_true rfl) ⟨Nat.zero_le _, Nat.zero_le _⟩ dX4_stoppedBy_20 (fun H locs hP hD hS => ?_)
    have e1 := Option.some.inj h0
    exact x_retI hC hr hlocks rfl hP hD hS dX4_stoppedBy_23 ⟨e1, rfl⟩
  · have h0 := it_f h0 hc
    refine lv_iconst (v := (0 : Int32)) hx hb dX4_stoppedBy_10 (by decide) ?_
    refine lv_goto (tgt := 23) hx hb dX4_stoppedBy_11 (by decide) ?_
    have e1 := Option.some.inj h0
    exact x_retI hC hr hlocks rfl hP hD hS dX4_stoppedBy_23 ⟨e1, rfl⟩
def bX4_stoppedIn_6 (a1 : Int32) (a2 : Int32) (a4 : Int32) (a5 : Int32) (σ : St) (x2 : Int32) (x1 : Int32) : Option ((Int32 × Int32) ⊕ (Int32 × Int32)) := if a4 ≤ x1 then (some (.inr (x2, x1))) else (bnd (fX4_stoppedBy a1 a2 x1 a5 σ) fun r3 => nm (x2 ||| r3) fun v4 => nm (x1 + (1 : Int32)) fun v5 => some (.inl (v4, v5)))
def fX4_stoppedIn (a1 : Int32) (a2 : Int32) (a3 : Int32) (a4 : Int32) (a5 : Int32) (σ : St) : Option Int32 := bnd (lp (fun t : (Int32 × Int32) => bX4_stoppedIn_6 a1 a2 a4 a5 σ t.1 t.2) FU ((0 : Int32), a3)) (fun e : (Int32 × Int32) => nm e.1 fun x6 => nm e.2 fun x7 => some x6)
abbrev rmX4_stoppedIn : Room := { frames := 3, cells := 0, slots := 0, locals := 74 }
set_option maxHeartbeats 4000000 in
set_option maxRecDepth 100000 in
theorem kX4_stoppedIn (l : Launch) (dC : Nat → ClassId) (dI : Nat → Nat → Nat) (cA : Nat → ClassId) (h : Nat) (ad : Nat → Nat) (a1 : Int32) (a2 : Int32) (a3 : Int32) (a4 : Int32) (a5 : Int32) (σ : St) (R0 : Int32) (h0 : fX4_stoppedIn a1 a2 a3 a4 a5 σ = some R0) : CI l yX4_stoppedIn wsX4_stoppedIn rmX4_stoppedIn (dC, dI) vwCl (tysW cA) [.ref h, .int a1, .int a2, .int a3, .int a4, .int a5] (wM cA h ad σ) R0 (wM cA h ad σ) := by
  refine CGI_of (cc := cX4_stoppedIn) (nL := 8) (ret := (some .int)) (by decide) rfl (Nat.le_of_ble_eq_true rfl) ?_
  intro p e s m av below meth c A ls H locs hC hl
  obtain ⟨hC, hr, hlocks, hV, hN, hK, hP, hD, hS, hA⟩ := hC
  have hC : CallFix p m c cX4_stoppedIn 8 s _ wsX4_stoppedIn RX4 := hC
  obtain ⟨hx, hb, hml, hown, hts⟩ := id hC
  have hin0 : ∀ w ∈ u_ws RX4 TX4 16, w ∈ wsX4_stoppedIn := fun _ h => (List.mem_cons_of_mem _ (List.mem_append_right _ h))
  have hl : lv_has ls 8 [(0, .ref h), (1, .int a1), (2, .int a2), (3, .int a3), (4, .int a4), (5, .int a5)] := hl
  unfold fX4_stoppedIn at h0
  refine lv_iconst (v := (0 : Int32)) hx hb dX4_stoppedIn_0 (by decide) ?_
  refine lv_istore (lv' := [(6, .int (0 : Int32)), (0, .ref h), (1, .int a1), (2, .int a2), (3, .int a3), (4, .int a4), (5, .int a5)]) hx hb dX4_stoppedIn_1 hl (by decide) rfl (fun ls hl => ?_)
  refine lv_iload_n hx hb dX4_stoppedIn_3 rfl (lv_at hl 4 rfl) ?_
  refine lv_istore (lv' := [(7, .int a3), (6, .int (0 : Int32)), (0, .ref h), (1, .int a1), (2, .int a2), (3, .int a3), (4, .int a4), (5, .int a5)]) hx hb dX4_stoppedIn_4 hl (by decide) rfl (fun ls hl => ?_)
  obtain ⟨ε1, hl1, h0⟩ := bnd_some h0
  have KN1 : ∀ (x6 : Int32) (x7 : Int32), ε1 = (x6, x7) → ∀ (H : Heap) (locs : List Loc), va_P (dC, dI) vwCl (wM cA h ad σ) H → va_D A (wM cA h ad σ) → va_S A s.heap H locs → ∀ (ls : Array Slot), lv_has ls 8 [(7, .int x7), (6, .int x6), (0, .ref h), (1, .int a1), (2, .int a2), (3, .int a3), (4, .int a4), (5, .int a5)] → W p l e (headSpec wsX4_stoppedIn rmX4_stoppedIn).room s m av below meth c H locs 0 0 (MQ below (qI (dC, dI) A R0 (wM cA h ad σ)) av s 0 0 A) (F0 m 34 ls []) := by
    intro x6 x7 hε H locs hP hD hS ls hl
    rw [hε] at h0
    have h0 := nm_at (z := x6) rfl h0
    have h0 := nm_at (z := x7) rfl h0
    refine lv_iload hx hb dX4_stoppedIn_34 (lv_at hl 1 rfl) ?_
    have e1 := Option.some.inj h0
    exact x_retI hC hr hlocks rfl hP hD hS dX4_stoppedIn_36 ⟨e1, rfl⟩
  have LP1 : ∀ (n : Nat) (x2 : Int32) (x1 : Int32), lp (fun t : (Int32 × Int32) => bX4_stoppedIn_6 a1 a2 a4 a5 σ t.1 t.2) n (x2, x1) = some ε1 → ∀ (H : Heap) (locs : List Loc), va_P (dC, dI) vwCl (wM cA h ad σ) H → va_D A (wM cA h ad σ) → va_S A s.heap H locs → ∀ (ls : Array Slot), lv_has ls 8 [(7, .int x1), (6, .int x2), (0, .ref h), (1, .int a1), (2, .int a2), (3, .int a3), (4, .int a4), (5, .int a5)] → W p l e (headSpec wsX4_stoppedIn rmX4_stoppedIn).room s m av below meth c H locs 0 0 (MQ below (qI (dC, dI) A R0 (wM cA h ad σ)) av s 0 0 A) (F0 m 6 ls []) := by
    intro n
    induction n with
    | zero => intro x2 x1 hl0; exact (lp_0 hl0).elim
    | succ n ih1 =>
      intro x2 x1 hl0 H locs hP hD hS ls hl
      obtain ⟨z1, h1, hz1⟩ := lp_s hl0
      have h1 : bX4_stoppedIn_6 a1 a2 a4 a5 σ x2 x1 = some z1 := h1
      unfold bX4_stoppedIn_6 at h1
      refine lv_iload hx hb dX4_stoppedIn_6 (lv_at hl 0 rfl) ?_
      refine lv_iload hx hb dX4_stoppedIn_8 (lv_at hl 6 rfl) ?_
      refine lv_icmp_ge (tgt := 34) hx hb dX4_stoppedIn_10 (by decide) (fun hc => ?_) (fun hc => ?_)
      · have h1 := it_t h1 hc
        have he := lp_r h1 hz1
        exact KN1 x2 x1 he _ _ hP hD hS ls (lv_sub hl [0, 1, 2, 3, 4, 5, 6, 7] rfl)
      · have h1 := it_f h1 hc
        refine lv_iload hx hb dX4_stoppedIn_13 (lv_at hl 1 rfl) ?_
        refine lv_aload_n hx hb dX4_stoppedIn_15 rfl (lv_at hl 2 rfl) ?_
        refine lv_iload_n hx hb dX4_stoppedIn_16 rfl (lv_at hl 3 rfl) ?_
        refine lv_iload_n hx hb dX4_stoppedIn_17 rfl (lv_at hl 4 rfl) ?_
        refine lv_iload hx hb dX4_stoppedIn_18 (lv_at hl 0 rfl) ?_
        refine lv_iload hx hb dX4_stoppedIn_20 (lv_at hl 7 rfl) ?_
        obtain ⟨r3, hf2, h1⟩ := bnd_some h1
        refine x_VI (As := [.int a1, .int a2, .int x1, .int a5]) (rest := [.int x2]) hC (kX4_stoppedBy l dC dI cA h ad a1 a2 x1 a5 σ r3  hf2) (cwV 4 hts gX4_stoppedIn_X4_stoppedBy rfl rfl rfl (by decide +kernel) ⟨Nat.le_of_ble_eq_true rfl, Nat.le_of_ble_eq_true rfl⟩) 0 4 hV hN hK hP hD hS hA rfl rfl rfl rfl hl.1 rfl (Nat.le_of_ble_eq_true rfl) ⟨Nat.zero_le _, Nat.zero_le _⟩ dX4_stoppedIn_22 (fun H locs hP hD hS => ?_)
        refine lv_ior hx hb dX4_stoppedIn_25 ?_
        refine lv_topi (fun v4 ev4 => ?_)
        have h1 := nm_at ev4 h1
        refine lv_istore (lv' := [(6, .int v4), (7, .int x1), (0, .ref h), (1, .int a1), (2, .int a2), (3, .int a3), (4, .int a4), (5, .int a5)]) hx hb dX4_stoppedIn_26 hl (by decide) rfl (fun ls hl => ?_)
        obtain ⟨v5, ev5, h1⟩ := nm_some h1
        refine lv_iinc (v := v5) (lv' := [(7, .int v5), (6, .int v4), (0, .ref h), (1, .int a1), (2, .int a2), (3, .int a3), (4, .int a4), (5, .int a5)]) hx hb dX4_stoppedIn_28 hl (k := 1) rfl (by rw [ev5]; rfl) (by decide) rfl (fun ls hl => ?_)
        refine lv_goto (tgt := 6) hx hb dX4_stoppedIn_31 (by decide) ?_
        have hc := lp_l h1 hz1
        exact ih1 v4 v5 hc _ _ hP hD hS ls (lv_sub hl [0, 1, 2, 3, 4, 5, 6, 7] rfl)
  exact LP1 FU (0 : Int32) a3 hl1 _ _ hP hD hS ls hl
def fX4_waitsForNow (a1 : Int32) (σ : St) : Option Int32 := bnd (fX4_placeInRow a1 σ) fun r1 => if (0 : Int32) ≤ r1 then (bnd (fX4_of a1 (0 : Int32) σ) fun r2 => bnd (fX4_of a1 (1 : Int32) σ) fun r3 => bnd (fX4_of a1 (2 : Int32) σ) fun r4 => bnd (fX4_stoppedIn a1 r2 r3 r4 r1 σ) fun r5 => some r5) else (some (0 : Int32))
abbrev rmX4_waitsForNow : Room := { frames := 4, cells := 0, slots := 0, locals := 101 }
set_option maxHeartbeats 4000000 in
set_option maxRecDepth 100000 in
theorem kX4_waitsForNow (l : Launch) (dC : Nat → ClassId) (dI : Nat → Nat → Nat) (cA : Nat → ClassId) (h : Nat) (ad : Nat → Nat) (a1 : Int32) (σ : St) (R0 : Int32) (h0 : fX4_waitsForNow a1 σ = some R0) : CI l yX4_waitsForNow wsX4_waitsForNow rmX4_waitsForNow (dC, dI) vwCl (tysW cA) [.ref h, .int a1] (wM cA h ad σ) R0 (wM cA h ad σ) := by
  refine CGI_of (cc := cX4_waitsForNow) (nL := 3) (ret := (some .int)) (by decide) rfl (Nat.le_of_ble_eq_true rfl) ?_
  intro p e s m av below meth c A ls H locs hC hl
  obtain ⟨hC, hr, hlocks, hV, hN, hK, hP, hD, hS, hA⟩ := hC
  have hC : CallFix p m c cX4_waitsForNow 3 s _ wsX4_waitsForNow RX4 := hC
  obtain ⟨hx, hb, hml, hown, hts⟩ := id hC
  have hin0 : ∀ w ∈ u_ws RX4 TX4 16, w ∈ wsX4_waitsForNow := fun _ h => (List.mem_cons_of_mem _ (List.mem_append_right _ h))
  have hl : lv_has ls 3 [(0, .ref h), (1, .int a1)] := hl
  unfold fX4_waitsForNow at h0
  refine lv_aload_n hx hb dX4_waitsForNow_0 rfl (lv_at hl 0 rfl) ?_
  refine lv_iload_n hx hb dX4_waitsForNow_1 rfl (lv_at hl 1 rfl) ?_
  obtain ⟨r1, hf1, h0⟩ := bnd_some h0
  refine x_VI (As := [.int a1]) (rest := []) hC (kX4_placeInRow l dC dI cA h ad a1 σ r1  hf1) (cwV 1 hts gX4_waitsForNow_X4_placeInRow rfl rfl rfl (by decide +kernel) ⟨Nat.le_of_ble_eq_true rfl, Nat.le_of_ble_eq_true rfl⟩) 0 4 hV hN hK hP hD hS hA rfl rfl rfl rfl hl.1 rfl (Nat.le_of_ble_eq_true rfl) ⟨Nat.zero_le _, Nat.zero_le _⟩ dX4_waitsForNow_2 (fun H locs hP hD hS => ?_)
  refine lv_istore_n (lv' := [(2, .int r1), (0, .ref h), (1, .int a1)]) hx hb dX4_waitsForNow_5 rfl hl (by decide) rfl (fun ls hl => ?_)
  refine lv_iload_n hx hb dX4_waitsForNow_6 rfl (lv_at hl 0 rfl) ?_
  refine lv_if_ge (tgt := 14) hx hb dX4_waitsForNow_7 (by decide) (fun hc => ?_) (fun hc => ?_)
  · have h0 := it_t h0 hc
    refine lv_aload_n hx hb dX4_waitsForNow_14 rfl (lv_at hl 1 rfl) ?_
    refine lv_iload_n hx hb dX4_waitsForNow_15 rfl (lv_at hl 2 rfl) ?_
    refine lv_aload_n hx hb dX4_waitsForNow_16 rfl (lv_at hl 1 rfl) ?_
    refine lv_iload_n hx hb dX4_waitsForNow_17 rfl (lv_at hl 2 rfl) ?_
    refine lv_iconst (v := (0 : Int32)) hx hb dX4_waitsForNow_18 (by decide) ?_
    obtain ⟨r2, hf2, h0⟩ := bnd_some h0
    refine x_VI (As := [.int a1, .int (0 : Int32)]) (rest := [.int a1, .ref h]) hC (kX4_of l dC dI cA h ad a1 (0 : Int32) σ r2  hf2) (cwV 2 hts gX4_waitsForNow_X4_of rfl rfl rfl (by decide +kernel) ⟨Nat.le_of_ble_eq_true rfl, Nat.le_of_ble_eq_true rfl⟩) 0 4 hV hN hK hP hD hS hA rfl rfl rfl rfl hl.1 rfl (Nat.le_of_ble_eq_true rfl) ⟨Nat.zero_le _, Nat.zero_le _⟩ dX4_waitsForNow_19 (fun H locs hP hD hS => ?_)
    refine lv_aload_n hx hb dX4_waitsForNow_22 rfl (lv_at hl 1 rfl) ?_
    refine lv_iload_n hx hb dX4_waitsForNow_23 rfl (lv_at hl 2 rfl) ?_
    refine lv_iconst (v := (1 : Int32)) hx hb dX4_waitsForNow_24 (by decide) ?_
    obtain ⟨r3, hf3, h0⟩ := bnd_some h0
    refine x_VI (As := [.int a1, .int (1 : Int32)]) (rest := [.int r2, .int a1, .ref h]) hC (kX4_of l dC dI cA h ad a1 (1 : Int32) σ r3  hf3) (cwV 2 hts gX4_waitsForNow_X4_of rfl rfl rfl (by decide +kernel) ⟨Nat.le_of_ble_eq_true rfl, Nat.le_of_ble_eq_true rfl⟩) 0 4 hV hN hK hP hD hS hA rfl rfl rfl rfl hl.1 rfl (Nat.le_of_ble_eq_true rfl) ⟨Nat.zero_le _, Nat.zero_le _⟩ dX4_waitsForNow_25 (fun H locs hP hD hS => ?_)
    refine lv_aload_n hx hb dX4_waitsForNow_28 rfl (lv_at hl 1 rfl) ?_
    refine lv_iload_n hx hb dX4_waitsForNow_29 rfl (lv_at hl 2 rfl) ?_
    refine lv_iconst (v := (2 : Int32)) hx hb dX4_waitsForNow_30 (by decide) ?_
    obtain ⟨r4, hf4, h0⟩ := bnd_some h0
    refine x_VI (As := [.int a1, .int (2 : Int32)]) (rest := [.int r3, .int r2, .int a1, .ref h]) hC (kX4_of l dC dI cA h ad a1 (2 : Int32) σ r4  hf4) (cwV 2 hts gX4_waitsForNow_X4_of rfl rfl rfl (by decide +kernel) ⟨Nat.le_of_ble_eq_true rfl, Nat.le_of_ble_eq_true rfl⟩) 0 4 hV hN hK hP hD hS hA rfl rfl rfl rfl hl.1 rfl (Nat.le_of_ble_eq_true rfl) ⟨Nat.zero_le _, Nat.zero_le _⟩ dX4_waitsForNow_31 (fun H locs hP hD hS => ?_)
    refine lv_iload_n hx hb dX4_waitsForNow_34 rfl (lv_at hl 0 rfl) ?_
    obtain ⟨r5, hf5, h0⟩ := bnd_some h0
    refine x_VI (As := [.int a1, .int r2, .int r3, .int r4, .int r1]) (rest := []) hC (kX4_stoppedIn l dC dI cA h ad a1 r2 r3 r4 r1 σ r5  hf5) (cwV 5 hts gX4_waitsForNow_X4_stoppedIn rfl rfl rfl (by decide +kernel) ⟨Nat.le_of_ble_eq_true rfl, Nat.le_of_ble_eq_true rfl⟩) 0 4 hV hN hK hP hD hS hA rfl rfl rfl rfl hl.1 rfl (Nat.le_of_ble_eq_true rfl) ⟨Nat.zero_le _, Nat.zero_le _⟩ dX4_waitsForNow_35 (fun H locs hP hD hS => ?_)
    have e1 := Option.some.inj h0
    exact x_retI hC hr hlocks rfl hP hD hS dX4_waitsForNow_38 ⟨e1, rfl⟩
  · have h0 := it_f h0 hc
    refine lv_iconst (v := (0 : Int32)) hx hb dX4_waitsForNow_10 (by decide) ?_
    refine lv_goto (tgt := 38) hx hb dX4_waitsForNow_11 (by decide) ?_
    have e1 := Option.some.inj h0
    exact x_retI hC hr hlocks rfl hP hD hS dX4_waitsForNow_38 ⟨e1, rfl⟩
def bX4_firstGivable_2 (σ : St) (x1 : Int32) : Option (Int32 ⊕ (Int32 ⊕ Int32)) := ax (1 : Int32) 2488 (if (σ 0 ((1 : Int32) : Int32).toNatClampNeg) ≤ x1 then (some (.inr (.inl x1))) else (ax ((8 : Int32) + x1) 2488 (nm (σ 0 ((8 : Int32) + x1 : Int32).toNatClampNeg) fun v2 => bnd (fX4_waitsForNow v2 σ) fun r3 => if (r3 : Int32) = (0 : Int32) then (some (.inr (.inr v2))) else (nm (x1 + (1 : Int32)) fun v4 => some (.inl v4)))))
def fX4_firstGivable (σ : St) : Option Int32 := bnd (lp (fun t : Int32 => bX4_firstGivable_2 σ t) FU (0 : Int32)) (fun e0 : (Int32 ⊕ Int32) => el e0 (fun e : Int32 => nm e fun x5 => some (-6 : Int32)) (fun r : Int32 => some r))
abbrev rmX4_firstGivable : Room := { frames := 5, cells := 0, slots := 0, locals := 123 }
set_option maxHeartbeats 4000000 in
set_option maxRecDepth 100000 in
theorem kX4_firstGivable (l : Launch) (dC : Nat → ClassId) (dI : Nat → Nat → Nat) (cA : Nat → ClassId) (h : Nat) (ad : Nat → Nat) (σ : St) (R0 : Int32) (h0 : fX4_firstGivable σ = some R0) : CI l yX4_firstGivable wsX4_firstGivable rmX4_firstGivable (dC, dI) vwCl (tysW cA) [.ref h] (wM cA h ad σ) R0 (wM cA h ad σ) := by
  refine CGI_of (cc := cX4_firstGivable) (nL := 3) (ret := (some .int)) (by decide) rfl (Nat.le_of_ble_eq_true rfl) ?_
  intro p e s m av below meth c A ls H locs hC hl
  obtain ⟨hC, hr, hlocks, hV, hN, hK, hP, hD, hS, hA⟩ := hC
  have hC : CallFix p m c cX4_firstGivable 3 s _ wsX4_firstGivable RX4 := hC
  obtain ⟨hx, hb, hml, hown, hts⟩ := id hC
  have hin0 : ∀ w ∈ u_ws RX4 TX4 16, w ∈ wsX4_firstGivable := fun _ h => (List.mem_cons_of_mem _ (List.mem_append_right _ h))
  have hl : lv_has ls 3 [(0, .ref h)] := hl
  unfold fX4_firstGivable at h0
  refine lv_iconst (v := (0 : Int32)) hx hb dX4_firstGivable_0 (by decide) ?_
  refine lv_istore_n (lv' := [(1, .int (0 : Int32)), (0, .ref h)]) hx hb dX4_firstGivable_1 rfl hl (by decide) rfl (fun ls hl => ?_)
  obtain ⟨ε1, hl1, h0⟩ := bnd_some h0
  have KN1 : ∀ (x5 : Int32), ε1 = .inl x5 → ∀ (H : Heap) (locs : List Loc), va_P (dC, dI) vwCl (wM cA h ad σ) H → va_D A (wM cA h ad σ) → va_S A s.heap H locs → ∀ (ls : Array Slot), lv_has ls 3 [(1, .int x5), (0, .ref h)] → W p l e (headSpec wsX4_firstGivable rmX4_firstGivable).room s m av below meth c H locs 0 0 (MQ below (qI (dC, dI) A R0 (wM cA h ad σ)) av s 0 0 A) (F0 m 38 ls []) := by
    intro x5 hε H locs hP hD hS ls hl
    rw [hε] at h0
    have h0 := el_l h0
    have h0 := nm_at (z := x5) rfl h0
    refine lv_bipush (v := (-6 : Int32)) hx hb dX4_firstGivable_38 (by decide) ?_
    have e1 := Option.some.inj h0
    exact x_retI hC hr hlocks rfl hP hD hS dX4_firstGivable_40 ⟨e1, rfl⟩
  have LP1 : ∀ (n : Nat) (x1 : Int32), lp (fun t : Int32 => bX4_firstGivable_2 σ t) n x1 = some ε1 → ∀ (H : Heap) (locs : List Loc), va_P (dC, dI) vwCl (wM cA h ad σ) H → va_D A (wM cA h ad σ) → va_S A s.heap H locs → ∀ (ls : Array Slot), lv_has ls 3 [(1, .int x1), (0, .ref h)] → W p l e (headSpec wsX4_firstGivable rmX4_firstGivable).room s m av below meth c H locs 0 0 (MQ below (qI (dC, dI) A R0 (wM cA h ad σ)) av s 0 0 A) (F0 m 2 ls []) := by
    intro n
    induction n with
    | zero => intro x1 hl0; exact (lp_0 hl0).elim
    | succ n ih1 =>
      intro x1 hl0 H locs hP hD hS ls hl
      obtain ⟨z1, h1, hz1⟩ := lp_s hl0
      have h1 : bX4_firstGivable_2 σ x1 = some z1 := h1
      unfold bX4_firstGivable_2 at h1
      refine lv_iload_n hx hb dX4_firstGivable_2 rfl (lv_at hl 0 rfl) ?_
      refine lv_aload_n hx hb dX4_firstGivable_3 rfl (lv_at hl 1 rfl) ?_
      refine va_get (D := (dC, dI)) (ci := 4) (v := .ref (ad 0)) (C := RX4) (T := TX4) (N := 16) hx hb hts hin0 hown hK hP 0 rfl rfl 0 (by decide) (hts (.fieldLink RX4 7 "MeanLocksModel" "at" "[I") (List.mem_of_getElem? (i := 1) rfl)) (fun _ h9 => h9) rfl dX4_firstGivable_4 ?_
      refine lv_iconst (v := (1 : Int32)) hx hb dX4_firstGivable_7 (by decide) ?_
      obtain ⟨hi, h1⟩ := ax_some h1
      refine va_iald hx hb hK hP 1 0 rfl rfl hi dX4_firstGivable_8 ?_
      refine lv_icmp_ge (tgt := 38) hx hb dX4_firstGivable_9 (by decide) (fun hc => ?_) (fun hc => ?_)
      · have h1 := it_t h1 hc
        have he := lp_r h1 hz1
        exact KN1 x1 he _ _ hP hD hS ls (lv_sub hl [0, 1] rfl)
      · have h1 := it_f h1 hc
        refine lv_aload_n hx hb dX4_firstGivable_12 rfl (lv_at hl 1 rfl) ?_
        refine va_get (D := (dC, dI)) (ci := 4) (v := .ref (ad 0)) (C := RX4) (T := TX4) (N := 16) hx hb hts hin0 hown hK hP 0 rfl rfl 0 (by decide) (hts (.fieldLink RX4 7 "MeanLocksModel" "at" "[I") (List.mem_of_getElem? (i := 1) rfl)) (fun _ h9 => h9) rfl dX4_firstGivable_13 ?_
        refine lv_bipush (v := (8 : Int32)) hx hb dX4_firstGivable_16 (by decide) ?_
        refine lv_iload_n hx hb dX4_firstGivable_18 rfl (lv_at hl 0 rfl) ?_
        refine lv_iadd hx hb dX4_firstGivable_19 ?_
        obtain ⟨hi, h1⟩ := ax_some h1
        refine va_iald hx hb hK hP 1 0 rfl rfl hi dX4_firstGivable_20 ?_
        refine lv_topi (fun v2 ev2 => ?_)
        have h1 := nm_at ev2 h1
        refine lv_istore_n (lv' := [(2, .int v2), (1, .int x1), (0, .ref h)]) hx hb dX4_firstGivable_21 rfl hl (by decide) rfl (fun ls hl => ?_)
        refine lv_aload_n hx hb dX4_firstGivable_22 rfl (lv_at hl 2 rfl) ?_
        refine lv_iload_n hx hb dX4_firstGivable_23 rfl (lv_at hl 0 rfl) ?_
        obtain ⟨r3, hf2, h1⟩ := bnd_some h1
        refine x_VI (As := [.int v2]) (rest := []) hC (kX4_waitsForNow l dC dI cA h ad v2 σ r3  hf2) (cwV 1 hts gX4_firstGivable_X4_waitsForNow rfl rfl rfl (by decide +kernel) ⟨Nat.le_of_ble_eq_true rfl, Nat.le_of_ble_eq_true rfl⟩) 0 4 hV hN hK hP hD hS hA rfl rfl rfl rfl hl.1 rfl (Nat.le_of_ble_eq_true rfl) ⟨Nat.zero_le _, Nat.zero_le _⟩ dX4_firstGivable_24 (fun H locs hP hD hS => ?_)
        refine lv_if_ne (tgt := 32) hx hb dX4_firstGivable_27 (by decide) (fun hc => ?_) (fun hc => ?_)
        · have h1 := it_f h1 hc
          obtain ⟨v4, ev4, h1⟩ := nm_some h1
          refine lv_iinc (v := v4) (lv' := [(1, .int v4), (2, .int v2), (0, .ref h)]) hx hb dX4_firstGivable_32 hl (k := 1) rfl (by rw [ev4]; rfl) (by decide) rfl (fun ls hl => ?_)
          refine lv_goto (tgt := 2) hx hb dX4_firstGivable_35 (by decide) ?_
          have hc := lp_l h1 hz1
          exact ih1 v4 hc _ _ hP hD hS ls (lv_sub hl [0, 2] rfl)
        · have h1 := it_t h1 hc
          refine lv_iload_n hx hb dX4_firstGivable_30 rfl (lv_at hl 0 rfl) ?_
          have he := lp_r h1 hz1
          rw [he] at h0
          have h0 := el_r h0
          have e1 := Option.some.inj h0
          exact x_retI hC hr hlocks rfl hP hD hS dX4_firstGivable_31 ⟨e1, rfl⟩
  exact LP1 FU (0 : Int32) hl1 _ _ hP hD hS ls hl
def fX4_lay (a1 : Int32) (a2 : Int32) (a3 : Int32) (σ : St) : Option St := ax (((16 : Int32) + ((9 : Int32) * a1)) + a2) 2488 (nm (put σ 0 (upd (σ 0) (((16 : Int32) + ((9 : Int32) * a1)) + a2 : Int32).toNatClampNeg (a3))) fun s1 => some s1)
abbrev rmX4_lay : Room := { frames := 0, cells := 0, slots := 0, locals := 0 }
set_option maxHeartbeats 4000000 in
set_option maxRecDepth 100000 in
theorem kX4_lay (l : Launch) (dC : Nat → ClassId) (dI : Nat → Nat → Nat) (cA : Nat → ClassId) (h : Nat) (ad : Nat → Nat) (a1 : Int32) (a2 : Int32) (a3 : Int32) (σ : St) (σ' : St) (h0 : fX4_lay a1 a2 a3 σ = some σ') : CV l yX4_lay wsX4_lay rmX4_lay (dC, dI) vwCl (tysW cA) [.ref h, .int a1, .int a2, .int a3] (wM cA h ad σ) (wM cA h ad σ') := by
  refine CGV_of (cc := cX4_lay) (nL := 4) (ret := none) (by decide) rfl (Nat.le_of_ble_eq_true rfl) ?_
  intro p e s m av below meth c A ls H locs hC hl
  obtain ⟨hC, hr, hlocks, hV, hN, hK, hP, hD, hS, hA⟩ := hC
  have hC : CallFix p m c cX4_lay 4 s _ wsX4_lay RX4 := hC
  obtain ⟨hx, hb, hml, hown, hts⟩ := id hC
  have hin0 : ∀ w ∈ u_ws RX4 TX4 16, w ∈ wsX4_lay := fun _ h => (List.mem_cons_of_mem _ (List.mem_append_right _ h))
  have hl : lv_has ls 4 [(0, .ref h), (1, .int a1), (2, .int a2), (3, .int a3)] := hl
  unfold fX4_lay at h0
  refine lv_aload_n hx hb dX4_lay_0 rfl (lv_at hl 0 rfl) ?_
  refine va_get (D := (dC, dI)) (ci := 4) (v := .ref (ad 0)) (C := RX4) (T := TX4) (N := 16) hx hb hts hin0 hown hK hP 0 rfl rfl 0 (by decide) (hts (.fieldLink RX4 7 "MeanLocksModel" "at" "[I") (List.mem_of_getElem? (i := 1) rfl)) (fun _ h9 => h9) rfl dX4_lay_1 ?_
  refine lv_bipush (v := (16 : Int32)) hx hb dX4_lay_4 (by decide) ?_
  refine lv_bipush (v := (9 : Int32)) hx hb dX4_lay_6 (by decide) ?_
  refine lv_iload_n hx hb dX4_lay_8 rfl (lv_at hl 1 rfl) ?_
  refine lv_imul hx hb dX4_lay_9 ?_
  refine lv_iadd hx hb dX4_lay_10 ?_
  refine lv_iload_n hx hb dX4_lay_11 rfl (lv_at hl 2 rfl) ?_
  refine lv_iadd hx hb dX4_lay_12 ?_
  refine lv_iload_n hx hb dX4_lay_13 rfl (lv_at hl 3 rfl) ?_
  obtain ⟨hi, h0⟩ := ax_some h0
  obtain ⟨s1, es1, h0⟩ := nm_some h0
  refine x_iast (ws' := wM cA h ad s1) hC hK hP hD hS 1 0 rfl rfl (by rw [es1]; exact wM_s0 _ _ _ _ _) hi dX4_lay_14 (fun H locs hP hD hS => ?_)
  have e1 := Option.some.inj h0
  exact x_retV hC hr hlocks hP hD hS dX4_lay_15 (by rw [← e1])
def bX4_give_3 (a1 : Int32) (a2 : Int32) (a4 : Int32) (x1 : Int32) (s2 : St) : Option ((Int32 × St) ⊕ (Int32 × St)) := if a4 ≤ x1 then (some (.inr (x1, s2))) else (bnd (fX4_layLock a1 x1 a2 s2) fun s4 => nm (x1 + (1 : Int32)) fun v5 => some (.inl (v5, s4)))
def fX4_give (a1 : Int32) (a2 : Int32) (a3 : Int32) (a4 : Int32) (σ : St) : Option St := bnd (lp (fun t : (Int32 × St) => bX4_give_3 a1 a2 a4 t.1 t.2) FU (a3, σ)) (fun e : (Int32 × St) => nm e.1 fun x6 => nm e.2 fun s7 => bnd (fX4_more a1 (4 : Int32) (1 : Int32) s7) fun s9 => some s9)
abbrev rmX4_give : Room := { frames := 1, cells := 0, slots := 0, locals := 23 }
set_option maxHeartbeats 4000000 in
set_option maxRecDepth 100000 in
theorem kX4_give (l : Launch) (dC : Nat → ClassId) (dI : Nat → Nat → Nat) (cA : Nat → ClassId) (h : Nat) (ad : Nat → Nat) (a1 : Int32) (a2 : Int32) (a3 : Int32) (a4 : Int32) (σ : St) (σ' : St) (h0 : fX4_give a1 a2 a3 a4 σ = some σ') : CV l yX4_give wsX4_give rmX4_give (dC, dI) vwCl (tysW cA) [.ref h, .int a1, .int a2, .int a3, .int a4] (wM cA h ad σ) (wM cA h ad σ') := by
  refine CGV_of (cc := cX4_give) (nL := 6) (ret := none) (by decide) rfl (Nat.le_of_ble_eq_true rfl) ?_
  intro p e s m av below meth c A ls H locs hC hl
  obtain ⟨hC, hr, hlocks, hV, hN, hK, hP, hD, hS, hA⟩ := hC
  have hC : CallFix p m c cX4_give 6 s _ wsX4_give RX4 := hC
  obtain ⟨hx, hb, hml, hown, hts⟩ := id hC
  have hin0 : ∀ w ∈ u_ws RX4 TX4 16, w ∈ wsX4_give := fun _ h => (List.mem_cons_of_mem _ (List.mem_append_right _ h))
  have hl : lv_has ls 6 [(0, .ref h), (1, .int a1), (2, .int a2), (3, .int a3), (4, .int a4)] := hl
  unfold fX4_give at h0
  refine lv_iload_n hx hb dX4_give_0 rfl (lv_at hl 3 rfl) ?_
  refine lv_istore (lv' := [(5, .int a3), (0, .ref h), (1, .int a1), (2, .int a2), (3, .int a3), (4, .int a4)]) hx hb dX4_give_1 hl (by decide) rfl (fun ls hl => ?_)
  obtain ⟨ε1, hl1, h0⟩ := bnd_some h0
  have KN1 : ∀ (x6 : Int32) (s7 : St), ε1 = (x6, s7) → ∀ (H : Heap) (locs : List Loc), va_P (dC, dI) vwCl (wM cA h ad s7) H → va_D A (wM cA h ad s7) → va_S A s.heap H locs → ∀ (ls : Array Slot), lv_has ls 6 [(5, .int x6), (0, .ref h), (1, .int a1), (2, .int a2), (3, .int a3), (4, .int a4)] → W p l e (headSpec wsX4_give rmX4_give).room s m av below meth c H locs 0 0 (MQ below (qV (dC, dI) A (wM cA h ad σ')) av s 0 0 A) (F0 m 24 ls []) := by
    intro x6 s7 hε H locs hP hD hS ls hl
    rw [hε] at h0
    have h0 := nm_at (z := x6) rfl h0
    have h0 := nm_at (z := s7) rfl h0
    refine lv_aload_n hx hb dX4_give_24 rfl (lv_at hl 1 rfl) ?_
    refine lv_iload_n hx hb dX4_give_25 rfl (lv_at hl 2 rfl) ?_
    refine lv_iconst (v := (4 : Int32)) hx hb dX4_give_26 (by decide) ?_
    refine lv_iconst (v := (1 : Int32)) hx hb dX4_give_27 (by decide) ?_
    obtain ⟨s9, hf3, h0⟩ := bnd_some h0
    refine x_VV (As := [.int a1, .int (4 : Int32), .int (1 : Int32)]) (rest := []) hC (kX4_more l dC dI cA h ad a1 (4 : Int32) (1 : Int32) s7 s9 hf3) (cwV 3 hts gX4_give_X4_more rfl rfl rfl (by decide +kernel) ⟨Nat.le_of_ble_eq_true rfl, Nat.le_of_ble_eq_true rfl⟩) 0 4 hV hN hK hP hD hS hA rfl rfl rfl rfl hl.1 rfl (Nat.le_of_ble_eq_true rfl) ⟨Nat.zero_le _, Nat.zero_le _⟩ dX4_give_28 (fun H locs hP hD hS => ?_)
    have e1 := Option.some.inj h0
    exact x_retV hC hr hlocks hP hD hS dX4_give_31 (by rw [← e1])
  have LP1 : ∀ (n : Nat) (x1 : Int32) (s2 : St), lp (fun t : (Int32 × St) => bX4_give_3 a1 a2 a4 t.1 t.2) n (x1, s2) = some ε1 → ∀ (H : Heap) (locs : List Loc), va_P (dC, dI) vwCl (wM cA h ad s2) H → va_D A (wM cA h ad s2) → va_S A s.heap H locs → ∀ (ls : Array Slot), lv_has ls 6 [(5, .int x1), (0, .ref h), (1, .int a1), (2, .int a2), (3, .int a3), (4, .int a4)] → W p l e (headSpec wsX4_give rmX4_give).room s m av below meth c H locs 0 0 (MQ below (qV (dC, dI) A (wM cA h ad σ')) av s 0 0 A) (F0 m 3 ls []) := by
    intro n
    induction n with
    | zero => intro x1 s2 hl0; exact (lp_0 hl0).elim
    | succ n ih1 =>
      intro x1 s2 hl0 H locs hP hD hS ls hl
      obtain ⟨z1, h1, hz1⟩ := lp_s hl0
      have h1 : bX4_give_3 a1 a2 a4 x1 s2 = some z1 := h1
      unfold bX4_give_3 at h1
      refine lv_iload hx hb dX4_give_3 (lv_at hl 0 rfl) ?_
      refine lv_iload hx hb dX4_give_5 (lv_at hl 5 rfl) ?_
      refine lv_icmp_ge (tgt := 24) hx hb dX4_give_7 (by decide) (fun hc => ?_) (fun hc => ?_)
      · have h1 := it_t h1 hc
        have he := lp_r h1 hz1
        exact KN1 x1 s2 he _ _ hP hD hS ls (lv_sub hl [0, 1, 2, 3, 4, 5] rfl)
      · have h1 := it_f h1 hc
        refine lv_aload_n hx hb dX4_give_10 rfl (lv_at hl 1 rfl) ?_
        refine lv_iload_n hx hb dX4_give_11 rfl (lv_at hl 2 rfl) ?_
        refine lv_iload hx hb dX4_give_12 (lv_at hl 0 rfl) ?_
        refine lv_iload_n hx hb dX4_give_14 rfl (lv_at hl 3 rfl) ?_
        obtain ⟨s4, hf2, h1⟩ := bnd_some h1
        refine x_VV (As := [.int a1, .int x1, .int a2]) (rest := []) hC (kX4_layLock l dC dI cA h ad a1 x1 a2 s2 s4 hf2) (cwV 3 hts gX4_give_X4_layLock rfl rfl rfl (by decide +kernel) ⟨Nat.le_of_ble_eq_true rfl, Nat.le_of_ble_eq_true rfl⟩) 0 4 hV hN hK hP hD hS hA rfl rfl rfl rfl hl.1 rfl (Nat.le_of_ble_eq_true rfl) ⟨Nat.zero_le _, Nat.zero_le _⟩ dX4_give_15 (fun H locs hP hD hS => ?_)
        obtain ⟨v5, ev5, h1⟩ := nm_some h1
        refine lv_iinc (v := v5) (lv' := [(5, .int v5), (0, .ref h), (1, .int a1), (2, .int a2), (3, .int a3), (4, .int a4)]) hx hb dX4_give_18 hl (k := 0) rfl (by rw [ev5]; rfl) (by decide) rfl (fun ls hl => ?_)
        refine lv_goto (tgt := 3) hx hb dX4_give_21 (by decide) ?_
        have hc := lp_l h1 hz1
        exact ih1 v5 s4 hc _ _ hP hD hS ls (lv_sub hl [0, 1, 2, 3, 4, 5] rfl)
  exact LP1 FU a3 σ hl1 _ _ hP hD hS ls hl
def bX4_leaveRow_18  (x3 : Int32) (s4 : St) : Option ((Int32 × St) ⊕ (Int32 × St)) := ax (1 : Int32) 2488 (if (s4 0 ((1 : Int32) : Int32).toNatClampNeg) ≤ x3 then (some (.inr (x3, s4))) else (ax (((8 : Int32) + x3) + (1 : Int32)) 2488 (ax ((8 : Int32) + x3) 2488 (nm (put s4 0 (upd (s4 0) ((8 : Int32) + x3 : Int32).toNatClampNeg (s4 0 (((8 : Int32) + x3) + (1 : Int32) : Int32).toNatClampNeg))) fun s5 => nm (x3 + (1 : Int32)) fun v6 => some (.inl (v6, s5))))))
def fX4_leaveRow (a1 : Int32) (σ : St) : Option St := bnd (fX4_placeInRow a1 σ) fun r1 => ax (1 : Int32) 2488 (ax (1 : Int32) 2488 (nm (put σ 0 (upd (σ 0) ((1 : Int32) : Int32).toNatClampNeg ((σ 0 ((1 : Int32) : Int32).toNatClampNeg) - (1 : Int32)))) fun s2 => bnd (lp (fun t : (Int32 × St) => bX4_leaveRow_18  t.1 t.2) FU (r1, s2)) (fun e : (Int32 × St) => nm e.1 fun x7 => nm e.2 fun s8 => bnd (fX4_lay a1 (0 : Int32) (0 : Int32) s8) fun s10 => some s10)))
abbrev rmX4_leaveRow : Room := { frames := 1, cells := 0, slots := 0, locals := 23 }
set_option maxHeartbeats 4000000 in
set_option maxRecDepth 100000 in
theorem kX4_leaveRow (l : Launch) (dC : Nat → ClassId) (dI : Nat → Nat → Nat) (cA : Nat → ClassId) (h : Nat) (ad : Nat → Nat) (a1 : Int32) (σ : St) (σ' : St) (h0 : fX4_leaveRow a1 σ = some σ') : CV l yX4_leaveRow wsX4_leaveRow rmX4_leaveRow (dC, dI) vwCl (tysW cA) [.ref h, .int a1] (wM cA h ad σ) (wM cA h ad σ') := by
  refine CGV_of (cc := cX4_leaveRow) (nL := 4) (ret := none) (by decide) rfl (Nat.le_of_ble_eq_true rfl) ?_
  intro p e s m av below meth c A ls H locs hC hl
  obtain ⟨hC, hr, hlocks, hV, hN, hK, hP, hD, hS, hA⟩ := hC
  have hC : CallFix p m c cX4_leaveRow 4 s _ wsX4_leaveRow RX4 := hC
  obtain ⟨hx, hb, hml, hown, hts⟩ := id hC
  have hin0 : ∀ w ∈ u_ws RX4 TX4 16, w ∈ wsX4_leaveRow := fun _ h => (List.mem_cons_of_mem _ (List.mem_append_right _ h))
  have hl : lv_has ls 4 [(0, .ref h), (1, .int a1)] := hl
  unfold fX4_leaveRow at h0
  refine lv_aload_n hx hb dX4_leaveRow_0 rfl (lv_at hl 0 rfl) ?_
  refine lv_iload_n hx hb dX4_leaveRow_1 rfl (lv_at hl 1 rfl) ?_
  obtain ⟨r1, hf1, h0⟩ := bnd_some h0
  refine x_VI (As := [.int a1]) (rest := []) hC (kX4_placeInRow l dC dI cA h ad a1 σ r1  hf1) (cwV 1 hts gX4_leaveRow_X4_placeInRow rfl rfl rfl (by decide +kernel) ⟨Nat.le_of_ble_eq_true rfl, Nat.le_of_ble_eq_true rfl⟩) 0 4 hV hN hK hP hD hS hA rfl rfl rfl rfl hl.1 rfl (Nat.le_of_ble_eq_true rfl) ⟨Nat.zero_le _, Nat.zero_le _⟩ dX4_leaveRow_2 (fun H locs hP hD hS => ?_)
  refine lv_istore_n (lv' := [(2, .int r1), (0, .ref h), (1, .int a1)]) hx hb dX4_leaveRow_5 rfl hl (by decide) rfl (fun ls hl => ?_)
  refine lv_aload_n hx hb dX4_leaveRow_6 rfl (lv_at hl 1 rfl) ?_
  refine va_get (D := (dC, dI)) (ci := 4) (v := .ref (ad 0)) (C := RX4) (T := TX4) (N := 16) hx hb hts hin0 hown hK hP 0 rfl rfl 0 (by decide) (hts (.fieldLink RX4 7 "MeanLocksModel" "at" "[I") (List.mem_of_getElem? (i := 1) rfl)) (fun _ h9 => h9) rfl dX4_leaveRow_7 ?_
  refine lv_iconst (v := (1 : Int32)) hx hb dX4_leaveRow_10 (by decide) ?_
  refine lv_dup2_11 hx hb dX4_leaveRow_11 rfl rfl ?_
  obtain ⟨hi, h0⟩ := ax_some h0
  refine va_iald hx hb hK hP 1 0 rfl rfl hi dX4_leaveRow_12 ?_
  refine lv_iconst (v := (1 : Int32)) hx hb dX4_leaveRow_13 (by decide) ?_
  refine lv_isub hx hb dX4_leaveRow_14 ?_
  obtain ⟨hi, h0⟩ := ax_some h0
  obtain ⟨s2, es2, h0⟩ := nm_some h0
  refine x_iast (ws' := wM cA h ad s2) hC hK hP hD hS 1 0 rfl rfl (by rw [es2]; exact wM_s0 _ _ _ _ _) hi dX4_leaveRow_15 (fun H locs hP hD hS => ?_)
  refine lv_iload_n hx hb dX4_leaveRow_16 rfl (lv_at hl 0 rfl) ?_
  refine lv_istore_n (lv' := [(3, .int r1), (2, .int r1), (0, .ref h), (1, .int a1)]) hx hb dX4_leaveRow_17 rfl hl (by decide) rfl (fun ls hl => ?_)
  obtain ⟨ε2, hl2, h0⟩ := bnd_some h0
  have KN2 : ∀ (x7 : Int32) (s8 : St), ε2 = (x7, s8) → ∀ (H : Heap) (locs : List Loc), va_P (dC, dI) vwCl (wM cA h ad s8) H → va_D A (wM cA h ad s8) → va_S A s.heap H locs → ∀ (ls : Array Slot), lv_has ls 4 [(3, .int x7), (2, .int r1), (0, .ref h), (1, .int a1)] → W p l e (headSpec wsX4_leaveRow rmX4_leaveRow).room s m av below meth c H locs 0 0 (MQ below (qV (dC, dI) A (wM cA h ad σ')) av s 0 0 A) (F0 m 54 ls []) := by
    intro x7 s8 hε H locs hP hD hS ls hl
    rw [hε] at h0
    have h0 := nm_at (z := x7) rfl h0
    have h0 := nm_at (z := s8) rfl h0
    refine lv_aload_n hx hb dX4_leaveRow_54 rfl (lv_at hl 2 rfl) ?_
    refine lv_iload_n hx hb dX4_leaveRow_55 rfl (lv_at hl 3 rfl) ?_
    refine lv_iconst (v := (0 : Int32)) hx hb dX4_leaveRow_56 (by decide) ?_
    refine lv_iconst (v := (0 : Int32)) hx hb dX4_leaveRow_57 (by decide) ?_
    obtain ⟨s10, hf3, h0⟩ := bnd_some h0
    refine x_VV (As := [.int a1, .int (0 : Int32), .int (0 : Int32)]) (rest := []) hC (kX4_lay l dC dI cA h ad a1 (0 : Int32) (0 : Int32) s8 s10 hf3) (cwV 3 hts gX4_leaveRow_X4_lay rfl rfl rfl (by decide +kernel) ⟨Nat.le_of_ble_eq_true rfl, Nat.le_of_ble_eq_true rfl⟩) 0 4 hV hN hK hP hD hS hA rfl rfl rfl rfl hl.1 rfl (Nat.le_of_ble_eq_true rfl) ⟨Nat.zero_le _, Nat.zero_le _⟩ dX4_leaveRow_58 (fun H locs hP hD hS => ?_)
    have e1 := Option.some.inj h0
    exact x_retV hC hr hlocks hP hD hS dX4_leaveRow_61 (by rw [← e1])
  have LP2 : ∀ (n : Nat) (x3 : Int32) (s4 : St), lp (fun t : (Int32 × St) => bX4_leaveRow_18  t.1 t.2) n (x3, s4) = some ε2 → ∀ (H : Heap) (locs : List Loc), va_P (dC, dI) vwCl (wM cA h ad s4) H → va_D A (wM cA h ad s4) → va_S A s.heap H locs → ∀ (ls : Array Slot), lv_has ls 4 [(3, .int x3), (2, .int r1), (0, .ref h), (1, .int a1)] → W p l e (headSpec wsX4_leaveRow rmX4_leaveRow).room s m av below meth c H locs 0 0 (MQ below (qV (dC, dI) A (wM cA h ad σ')) av s 0 0 A) (F0 m 18 ls []) := by
    intro n
    induction n with
    | zero => intro x3 s4 hl0; exact (lp_0 hl0).elim
    | succ n ih2 =>
      intro x3 s4 hl0 H locs hP hD hS ls hl
      obtain ⟨z2, h1, hz2⟩ := lp_s hl0
      have h1 : bX4_leaveRow_18  x3 s4 = some z2 := h1
      unfold bX4_leaveRow_18 at h1
      refine lv_iload_n hx hb dX4_leaveRow_18 rfl (lv_at hl 0 rfl) ?_
      refine lv_aload_n hx hb dX4_leaveRow_19 rfl (lv_at hl 2 rfl) ?_
      refine va_get (D := (dC, dI)) (ci := 4) (v := .ref (ad 0)) (C := RX4) (T := TX4) (N := 16) hx hb hts hin0 hown hK hP 0 rfl rfl 0 (by decide) (hts (.fieldLink RX4 7 "MeanLocksModel" "at" "[I") (List.mem_of_getElem? (i := 1) rfl)) (fun _ h9 => h9) rfl dX4_leaveRow_20 ?_
      refine lv_iconst (v := (1 : Int32)) hx hb dX4_leaveRow_23 (by decide) ?_
      obtain ⟨hi, h1⟩ := ax_some h1
      refine va_iald hx hb hK hP 1 0 rfl rfl hi dX4_leaveRow_24 ?_
      refine lv_icmp_ge (tgt := 54) hx hb dX4_leaveRow_25 (by decide) (fun hc => ?_) (fun hc => ?_)
      · have h1 := it_t h1 hc
        have he := lp_r h1 hz2
        exact KN2 x3 s4 he _ _ hP hD hS ls (lv_sub hl [0, 1, 2, 3] rfl)
      · have h1 := it_f h1 hc
        refine lv_aload_n hx hb dX4_leaveRow_28 rfl (lv_at hl 2 rfl) ?_
        refine va_get (D := (dC, dI)) (ci := 4) (v := .ref (ad 0)) (C := RX4) (T := TX4) (N := 16) hx hb hts hin0 hown hK hP 0 rfl rfl 0 (by decide) (hts (.fieldLink RX4 7 "MeanLocksModel" "at" "[I") (List.mem_of_getElem? (i := 1) rfl)) (fun _ h9 => h9) rfl dX4_leaveRow_29 ?_
        refine lv_bipush (v := (8 : Int32)) hx hb dX4_leaveRow_32 (by decide) ?_
        refine lv_iload_n hx hb dX4_leaveRow_34 rfl (lv_at hl 0 rfl) ?_
        refine lv_iadd hx hb dX4_leaveRow_35 ?_
        refine lv_aload_n hx hb dX4_leaveRow_36 rfl (lv_at hl 2 rfl) ?_
        refine va_get (D := (dC, dI)) (ci := 4) (v := .ref (ad 0)) (C := RX4) (T := TX4) (N := 16) hx hb hts hin0 hown hK hP 0 rfl rfl 0 (by decide) (hts (.fieldLink RX4 7 "MeanLocksModel" "at" "[I") (List.mem_of_getElem? (i := 1) rfl)) (fun _ h9 => h9) rfl dX4_leaveRow_37 ?_
        refine lv_bipush (v := (8 : Int32)) hx hb dX4_leaveRow_40 (by decide) ?_
        refine lv_iload_n hx hb dX4_leaveRow_42 rfl (lv_at hl 0 rfl) ?_
        refine lv_iadd hx hb dX4_leaveRow_43 ?_
        refine lv_iconst (v := (1 : Int32)) hx hb dX4_leaveRow_44 (by decide) ?_
        refine lv_iadd hx hb dX4_leaveRow_45 ?_
        obtain ⟨hi, h1⟩ := ax_some h1
        refine va_iald hx hb hK hP 1 0 rfl rfl hi dX4_leaveRow_46 ?_
        obtain ⟨hi, h1⟩ := ax_some h1
        obtain ⟨s5, es5, h1⟩ := nm_some h1
        refine x_iast (ws' := wM cA h ad s5) hC hK hP hD hS 1 0 rfl rfl (by rw [es5]; exact wM_s0 _ _ _ _ _) hi dX4_leaveRow_47 (fun H locs hP hD hS => ?_)
        obtain ⟨v6, ev6, h1⟩ := nm_some h1
        refine lv_iinc (v := v6) (lv' := [(3, .int v6), (2, .int r1), (0, .ref h), (1, .int a1)]) hx hb dX4_leaveRow_48 hl (k := 0) rfl (by rw [ev6]; rfl) (by decide) rfl (fun ls hl => ?_)
        refine lv_goto (tgt := 18) hx hb dX4_leaveRow_51 (by decide) ?_
        have hc := lp_l h1 hz2
        exact ih2 v6 s5 hc _ _ hP hD hS ls (lv_sub hl [0, 1, 2, 3] rfl)
  exact LP2 FU r1 s2 hl2 _ _ hP hD hS ls hl
def bX4_goThrough_5  (x2 : Int32) (s3 : St) : Option ((Int32 × St) ⊕ (Int32 × St)) := if (x2 : Int32) < (0 : Int32) then (some (.inr (x2, s3))) else (bnd (fX4_of x2 (3 : Int32) s3) fun r4 => bnd (fX4_of x2 (7 : Int32) s3) fun r5 => if (r4 : Int32) ≤ r5 then (bnd (fX4_of x2 (7 : Int32) s3) fun r6 => bnd (fX4_lay x2 (7 : Int32) r6 s3) fun s8 => bnd (fX4_of x2 (0 : Int32) s8) fun r9 => bnd (fX4_of x2 (1 : Int32) s8) fun r10 => bnd (fX4_of x2 (2 : Int32) s8) fun r11 => bnd (fX4_give x2 r9 r10 r11 s8) fun s13 => bnd (fX4_leaveRow x2 s13) fun s15 => bnd (fX4_firstGivable  s15) fun r16 => some (.inl (r16, s15))) else (bnd (fX4_lay x2 (7 : Int32) r4 s3) fun s18 => bnd (fX4_of x2 (0 : Int32) s18) fun r19 => bnd (fX4_of x2 (1 : Int32) s18) fun r20 => bnd (fX4_of x2 (2 : Int32) s18) fun r21 => bnd (fX4_give x2 r19 r20 r21 s18) fun s23 => bnd (fX4_leaveRow x2 s23) fun s25 => bnd (fX4_firstGivable  s25) fun r26 => some (.inl (r26, s25))))
def fX4_goThrough (σ : St) : Option St := bnd (fX4_firstGivable  σ) fun r1 => bnd (lp (fun t : (Int32 × St) => bX4_goThrough_5  t.1 t.2) FU (r1, σ)) (fun e : (Int32 × St) => nm e.1 fun x27 => nm e.2 fun s28 => some s28)
abbrev rmX4_goThrough : Room := { frames := 6, cells := 0, slots := 0, locals := 145 }
set_option maxHeartbeats 4000000 in
set_option maxRecDepth 100000 in
theorem kX4_goThrough (l : Launch) (dC : Nat → ClassId) (dI : Nat → Nat → Nat) (cA : Nat → ClassId) (h : Nat) (ad : Nat → Nat) (σ : St) (σ' : St) (h0 : fX4_goThrough σ = some σ') : CV l yX4_goThrough wsX4_goThrough rmX4_goThrough (dC, dI) vwCl (tysW cA) [.ref h] (wM cA h ad σ) (wM cA h ad σ') := by
  refine CGV_of (cc := cX4_goThrough) (nL := 3) (ret := none) (by decide) rfl (Nat.le_of_ble_eq_true rfl) ?_
  intro p e s m av below meth c A ls H locs hC hl
  obtain ⟨hC, hr, hlocks, hV, hN, hK, hP, hD, hS, hA⟩ := hC
  have hC : CallFix p m c cX4_goThrough 3 s _ wsX4_goThrough RX4 := hC
  obtain ⟨hx, hb, hml, hown, hts⟩ := id hC
  have hin0 : ∀ w ∈ u_ws RX4 TX4 16, w ∈ wsX4_goThrough := fun _ h => (List.mem_cons_of_mem _ (List.mem_append_right _ h))
  have hl : lv_has ls 3 [(0, .ref h)] := hl
  unfold fX4_goThrough at h0
  refine lv_aload_n hx hb dX4_goThrough_0 rfl (lv_at hl 0 rfl) ?_
  obtain ⟨r1, hf1, h0⟩ := bnd_some h0
  refine x_VI (As := []) (rest := []) hC (kX4_firstGivable l dC dI cA h ad σ r1  hf1) (cwV 0 hts gX4_goThrough_X4_firstGivable rfl rfl rfl (by decide +kernel) ⟨Nat.le_of_ble_eq_true rfl, Nat.le_of_ble_eq_true rfl⟩) 0 4 hV hN hK hP hD hS hA rfl rfl rfl rfl hl.1 rfl (Nat.le_of_ble_eq_true rfl) ⟨Nat.zero_le _, Nat.zero_le _⟩ dX4_goThrough_1 (fun H locs hP hD hS => ?_)
  refine lv_istore_n (lv' := [(1, .int r1), (0, .ref h)]) hx hb dX4_goThrough_4 rfl hl (by decide) rfl (fun ls hl => ?_)
  obtain ⟨ε2, hl2, h0⟩ := bnd_some h0
  have KN2 : ∀ (x27 : Int32) (s28 : St), ε2 = (x27, s28) → ∀ (H : Heap) (locs : List Loc), va_P (dC, dI) vwCl (wM cA h ad s28) H → va_D A (wM cA h ad s28) → va_S A s.heap H locs → ∀ (ls : Array Slot), lv_has ls 3 [(1, .int x27), (0, .ref h)] → W p l e (headSpec wsX4_goThrough rmX4_goThrough).room s m av below meth c H locs 0 0 (MQ below (qV (dC, dI) A (wM cA h ad σ')) av s 0 0 A) (F0 m 81 ls []) := by
    intro x27 s28 hε H locs hP hD hS ls hl
    rw [hε] at h0
    have h0 := nm_at (z := x27) rfl h0
    have h0 := nm_at (z := s28) rfl h0
    have e1 := Option.some.inj h0
    exact x_retV hC hr hlocks hP hD hS dX4_goThrough_81 (by rw [← e1])
  have LP2 : ∀ (n : Nat) (x2 : Int32) (s3 : St), lp (fun t : (Int32 × St) => bX4_goThrough_5  t.1 t.2) n (x2, s3) = some ε2 → ∀ (H : Heap) (locs : List Loc), va_P (dC, dI) vwCl (wM cA h ad s3) H → va_D A (wM cA h ad s3) → va_S A s.heap H locs → ∀ (ls : Array Slot), lv_has ls 3 [(1, .int x2), (0, .ref h)] → W p l e (headSpec wsX4_goThrough rmX4_goThrough).room s m av below meth c H locs 0 0 (MQ below (qV (dC, dI) A (wM cA h ad σ')) av s 0 0 A) (F0 m 5 ls []) := by
    intro n
    induction n with
    | zero => intro x2 s3 hl0; exact (lp_0 hl0).elim
    | succ n ih2 =>
      intro x2 s3 hl0 H locs hP hD hS ls hl
      obtain ⟨z2, h1, hz2⟩ := lp_s hl0
      have h1 : bX4_goThrough_5  x2 s3 = some z2 := h1
      unfold bX4_goThrough_5 at h1
      refine lv_iload_n hx hb dX4_goThrough_5 rfl (lv_at hl 0 rfl) ?_
      refine lv_if_lt (tgt := 81) hx hb dX4_goThrough_6 (by decide) (fun hc => ?_) (fun hc => ?_)
      · have h1 := it_t h1 hc
        have he := lp_r h1 hz2
        exact KN2 x2 s3 he _ _ hP hD hS ls (lv_sub hl [0, 1] rfl)
      · have h1 := it_f h1 hc
        refine lv_aload_n hx hb dX4_goThrough_9 rfl (lv_at hl 1 rfl) ?_
        refine lv_iload_n hx hb dX4_goThrough_10 rfl (lv_at hl 0 rfl) ?_
        refine lv_iconst (v := (3 : Int32)) hx hb dX4_goThrough_11 (by decide) ?_
        obtain ⟨r4, hf3, h1⟩ := bnd_some h1
        refine x_VI (As := [.int x2, .int (3 : Int32)]) (rest := []) hC (kX4_of l dC dI cA h ad x2 (3 : Int32) s3 r4  hf3) (cwV 2 hts gX4_goThrough_X4_of rfl rfl rfl (by decide +kernel) ⟨Nat.le_of_ble_eq_true rfl, Nat.le_of_ble_eq_true rfl⟩) 0 4 hV hN hK hP hD hS hA rfl rfl rfl rfl hl.1 rfl (Nat.le_of_ble_eq_true rfl) ⟨Nat.zero_le _, Nat.zero_le _⟩ dX4_goThrough_12 (fun H locs hP hD hS => ?_)
        refine lv_istore_n (lv' := [(2, .int r4), (1, .int x2), (0, .ref h)]) hx hb dX4_goThrough_15 rfl hl (by decide) rfl (fun ls hl => ?_)
        refine lv_aload_n hx hb dX4_goThrough_16 rfl (lv_at hl 2 rfl) ?_
        refine lv_iload_n hx hb dX4_goThrough_17 rfl (lv_at hl 1 rfl) ?_
        refine lv_bipush (v := (7 : Int32)) hx hb dX4_goThrough_18 (by decide) ?_
        refine lv_iload_n hx hb dX4_goThrough_20 rfl (lv_at hl 0 rfl) ?_
        refine lv_aload_n hx hb dX4_goThrough_21 rfl (lv_at hl 2 rfl) ?_
        refine lv_iload_n hx hb dX4_goThrough_22 rfl (lv_at hl 1 rfl) ?_
        refine lv_bipush (v := (7 : Int32)) hx hb dX4_goThrough_23 (by decide) ?_
        obtain ⟨r5, hf4, h1⟩ := bnd_some h1
        refine x_VI (As := [.int x2, .int (7 : Int32)]) (rest := [.int r4, .int (7 : Int32), .int x2, .ref h]) hC (kX4_of l dC dI cA h ad x2 (7 : Int32) s3 r5  hf4) (cwV 2 hts gX4_goThrough_X4_of rfl rfl rfl (by decide +kernel) ⟨Nat.le_of_ble_eq_true rfl, Nat.le_of_ble_eq_true rfl⟩) 0 4 hV hN hK hP hD hS hA rfl rfl rfl rfl hl.1 rfl (Nat.le_of_ble_eq_true rfl) ⟨Nat.zero_le _, Nat.zero_le _⟩ dX4_goThrough_25 (fun H locs hP hD hS => ?_)
        refine lv_icmp_le (tgt := 35) hx hb dX4_goThrough_28 (by decide) (fun hc => ?_) (fun hc => ?_)
        · have h1 := it_t h1 hc
          refine lv_aload_n hx hb dX4_goThrough_35 rfl (lv_at hl 2 rfl) ?_
          refine lv_iload_n hx hb dX4_goThrough_36 rfl (lv_at hl 1 rfl) ?_
          refine lv_bipush (v := (7 : Int32)) hx hb dX4_goThrough_37 (by decide) ?_
          obtain ⟨r6, hf5, h1⟩ := bnd_some h1
          refine x_VI (As := [.int x2, .int (7 : Int32)]) (rest := [.int (7 : Int32), .int x2, .ref h]) hC (kX4_of l dC dI cA h ad x2 (7 : Int32) s3 r6  hf5) (cwV 2 hts gX4_goThrough_X4_of rfl rfl rfl (by decide +kernel) ⟨Nat.le_of_ble_eq_true rfl, Nat.le_of_ble_eq_true rfl⟩) 0 4 hV hN hK hP hD hS hA rfl rfl rfl rfl hl.1 rfl (Nat.le_of_ble_eq_true rfl) ⟨Nat.zero_le _, Nat.zero_le _⟩ dX4_goThrough_39 (fun H locs hP hD hS => ?_)
          obtain ⟨s8, hf6, h1⟩ := bnd_some h1
          refine x_VV (As := [.int x2, .int (7 : Int32), .int r6]) (rest := []) hC (kX4_lay l dC dI cA h ad x2 (7 : Int32) r6 s3 s8 hf6) (cwV 3 hts gX4_goThrough_X4_lay rfl rfl rfl (by decide +kernel) ⟨Nat.le_of_ble_eq_true rfl, Nat.le_of_ble_eq_true rfl⟩) 0 4 hV hN hK hP hD hS hA rfl rfl rfl rfl hl.1 rfl (Nat.le_of_ble_eq_true rfl) ⟨Nat.zero_le _, Nat.zero_le _⟩ dX4_goThrough_42 (fun H locs hP hD hS => ?_)
          refine lv_aload_n hx hb dX4_goThrough_45 rfl (lv_at hl 2 rfl) ?_
          refine lv_iload_n hx hb dX4_goThrough_46 rfl (lv_at hl 1 rfl) ?_
          refine lv_aload_n hx hb dX4_goThrough_47 rfl (lv_at hl 2 rfl) ?_
          refine lv_iload_n hx hb dX4_goThrough_48 rfl (lv_at hl 1 rfl) ?_
          refine lv_iconst (v := (0 : Int32)) hx hb dX4_goThrough_49 (by decide) ?_
          obtain ⟨r9, hf7, h1⟩ := bnd_some h1
          refine x_VI (As := [.int x2, .int (0 : Int32)]) (rest := [.int x2, .ref h]) hC (kX4_of l dC dI cA h ad x2 (0 : Int32) s8 r9  hf7) (cwV 2 hts gX4_goThrough_X4_of rfl rfl rfl (by decide +kernel) ⟨Nat.le_of_ble_eq_true rfl, Nat.le_of_ble_eq_true rfl⟩) 0 4 hV hN hK hP hD hS hA rfl rfl rfl rfl hl.1 rfl (Nat.le_of_ble_eq_true rfl) ⟨Nat.zero_le _, Nat.zero_le _⟩ dX4_goThrough_50 (fun H locs hP hD hS => ?_)
          refine lv_aload_n hx hb dX4_goThrough_53 rfl (lv_at hl 2 rfl) ?_
          refine lv_iload_n hx hb dX4_goThrough_54 rfl (lv_at hl 1 rfl) ?_
          refine lv_iconst (v := (1 : Int32)) hx hb dX4_goThrough_55 (by decide) ?_
          obtain ⟨r10, hf8, h1⟩ := bnd_some h1
          refine x_VI (As := [.int x2, .int (1 : Int32)]) (rest := [.int r9, .int x2, .ref h]) hC (kX4_of l dC dI cA h ad x2 (1 : Int32) s8 r10  hf8) (cwV 2 hts gX4_goThrough_X4_of rfl rfl rfl (by decide +kernel) ⟨Nat.le_of_ble_eq_true rfl, Nat.le_of_ble_eq_true rfl⟩) 0 4 hV hN hK hP hD hS hA rfl rfl rfl rfl hl.1 rfl (Nat.le_of_ble_eq_true rfl) ⟨Nat.zero_le _, Nat.zero_le _⟩ dX4_goThrough_56 (fun H locs hP hD hS => ?_)
          refine lv_aload_n hx hb dX4_goThrough_59 rfl (lv_at hl 2 rfl) ?_
          refine lv_iload_n hx hb dX4_goThrough_60 rfl (lv_at hl 1 rfl) ?_
          refine lv_iconst (v := (2 : Int32)) hx hb dX4_goThrough_61 (by decide) ?_
          obtain ⟨r11, hf9, h1⟩ := bnd_some h1
          refine x_VI (As := [.int x2, .int (2 : Int32)]) (rest := [.int r10, .int r9, .int x2, .ref h]) hC (kX4_of l dC dI cA h ad x2 (2 : Int32) s8 r11  hf9) (cwV 2 hts gX4_goThrough_X4_of rfl rfl rfl (by decide +kernel) ⟨Nat.le_of_ble_eq_true rfl, Nat.le_of_ble_eq_true rfl⟩) 0 4 hV hN hK hP hD hS hA rfl rfl rfl rfl hl.1 rfl (Nat.le_of_ble_eq_true rfl) ⟨Nat.zero_le _, Nat.zero_le _⟩ dX4_goThrough_62 (fun H locs hP hD hS => ?_)
          obtain ⟨s13, hf10, h1⟩ := bnd_some h1
          refine x_VV (As := [.int x2, .int r9, .int r10, .int r11]) (rest := []) hC (kX4_give l dC dI cA h ad x2 r9 r10 r11 s8 s13 hf10) (cwV 4 hts gX4_goThrough_X4_give rfl rfl rfl (by decide +kernel) ⟨Nat.le_of_ble_eq_true rfl, Nat.le_of_ble_eq_true rfl⟩) 0 4 hV hN hK hP hD hS hA rfl rfl rfl rfl hl.1 rfl (Nat.le_of_ble_eq_true rfl) ⟨Nat.zero_le _, Nat.zero_le _⟩ dX4_goThrough_65 (fun H locs hP hD hS => ?_)
          refine lv_aload_n hx hb dX4_goThrough_68 rfl (lv_at hl 2 rfl) ?_
          refine lv_iload_n hx hb dX4_goThrough_69 rfl (lv_at hl 1 rfl) ?_
          obtain ⟨s15, hf11, h1⟩ := bnd_some h1
          refine x_VV (As := [.int x2]) (rest := []) hC (kX4_leaveRow l dC dI cA h ad x2 s13 s15 hf11) (cwV 1 hts gX4_goThrough_X4_leaveRow rfl rfl rfl (by decide +kernel) ⟨Nat.le_of_ble_eq_true rfl, Nat.le_of_ble_eq_true rfl⟩) 0 4 hV hN hK hP hD hS hA rfl rfl rfl rfl hl.1 rfl (Nat.le_of_ble_eq_true rfl) ⟨Nat.zero_le _, Nat.zero_le _⟩ dX4_goThrough_70 (fun H locs hP hD hS => ?_)
          refine lv_aload_n hx hb dX4_goThrough_73 rfl (lv_at hl 2 rfl) ?_
          obtain ⟨r16, hf12, h1⟩ := bnd_some h1
          refine x_VI (As := []) (rest := []) hC (kX4_firstGivable l dC dI cA h ad s15 r16  hf12) (cwV 0 hts gX4_goThrough_X4_firstGivable rfl rfl rfl (by decide +kernel) ⟨Nat.le_of_ble_eq_true rfl, Nat.le_of_ble_eq_true rfl⟩) 0 4 hV hN hK hP hD hS hA rfl rfl rfl rfl hl.1 rfl (Nat.le_of_ble_eq_true rfl) ⟨Nat.zero_le _, Nat.zero_le _⟩ dX4_goThrough_74 (fun H locs hP hD hS => ?_)
          refine lv_istore_n (lv' := [(1, .int r16), (2, .int r4), (0, .ref h)]) hx hb dX4_goThrough_77 rfl hl (by decide) rfl (fun ls hl => ?_)
          refine lv_goto (tgt := 5) hx hb dX4_goThrough_78 (by decide) ?_
          have hc := lp_l h1 hz2
          exact ih2 r16 s15 hc _ _ hP hD hS ls (lv_sub hl [0, 2] rfl)
        · have h1 := it_f h1 hc
          refine lv_iload_n hx hb dX4_goThrough_31 rfl (lv_at hl 0 rfl) ?_
          refine lv_goto (tgt := 42) hx hb dX4_goThrough_32 (by decide) ?_
          obtain ⟨s18, hf13, h1⟩ := bnd_some h1
          refine x_VV (As := [.int x2, .int (7 : Int32), .int r4]) (rest := []) hC (kX4_lay l dC dI cA h ad x2 (7 : Int32) r4 s3 s18 hf13) (cwV 3 hts gX4_goThrough_X4_lay rfl rfl rfl (by decide +kernel) ⟨Nat.le_of_ble_eq_true rfl, Nat.le_of_ble_eq_true rfl⟩) 0 4 hV hN hK hP hD hS hA rfl rfl rfl rfl hl.1 rfl (Nat.le_of_ble_eq_true rfl) ⟨Nat.zero_le _, Nat.zero_le _⟩ dX4_goThrough_42 (fun H locs hP hD hS => ?_)
          refine lv_aload_n hx hb dX4_goThrough_45 rfl (lv_at hl 2 rfl) ?_
          refine lv_iload_n hx hb dX4_goThrough_46 rfl (lv_at hl 1 rfl) ?_
          refine lv_aload_n hx hb dX4_goThrough_47 rfl (lv_at hl 2 rfl) ?_
          refine lv_iload_n hx hb dX4_goThrough_48 rfl (lv_at hl 1 rfl) ?_
          refine lv_iconst (v := (0 : Int32)) hx hb dX4_goThrough_49 (by decide) ?_
          obtain ⟨r19, hf14, h1⟩ := bnd_some h1
          refine x_VI (As := [.int x2, .int (0 : Int32)]) (rest := [.int x2, .ref h]) hC (kX4_of l dC dI cA h ad x2 (0 : Int32) s18 r19  hf14) (cwV 2 hts gX4_goThrough_X4_of rfl rfl rfl (by decide +kernel) ⟨Nat.le_of_ble_eq_true rfl, Nat.le_of_ble_eq_true rfl⟩) 0 4 hV hN hK hP hD hS hA rfl rfl rfl rfl hl.1 rfl (Nat.le_of_ble_eq_true rfl) ⟨Nat.zero_le _, Nat.zero_le _⟩ dX4_goThrough_50 (fun H locs hP hD hS => ?_)
          refine lv_aload_n hx hb dX4_goThrough_53 rfl (lv_at hl 2 rfl) ?_
          refine lv_iload_n hx hb dX4_goThrough_54 rfl (lv_at hl 1 rfl) ?_
          refine lv_iconst (v := (1 : Int32)) hx hb dX4_goThrough_55 (by decide) ?_
          obtain ⟨r20, hf15, h1⟩ := bnd_some h1
          refine x_VI (As := [.int x2, .int (1 : Int32)]) (rest := [.int r19, .int x2, .ref h]) hC (kX4_of l dC dI cA h ad x2 (1 : Int32) s18 r20  hf15) (cwV 2 hts gX4_goThrough_X4_of rfl rfl rfl (by decide +kernel) ⟨Nat.le_of_ble_eq_true rfl, Nat.le_of_ble_eq_true rfl⟩) 0 4 hV hN hK hP hD hS hA rfl rfl rfl rfl hl.1 rfl (Nat.le_of_ble_eq_true rfl) ⟨Nat.zero_le _, Nat.zero_le _⟩ dX4_goThrough_56 (fun H locs hP hD hS => ?_)
          refine lv_aload_n hx hb dX4_goThrough_59 rfl (lv_at hl 2 rfl) ?_
          refine lv_iload_n hx hb dX4_goThrough_60 rfl (lv_at hl 1 rfl) ?_
          refine lv_iconst (v := (2 : Int32)) hx hb dX4_goThrough_61 (by decide) ?_
          obtain ⟨r21, hf16, h1⟩ := bnd_some h1
          refine x_VI (As := [.int x2, .int (2 : Int32)]) (rest := [.int r20, .int r19, .int x2, .ref h]) hC (kX4_of l dC dI cA h ad x2 (2 : Int32) s18 r21  hf16) (cwV 2 hts gX4_goThrough_X4_of rfl rfl rfl (by decide +kernel) ⟨Nat.le_of_ble_eq_true rfl, Nat.le_of_ble_eq_true rfl⟩) 0 4 hV hN hK hP hD hS hA rfl rfl rfl rfl hl.1 rfl (Nat.le_of_ble_eq_true rfl) ⟨Nat.zero_le _, Nat.zero_le _⟩ dX4_goThrough_62 (fun H locs hP hD hS => ?_)
          obtain ⟨s23, hf17, h1⟩ := bnd_some h1
          refine x_VV (As := [.int x2, .int r19, .int r20, .int r21]) (rest := []) hC (kX4_give l dC dI cA h ad x2 r19 r20 r21 s18 s23 hf17) (cwV 4 hts gX4_goThrough_X4_give rfl rfl rfl (by decide +kernel) ⟨Nat.le_of_ble_eq_true rfl, Nat.le_of_ble_eq_true rfl⟩) 0 4 hV hN hK hP hD hS hA rfl rfl rfl rfl hl.1 rfl (Nat.le_of_ble_eq_true rfl) ⟨Nat.zero_le _, Nat.zero_le _⟩ dX4_goThrough_65 (fun H locs hP hD hS => ?_)
          refine lv_aload_n hx hb dX4_goThrough_68 rfl (lv_at hl 2 rfl) ?_
          refine lv_iload_n hx hb dX4_goThrough_69 rfl (lv_at hl 1 rfl) ?_
          obtain ⟨s25, hf18, h1⟩ := bnd_some h1
          refine x_VV (As := [.int x2]) (rest := []) hC (kX4_leaveRow l dC dI cA h ad x2 s23 s25 hf18) (cwV 1 hts gX4_goThrough_X4_leaveRow rfl rfl rfl (by decide +kernel) ⟨Nat.le_of_ble_eq_true rfl, Nat.le_of_ble_eq_true rfl⟩) 0 4 hV hN hK hP hD hS hA rfl rfl rfl rfl hl.1 rfl (Nat.le_of_ble_eq_true rfl) ⟨Nat.zero_le _, Nat.zero_le _⟩ dX4_goThrough_70 (fun H locs hP hD hS => ?_)
          refine lv_aload_n hx hb dX4_goThrough_73 rfl (lv_at hl 2 rfl) ?_
          obtain ⟨r26, hf19, h1⟩ := bnd_some h1
          refine x_VI (As := []) (rest := []) hC (kX4_firstGivable l dC dI cA h ad s25 r26  hf19) (cwV 0 hts gX4_goThrough_X4_firstGivable rfl rfl rfl (by decide +kernel) ⟨Nat.le_of_ble_eq_true rfl, Nat.le_of_ble_eq_true rfl⟩) 0 4 hV hN hK hP hD hS hA rfl rfl rfl rfl hl.1 rfl (Nat.le_of_ble_eq_true rfl) ⟨Nat.zero_le _, Nat.zero_le _⟩ dX4_goThrough_74 (fun H locs hP hD hS => ?_)
          refine lv_istore_n (lv' := [(1, .int r26), (2, .int r4), (0, .ref h)]) hx hb dX4_goThrough_77 rfl hl (by decide) rfl (fun ls hl => ?_)
          refine lv_goto (tgt := 5) hx hb dX4_goThrough_78 (by decide) ?_
          have hc := lp_l h1 hz2
          exact ih2 r26 s25 hc _ _ hP hD hS ls (lv_sub hl [0, 2] rfl)
  exact LP2 FU r1 σ hl2 _ _ hP hD hS ls hl
def bX4_breakRing_8 (a1 : Int32) (σ : St) (x3 : Int32) (x2 : Int32) (x1 : Int32) : Option ((Int32 × Int32 × Int32) ⊕ (Int32 × Int32 × Int32)) := if (8 : Int32) ≤ x1 then (some (.inr (x3, x2, x1))) else (bnd (fX4_has a1 x1) fun r4 => if (r4 : Int32) = (0 : Int32) then (nm (x1 + (1 : Int32)) fun v5 => some (.inl (x3, x2, v5))) else (bnd (fX4_placesOf x1 a1 σ) fun r6 => if (r6 : Int32) ≤ (0 : Int32) then (nm (x1 + (1 : Int32)) fun v7 => some (.inl (x3, x2, v7))) else (if (x3 : Int32) < (0 : Int32) then (nm (x1 + (1 : Int32)) fun v8 => some (.inl (x1, r6, v8))) else (if x2 < r6 then (nm (x1 + (1 : Int32)) fun v9 => some (.inl (x3, x2, v9))) else (nm (x1 + (1 : Int32)) fun v10 => some (.inl (x1, r6, v10)))))))
def bX4_breakRing_67 (a1 : Int32) (x11 : Int32) (x14 : Int32) (s15 : St) : Option ((Int32 × St) ⊕ (Int32 × St)) := if (300 : Int32) ≤ x14 then (some (.inr (x14, s15))) else (bnd (fX4_givesUp x11 x14 a1 s15) fun r16 => if (r16 : Int32) = (0 : Int32) then (nm (x14 + (1 : Int32)) fun v17 => some (.inl (v17, s15))) else (bnd (fX4_layLock x11 x14 (0 : Int32) s15) fun s19 => nm (x14 + (1 : Int32)) fun v20 => some (.inl (v20, s19))))
def fX4_breakRing (a1 : Int32) (σ : St) : Option St := bnd (lp (fun t : (Int32 × Int32 × Int32) => bX4_breakRing_8 a1 σ t.1 t.2.1 t.2.2) FU ((-6 : Int32), (0 : Int32), (0 : Int32))) (fun e : (Int32 × Int32 × Int32) => nm e.1 fun x11 => nm e.2.1 fun x12 => nm e.2.2 fun x13 => bnd (lp (fun t : (Int32 × St) => bX4_breakRing_67 a1 x11 t.1 t.2) FU ((0 : Int32), σ)) (fun e : (Int32 × St) => nm e.1 fun x21 => nm e.2 fun s22 => bnd (fX4_more x11 (6 : Int32) x12 s22) fun s24 => ax (6 : Int32) 2488 (ax (6 : Int32) 2488 (nm (put s24 0 (upd (s24 0) ((6 : Int32) : Int32).toNatClampNeg ((s24 0 ((6 : Int32) : Int32).toNatClampNeg) + (1 : Int32)))) fun s25 => bnd (fX4_goThrough  s25) fun s27 => some s27))))
abbrev rmX4_breakRing : Room := { frames := 7, cells := 0, slots := 0, locals := 167 }
set_option maxHeartbeats 4000000 in
set_option maxRecDepth 100000 in
theorem kX4_breakRing (l : Launch) (dC : Nat → ClassId) (dI : Nat → Nat → Nat) (cA : Nat → ClassId) (h : Nat) (ad : Nat → Nat) (a1 : Int32) (σ : St) (σ' : St) (h0 : fX4_breakRing a1 σ = some σ') : CV l yX4_breakRing wsX4_breakRing rmX4_breakRing (dC, dI) vwCl (tysW cA) [.ref h, .int a1] (wM cA h ad σ) (wM cA h ad σ') := by
  refine CGV_of (cc := cX4_breakRing) (nL := 6) (ret := none) (by decide) rfl (Nat.le_of_ble_eq_true rfl) ?_
  intro p e s m av below meth c A ls H locs hC hl
  obtain ⟨hC, hr, hlocks, hV, hN, hK, hP, hD, hS, hA⟩ := hC
  have hC : CallFix p m c cX4_breakRing 6 s _ wsX4_breakRing RX4 := hC
  obtain ⟨hx, hb, hml, hown, hts⟩ := id hC
  have hin0 : ∀ w ∈ u_ws RX4 TX4 16, w ∈ wsX4_breakRing := fun _ h => (List.mem_cons_of_mem _ (List.mem_append_right _ h))
  have hl : lv_has ls 6 [(0, .ref h), (1, .int a1)] := hl
  unfold fX4_breakRing at h0
  refine lv_bipush (v := (-6 : Int32)) hx hb dX4_breakRing_0 (by decide) ?_
  refine lv_istore_n (lv' := [(2, .int (-6 : Int32)), (0, .ref h), (1, .int a1)]) hx hb dX4_breakRing_2 rfl hl (by decide) rfl (fun ls hl => ?_)
  refine lv_iconst (v := (0 : Int32)) hx hb dX4_breakRing_3 (by decide) ?_
  refine lv_istore_n (lv' := [(3, .int (0 : Int32)), (2, .int (-6 : Int32)), (0, .ref h), (1, .int a1)]) hx hb dX4_breakRing_4 rfl hl (by decide) rfl (fun ls hl => ?_)
  refine lv_iconst (v := (0 : Int32)) hx hb dX4_breakRing_5 (by decide) ?_
  refine lv_istore (lv' := [(4, .int (0 : Int32)), (3, .int (0 : Int32)), (2, .int (-6 : Int32)), (0, .ref h), (1, .int a1)]) hx hb dX4_breakRing_6 hl (by decide) rfl (fun ls hl => ?_)
  obtain ⟨ε1, hl1, h0⟩ := bnd_some h0
  have KN1 : ∀ (x11 : Int32) (x12 : Int32) (x13 : Int32), ε1 = (x11, x12, x13) → ∀ (H : Heap) (locs : List Loc), va_P (dC, dI) vwCl (wM cA h ad σ) H → va_D A (wM cA h ad σ) → va_S A s.heap H locs → ∀ (ls : Array Slot), lv_has ls 6 [(4, .int x13), (3, .int x12), (2, .int x11), (0, .ref h), (1, .int a1)] → W p l e (headSpec wsX4_breakRing rmX4_breakRing).room s m av below meth c H locs 0 0 (MQ below (qV (dC, dI) A (wM cA h ad σ')) av s 0 0 A) (F0 m 64 ls []) := by
    intro x11 x12 x13 hε H locs hP hD hS ls hl
    rw [hε] at h0
    have h0 := nm_at (z := x11) rfl h0
    have h0 := nm_at (z := x12) rfl h0
    have h0 := nm_at (z := x13) rfl h0
    refine lv_iconst (v := (0 : Int32)) hx hb dX4_breakRing_64 (by decide) ?_
    refine lv_istore (lv' := [(4, .int (0 : Int32)), (3, .int x12), (2, .int x11), (0, .ref h), (1, .int a1)]) hx hb dX4_breakRing_65 hl (by decide) rfl (fun ls hl => ?_)
    obtain ⟨ε4, hl4, h0⟩ := bnd_some h0
    have KN4 : ∀ (x21 : Int32) (s22 : St), ε4 = (x21, s22) → ∀ (H : Heap) (locs : List Loc), va_P (dC, dI) vwCl (wM cA h ad s22) H → va_D A (wM cA h ad s22) → va_S A s.heap H locs → ∀ (ls : Array Slot), lv_has ls 6 [(4, .int x21), (3, .int x12), (2, .int x11), (0, .ref h), (1, .int a1)] → W p l e (headSpec wsX4_breakRing rmX4_breakRing).room s m av below meth c H locs 0 0 (MQ below (qV (dC, dI) A (wM cA h ad σ')) av s 0 0 A) (F0 m 100 ls []) := by
      intro x21 s22 hε H locs hP hD hS ls hl
      rw [hε] at h0
      have h0 := nm_at (z := x21) rfl h0
      have h0 := nm_at (z := s22) rfl h0
      refine lv_aload_n hx hb dX4_breakRing_100 rfl (lv_at hl 3 rfl) ?_
      refine lv_iload_n hx hb dX4_breakRing_101 rfl (lv_at hl 2 rfl) ?_
      refine lv_bipush (v := (6 : Int32)) hx hb dX4_breakRing_102 (by decide) ?_
      refine lv_iload_n hx hb dX4_breakRing_104 rfl (lv_at hl 1 rfl) ?_
      obtain ⟨s24, hf7, h0⟩ := bnd_some h0
      refine x_VV (As := [.int x11, .int (6 : Int32), .int x12]) (rest := []) hC (kX4_more l dC dI cA h ad x11 (6 : Int32) x12 s22 s24 hf7) (cwV 3 hts gX4_breakRing_X4_more rfl rfl rfl (by decide +kernel) ⟨Nat.le_of_ble_eq_true rfl, Nat.le_of_ble_eq_true rfl⟩) 0 4 hV hN hK hP hD hS hA rfl rfl rfl rfl hl.1 rfl (Nat.le_of_ble_eq_true rfl) ⟨Nat.zero_le _, Nat.zero_le _⟩ dX4_breakRing_105 (fun H locs hP hD hS => ?_)
      refine lv_aload_n hx hb dX4_breakRing_108 rfl (lv_at hl 3 rfl) ?_
      refine va_get (D := (dC, dI)) (ci := 4) (v := .ref (ad 0)) (C := RX4) (T := TX4) (N := 16) hx hb hts hin0 hown hK hP 0 rfl rfl 0 (by decide) (hts (.fieldLink RX4 7 "MeanLocksModel" "at" "[I") (List.mem_of_getElem? (i := 1) rfl)) (fun _ h9 => h9) rfl dX4_breakRing_109 ?_
      refine lv_bipush (v := (6 : Int32)) hx hb dX4_breakRing_112 (by decide) ?_
      refine lv_dup2_11 hx hb dX4_breakRing_114 rfl rfl ?_
      obtain ⟨hi, h0⟩ := ax_some h0
      refine va_iald hx hb hK hP 1 0 rfl rfl hi dX4_breakRing_115 ?_
      refine lv_iconst (v := (1 : Int32)) hx hb dX4_breakRing_116 (by decide) ?_
      refine lv_iadd hx hb dX4_breakRing_117 ?_
      obtain ⟨hi, h0⟩ := ax_some h0
      obtain ⟨s25, es25, h0⟩ := nm_some h0
      refine x_iast (ws' := wM cA h ad s25) hC hK hP hD hS 1 0 rfl rfl (by rw [es25]; exact wM_s0 _ _ _ _ _) hi dX4_breakRing_118 (fun H locs hP hD hS => ?_)
      refine lv_aload_n hx hb dX4_breakRing_119 rfl (lv_at hl 3 rfl) ?_
      obtain ⟨s27, hf8, h0⟩ := bnd_some h0
      refine x_VV (As := []) (rest := []) hC (kX4_goThrough l dC dI cA h ad s25 s27 hf8) (cwV 0 hts gX4_breakRing_X4_goThrough rfl rfl rfl (by decide +kernel) ⟨Nat.le_of_ble_eq_true rfl, Nat.le_of_ble_eq_true rfl⟩) 0 4 hV hN hK hP hD hS hA rfl rfl rfl rfl hl.1 rfl (Nat.le_of_ble_eq_true rfl) ⟨Nat.zero_le _, Nat.zero_le _⟩ dX4_breakRing_120 (fun H locs hP hD hS => ?_)
      have e1 := Option.some.inj h0
      exact x_retV hC hr hlocks hP hD hS dX4_breakRing_123 (by rw [← e1])
    have LP4 : ∀ (n : Nat) (x14 : Int32) (s15 : St), lp (fun t : (Int32 × St) => bX4_breakRing_67 a1 x11 t.1 t.2) n (x14, s15) = some ε4 → ∀ (H : Heap) (locs : List Loc), va_P (dC, dI) vwCl (wM cA h ad s15) H → va_D A (wM cA h ad s15) → va_S A s.heap H locs → ∀ (ls : Array Slot), lv_has ls 6 [(4, .int x14), (3, .int x12), (2, .int x11), (0, .ref h), (1, .int a1)] → W p l e (headSpec wsX4_breakRing rmX4_breakRing).room s m av below meth c H locs 0 0 (MQ below (qV (dC, dI) A (wM cA h ad σ')) av s 0 0 A) (F0 m 67 ls []) := by
      intro n
      induction n with
      | zero => intro x14 s15 hl0; exact (lp_0 hl0).elim
      | succ n ih4 =>
        intro x14 s15 hl0 H locs hP hD hS ls hl
        obtain ⟨z4, h1, hz4⟩ := lp_s hl0
        have h1 : bX4_breakRing_67 a1 x11 x14 s15 = some z4 := h1
        unfold bX4_breakRing_67 at h1
        refine lv_iload hx hb dX4_breakRing_67 (lv_at hl 0 rfl) ?_
        refine lv_sipush (v := (300 : Int32)) hx hb dX4_breakRing_69 (by decide) ?_
        refine lv_icmp_ge (tgt := 100) hx hb dX4_breakRing_72 (by decide) (fun hc => ?_) (fun hc => ?_)
        · have h1 := it_t h1 hc
          have he := lp_r h1 hz4
          exact KN4 x14 s15 he _ _ hP hD hS ls (lv_sub hl [0, 1, 2, 3, 4] rfl)
        · have h1 := it_f h1 hc
          refine lv_aload_n hx hb dX4_breakRing_75 rfl (lv_at hl 3 rfl) ?_
          refine lv_iload_n hx hb dX4_breakRing_76 rfl (lv_at hl 2 rfl) ?_
          refine lv_iload hx hb dX4_breakRing_77 (lv_at hl 0 rfl) ?_
          refine lv_iload_n hx hb dX4_breakRing_79 rfl (lv_at hl 4 rfl) ?_
          obtain ⟨r16, hf5, h1⟩ := bnd_some h1
          refine x_VI (As := [.int x11, .int x14, .int a1]) (rest := []) hC (kX4_givesUp l dC dI cA h ad x11 x14 a1 s15 r16  hf5) (cwV 3 hts gX4_breakRing_X4_givesUp rfl rfl rfl (by decide +kernel) ⟨Nat.le_of_ble_eq_true rfl, Nat.le_of_ble_eq_true rfl⟩) 0 4 hV hN hK hP hD hS hA rfl rfl rfl rfl hl.1 rfl (Nat.le_of_ble_eq_true rfl) ⟨Nat.zero_le _, Nat.zero_le _⟩ dX4_breakRing_80 (fun H locs hP hD hS => ?_)
          refine lv_if_eq (tgt := 94) hx hb dX4_breakRing_83 (by decide) (fun hc => ?_) (fun hc => ?_)
          · have h1 := it_t h1 hc
            obtain ⟨v17, ev17, h1⟩ := nm_some h1
            refine lv_iinc (v := v17) (lv' := [(4, .int v17), (3, .int x12), (2, .int x11), (0, .ref h), (1, .int a1)]) hx hb dX4_breakRing_94 hl (k := 0) rfl (by rw [ev17]; rfl) (by decide) rfl (fun ls hl => ?_)
            refine lv_goto (tgt := 67) hx hb dX4_breakRing_97 (by decide) ?_
            have hc := lp_l h1 hz4
            exact ih4 v17 s15 hc _ _ hP hD hS ls (lv_sub hl [0, 1, 2, 3, 4] rfl)
          · have h1 := it_f h1 hc
            refine lv_aload_n hx hb dX4_breakRing_86 rfl (lv_at hl 3 rfl) ?_
            refine lv_iload_n hx hb dX4_breakRing_87 rfl (lv_at hl 2 rfl) ?_
            refine lv_iload hx hb dX4_breakRing_88 (lv_at hl 0 rfl) ?_
            refine lv_iconst (v := (0 : Int32)) hx hb dX4_breakRing_90 (by decide) ?_
            obtain ⟨s19, hf6, h1⟩ := bnd_some h1
            refine x_VV (As := [.int x11, .int x14, .int (0 : Int32)]) (rest := []) hC (kX4_layLock l dC dI cA h ad x11 x14 (0 : Int32) s15 s19 hf6) (cwV 3 hts gX4_breakRing_X4_layLock rfl rfl rfl (by decide +kernel) ⟨Nat.le_of_ble_eq_true rfl, Nat.le_of_ble_eq_true rfl⟩) 0 4 hV hN hK hP hD hS hA rfl rfl rfl rfl hl.1 rfl (Nat.le_of_ble_eq_true rfl) ⟨Nat.zero_le _, Nat.zero_le _⟩ dX4_breakRing_91 (fun H locs hP hD hS => ?_)
            obtain ⟨v20, ev20, h1⟩ := nm_some h1
            refine lv_iinc (v := v20) (lv' := [(4, .int v20), (3, .int x12), (2, .int x11), (0, .ref h), (1, .int a1)]) hx hb dX4_breakRing_94 hl (k := 0) rfl (by rw [ev20]; rfl) (by decide) rfl (fun ls hl => ?_)
            refine lv_goto (tgt := 67) hx hb dX4_breakRing_97 (by decide) ?_
            have hc := lp_l h1 hz4
            exact ih4 v20 s19 hc _ _ hP hD hS ls (lv_sub hl [0, 1, 2, 3, 4] rfl)
    exact LP4 FU (0 : Int32) σ hl4 _ _ hP hD hS ls hl
  have LP1 : ∀ (n : Nat) (x3 : Int32) (x2 : Int32) (x1 : Int32), lp (fun t : (Int32 × Int32 × Int32) => bX4_breakRing_8 a1 σ t.1 t.2.1 t.2.2) n (x3, x2, x1) = some ε1 → ∀ (H : Heap) (locs : List Loc), va_P (dC, dI) vwCl (wM cA h ad σ) H → va_D A (wM cA h ad σ) → va_S A s.heap H locs → ∀ (ls : Array Slot), lv_has ls 6 [(4, .int x1), (3, .int x2), (2, .int x3), (0, .ref h), (1, .int a1)] → W p l e (headSpec wsX4_breakRing rmX4_breakRing).room s m av below meth c H locs 0 0 (MQ below (qV (dC, dI) A (wM cA h ad σ')) av s 0 0 A) (F0 m 8 ls []) := by
    intro n
    induction n with
    | zero => intro x3 x2 x1 hl0; exact (lp_0 hl0).elim
    | succ n ih1 =>
      intro x3 x2 x1 hl0 H locs hP hD hS ls hl
      obtain ⟨z1, h1, hz1⟩ := lp_s hl0
      have h1 : bX4_breakRing_8 a1 σ x3 x2 x1 = some z1 := h1
      unfold bX4_breakRing_8 at h1
      refine lv_iload hx hb dX4_breakRing_8 (lv_at hl 0 rfl) ?_
      refine lv_bipush (v := (8 : Int32)) hx hb dX4_breakRing_10 (by decide) ?_
      refine lv_icmp_ge (tgt := 64) hx hb dX4_breakRing_12 (by decide) (fun hc => ?_) (fun hc => ?_)
      · have h1 := it_t h1 hc
        have he := lp_r h1 hz1
        exact KN1 x3 x2 x1 he _ _ hP hD hS ls (lv_sub hl [0, 1, 2, 3, 4] rfl)
      · have h1 := it_f h1 hc
        refine lv_iload_n hx hb dX4_breakRing_15 rfl (lv_at hl 4 rfl) ?_
        refine lv_iload hx hb dX4_breakRing_16 (lv_at hl 0 rfl) ?_
        obtain ⟨r4, hf2, h1⟩ := bnd_some h1
        refine x_SI (As := [.int a1, .int x1]) (rest := []) hC (kX4_has l dC dI cA a1 x1 r4 hf2) (cwS 2 hts gX4_breakRing_X4_has rfl rfl rfl (by decide +kernel) ⟨Nat.le_of_ble_eq_true rfl, Nat.le_of_ble_eq_true rfl⟩) hV hN hK hP hD hS hA rfl hl.1 rfl (Nat.le_of_ble_eq_true rfl) ⟨Nat.zero_le _, Nat.zero_le _⟩ dX4_breakRing_18 (fun H locs hP hD hS => ?_)
        refine lv_if_eq (tgt := 34) hx hb dX4_breakRing_21 (by decide) (fun hc => ?_) (fun hc => ?_)
        · have h1 := it_t h1 hc
          refine lv_iconst (v := (0 : Int32)) hx hb dX4_breakRing_34 (by decide) ?_
          refine lv_istore (lv' := [(5, .int (0 : Int32)), (4, .int x1), (3, .int x2), (2, .int x3), (0, .ref h), (1, .int a1)]) hx hb dX4_breakRing_35 hl (by decide) rfl (fun ls hl => ?_)
          refine lv_iload hx hb dX4_breakRing_37 (lv_at hl 0 rfl) ?_
          refine lv_if_le (tgt := 58) hx hb dX4_breakRing_39 (by decide) (fun hc => ?_) (fun hc => absurd hc (by decide))
          obtain ⟨v5, ev5, h1⟩ := nm_some h1
          refine lv_iinc (v := v5) (lv' := [(4, .int v5), (5, .int (0 : Int32)), (3, .int x2), (2, .int x3), (0, .ref h), (1, .int a1)]) hx hb dX4_breakRing_58 hl (k := 1) rfl (by rw [ev5]; rfl) (by decide) rfl (fun ls hl => ?_)
          refine lv_goto (tgt := 8) hx hb dX4_breakRing_61 (by decide) ?_
          have hc := lp_l h1 hz1
          exact ih1 x3 x2 v5 hc _ _ hP hD hS ls (lv_sub hl [0, 2, 3, 4, 5] rfl)
        · have h1 := it_f h1 hc
          refine lv_aload_n hx hb dX4_breakRing_24 rfl (lv_at hl 3 rfl) ?_
          refine lv_iload hx hb dX4_breakRing_25 (lv_at hl 0 rfl) ?_
          refine lv_iload_n hx hb dX4_breakRing_27 rfl (lv_at hl 4 rfl) ?_
          obtain ⟨r6, hf3, h1⟩ := bnd_some h1
          refine x_VI (As := [.int x1, .int a1]) (rest := []) hC (kX4_placesOf l dC dI cA h ad x1 a1 σ r6  hf3) (cwV 2 hts gX4_breakRing_X4_placesOf rfl rfl rfl (by decide +kernel) ⟨Nat.le_of_ble_eq_true rfl, Nat.le_of_ble_eq_true rfl⟩) 0 4 hV hN hK hP hD hS hA rfl rfl rfl rfl hl.1 rfl (Nat.le_of_ble_eq_true rfl) ⟨Nat.zero_le _, Nat.zero_le _⟩ dX4_breakRing_28 (fun H locs hP hD hS => ?_)
          refine lv_goto (tgt := 35) hx hb dX4_breakRing_31 (by decide) ?_
          refine lv_istore (lv' := [(5, .int r6), (4, .int x1), (3, .int x2), (2, .int x3), (0, .ref h), (1, .int a1)]) hx hb dX4_breakRing_35 hl (by decide) rfl (fun ls hl => ?_)
          refine lv_iload hx hb dX4_breakRing_37 (lv_at hl 0 rfl) ?_
          refine lv_if_le (tgt := 58) hx hb dX4_breakRing_39 (by decide) (fun hc => ?_) (fun hc => ?_)
          · have h1 := it_t h1 hc
            obtain ⟨v7, ev7, h1⟩ := nm_some h1
            refine lv_iinc (v := v7) (lv' := [(4, .int v7), (5, .int r6), (3, .int x2), (2, .int x3), (0, .ref h), (1, .int a1)]) hx hb dX4_breakRing_58 hl (k := 1) rfl (by rw [ev7]; rfl) (by decide) rfl (fun ls hl => ?_)
            refine lv_goto (tgt := 8) hx hb dX4_breakRing_61 (by decide) ?_
            have hc := lp_l h1 hz1
            exact ih1 x3 x2 v7 hc _ _ hP hD hS ls (lv_sub hl [0, 2, 3, 4, 5] rfl)
          · have h1 := it_f h1 hc
            refine lv_iload_n hx hb dX4_breakRing_42 rfl (lv_at hl 3 rfl) ?_
            refine lv_if_lt (tgt := 52) hx hb dX4_breakRing_43 (by decide) (fun hc => ?_) (fun hc => ?_)
            · have h1 := it_t h1 hc
              refine lv_iload hx hb dX4_breakRing_52 (lv_at hl 1 rfl) ?_
              refine lv_istore_n (lv' := [(2, .int x1), (5, .int r6), (4, .int x1), (3, .int x2), (0, .ref h), (1, .int a1)]) hx hb dX4_breakRing_54 rfl hl (by decide) rfl (fun ls hl => ?_)
              refine lv_iload hx hb dX4_breakRing_55 (lv_at hl 1 rfl) ?_
              refine lv_istore_n (lv' := [(3, .int r6), (2, .int x1), (5, .int r6), (4, .int x1), (0, .ref h), (1, .int a1)]) hx hb dX4_breakRing_57 rfl hl (by decide) rfl (fun ls hl => ?_)
              obtain ⟨v8, ev8, h1⟩ := nm_some h1
              refine lv_iinc (v := v8) (lv' := [(4, .int v8), (3, .int r6), (2, .int x1), (5, .int r6), (0, .ref h), (1, .int a1)]) hx hb dX4_breakRing_58 hl (k := 3) rfl (by rw [ev8]; rfl) (by decide) rfl (fun ls hl => ?_)
              refine lv_goto (tgt := 8) hx hb dX4_breakRing_61 (by decide) ?_
              have hc := lp_l h1 hz1
              exact ih1 x1 r6 v8 hc _ _ hP hD hS ls (lv_sub hl [0, 1, 2, 4, 5] rfl)
            · have h1 := it_f h1 hc
              refine lv_iload hx hb dX4_breakRing_46 (lv_at hl 0 rfl) ?_
              refine lv_iload_n hx hb dX4_breakRing_48 rfl (lv_at hl 2 rfl) ?_
              refine lv_icmp_gt (tgt := 58) hx hb dX4_breakRing_49 (by decide) (fun hc => ?_) (fun hc => ?_)
              · have h1 := it_t h1 hc
                obtain ⟨v9, ev9, h1⟩ := nm_some h1
                refine lv_iinc (v := v9) (lv' := [(4, .int v9), (5, .int r6), (3, .int x2), (2, .int x3), (0, .ref h), (1, .int a1)]) hx hb dX4_breakRing_58 hl (k := 1) rfl (by rw [ev9]; rfl) (by decide) rfl (fun ls hl => ?_)
                refine lv_goto (tgt := 8) hx hb dX4_breakRing_61 (by decide) ?_
                have hc := lp_l h1 hz1
                exact ih1 x3 x2 v9 hc _ _ hP hD hS ls (lv_sub hl [0, 2, 3, 4, 5] rfl)
              · have h1 := it_f h1 hc
                refine lv_iload hx hb dX4_breakRing_52 (lv_at hl 1 rfl) ?_
                refine lv_istore_n (lv' := [(2, .int x1), (5, .int r6), (4, .int x1), (3, .int x2), (0, .ref h), (1, .int a1)]) hx hb dX4_breakRing_54 rfl hl (by decide) rfl (fun ls hl => ?_)
                refine lv_iload hx hb dX4_breakRing_55 (lv_at hl 1 rfl) ?_
                refine lv_istore_n (lv' := [(3, .int r6), (2, .int x1), (5, .int r6), (4, .int x1), (0, .ref h), (1, .int a1)]) hx hb dX4_breakRing_57 rfl hl (by decide) rfl (fun ls hl => ?_)
                obtain ⟨v10, ev10, h1⟩ := nm_some h1
                refine lv_iinc (v := v10) (lv' := [(4, .int v10), (3, .int r6), (2, .int x1), (5, .int r6), (0, .ref h), (1, .int a1)]) hx hb dX4_breakRing_58 hl (k := 3) rfl (by rw [ev10]; rfl) (by decide) rfl (fun ls hl => ?_)
                refine lv_goto (tgt := 8) hx hb dX4_breakRing_61 (by decide) ?_
                have hc := lp_l h1 hz1
                exact ih1 x1 r6 v10 hc _ _ hP hD hS ls (lv_sub hl [0, 1, 2, 4, 5] rfl)
  exact LP1 FU (-6 : Int32) (0 : Int32) (0 : Int32) hl1 _ _ hP hD hS ls hl
def bX4_keep_47 (v1 : Int32) (x2 : Int32) (s3 : St) : Option ((Int32 × St) ⊕ (Int32 × St)) := if (2488 : Int32) ≤ x2 then (some (.inr (x2, s3))) else (ax x2 2488 (ax (((2488 : Int32) * v1) + x2) 14928 (nm (put s3 1 (upd (s3 1) (((2488 : Int32) * v1) + x2 : Int32).toNatClampNeg (s3 0 (x2 : Int32).toNatClampNeg))) fun s4 => nm (x2 + (1 : Int32)) fun v5 => some (.inl (v5, s4)))))
def bX4_keep_47_2 (v11 : Int32) (x12 : Int32) (s13 : St) : Option ((Int32 × St) ⊕ (Int32 × St)) := if (2488 : Int32) ≤ x12 then (some (.inr (x12, s13))) else (ax x12 2488 (ax (((2488 : Int32) * v11) + x12) 14928 (nm (put s13 1 (upd (s13 1) (((2488 : Int32) * v11) + x12 : Int32).toNatClampNeg (s13 0 (x12 : Int32).toNatClampNeg))) fun s14 => nm (x12 + (1 : Int32)) fun v15 => some (.inl (v15, s14)))))
def fX4_keep (σ : St) : Option St := if ((σ 3 0) : Int32) = (6 : Int32) then (nm (put σ 2 (fun _ => ((σ 2 0) + (1 : Int32)) - ((σ 2 0) + (1 : Int32)) / (6 : Int32) * (6 : Int32))) fun s9 => nm (put s9 3 (fun _ => (s9 3 0) - (1 : Int32))) fun s10 => nm (((s10 2 0) + (s10 3 0)) - ((s10 2 0) + (s10 3 0)) / (6 : Int32) * (6 : Int32)) fun v11 => bnd (lp (fun t : (Int32 × St) => bX4_keep_47_2 v11 t.1 t.2) FU ((0 : Int32), s10)) (fun e : (Int32 × St) => nm e.1 fun x16 => nm e.2 fun s17 => nm (put s17 3 (fun _ => (s17 3 0) + (1 : Int32))) fun s18 => some s18)) else (nm (((σ 2 0) + (σ 3 0)) - ((σ 2 0) + (σ 3 0)) / (6 : Int32) * (6 : Int32)) fun v1 => bnd (lp (fun t : (Int32 × St) => bX4_keep_47 v1 t.1 t.2) FU ((0 : Int32), σ)) (fun e : (Int32 × St) => nm e.1 fun x6 => nm e.2 fun s7 => nm (put s7 3 (fun _ => (s7 3 0) + (1 : Int32))) fun s8 => some s8))
abbrev rmX4_keep : Room := { frames := 0, cells := 0, slots := 0, locals := 0 }
set_option maxHeartbeats 4000000 in
set_option maxRecDepth 100000 in
theorem kX4_keep (l : Launch) (dC : Nat → ClassId) (dI : Nat → Nat → Nat) (cA : Nat → ClassId) (h : Nat) (ad : Nat → Nat) (σ : St) (σ' : St) (h0 : fX4_keep σ = some σ') : CV l yX4_keep wsX4_keep rmX4_keep (dC, dI) vwCl (tysW cA) [.ref h] (wM cA h ad σ) (wM cA h ad σ') := by
  refine CGV_of (cc := cX4_keep) (nL := 3) (ret := none) (by decide) rfl (Nat.le_of_ble_eq_true rfl) ?_
  intro p e s m av below meth c A ls H locs hC hl
  obtain ⟨hC, hr, hlocks, hV, hN, hK, hP, hD, hS, hA⟩ := hC
  have hC : CallFix p m c cX4_keep 3 s _ wsX4_keep RX4 := hC
  obtain ⟨hx, hb, hml, hown, hts⟩ := id hC
  have hin0 : ∀ w ∈ u_ws RX4 TX4 16, w ∈ wsX4_keep := fun _ h => (List.mem_cons_of_mem _ (List.mem_append_right _ h))
  have hl : lv_has ls 3 [(0, .ref h)] := hl
  unfold fX4_keep at h0
  refine lv_aload_n hx hb dX4_keep_0 rfl (lv_at hl 0 rfl) ?_
  refine va_get (D := (dC, dI)) (ci := 4) (v := .int (σ 3 0)) (C := RX4) (T := TX4) (N := 16) hx hb hts hin0 hown hK hP 0 rfl rfl 3 (by decide) (hts (.fieldLink RX4 45 "MeanLocksModel" "pastMany" "I") (List.mem_of_getElem? (i := 1) rfl)) (fun _ h9 => h9) rfl dX4_keep_1 ?_
  refine lv_bipush (v := (6 : Int32)) hx hb dX4_keep_4 (by decide) ?_
  refine lv_icmp_ne (tgt := 32) hx hb dX4_keep_6 (by decide) (fun hc => ?_) (fun hc => ?_)
  · have h0 := it_f h0 hc
    refine lv_aload_n hx hb dX4_keep_32 rfl (lv_at hl 0 rfl) ?_
    refine va_get (D := (dC, dI)) (ci := 4) (v := .int (σ 2 0)) (C := RX4) (T := TX4) (N := 16) hx hb hts hin0 hown hK hP 0 rfl rfl 2 (by decide) (hts (.fieldLink RX4 49 "MeanLocksModel" "pastFirst" "I") (List.mem_of_getElem? (i := 2) rfl)) (fun _ h9 => h9) rfl dX4_keep_33 ?_
    refine lv_aload_n hx hb dX4_keep_36 rfl (lv_at hl 0 rfl) ?_
    refine va_get (D := (dC, dI)) (ci := 4) (v := .int (σ 3 0)) (C := RX4) (T := TX4) (N := 16) hx hb hts hin0 hown hK hP 0 rfl rfl 3 (by decide) (hts (.fieldLink RX4 45 "MeanLocksModel" "pastMany" "I") (List.mem_of_getElem? (i := 1) rfl)) (fun _ h9 => h9) rfl dX4_keep_37 ?_
    refine lv_iadd hx hb dX4_keep_40 ?_
    refine lv_bipush (v := (6 : Int32)) hx hb dX4_keep_41 (by decide) ?_
    refine lv_irem hx hb dX4_keep_43 (by decide) ?_
    refine lv_topi (fun v1 ev1 => ?_)
    have h0 := nm_at ev1 h0
    refine lv_istore_n (lv' := [(1, .int v1), (0, .ref h)]) hx hb dX4_keep_44 rfl hl (by decide) rfl (fun ls hl => ?_)
    refine lv_iconst (v := (0 : Int32)) hx hb dX4_keep_45 (by decide) ?_
    refine lv_istore_n (lv' := [(2, .int (0 : Int32)), (1, .int v1), (0, .ref h)]) hx hb dX4_keep_46 rfl hl (by decide) rfl (fun ls hl => ?_)
    obtain ⟨ε1, hl1, h0⟩ := bnd_some h0
    have KN1 : ∀ (x6 : Int32) (s7 : St), ε1 = (x6, s7) → ∀ (H : Heap) (locs : List Loc), va_P (dC, dI) vwCl (wM cA h ad s7) H → va_D A (wM cA h ad s7) → va_S A s.heap H locs → ∀ (ls : Array Slot), lv_has ls 3 [(2, .int x6), (1, .int v1), (0, .ref h)] → W p l e (headSpec wsX4_keep rmX4_keep).room s m av below meth c H locs 0 0 (MQ below (qV (dC, dI) A (wM cA h ad σ')) av s 0 0 A) (F0 m 78 ls []) := by
      intro x6 s7 hε H locs hP hD hS ls hl
      rw [hε] at h0
      have h0 := nm_at (z := x6) rfl h0
      have h0 := nm_at (z := s7) rfl h0
      refine lv_aload_n hx hb dX4_keep_78 rfl (lv_at hl 2 rfl) ?_
      refine lv_dup hx hb dX4_keep_79 rfl ?_
      refine va_get (D := (dC, dI)) (ci := 4) (v := .int (s7 3 0)) (C := RX4) (T := TX4) (N := 16) hx hb hts hin0 hown hK hP 0 rfl rfl 3 (by decide) (hts (.fieldLink RX4 45 "MeanLocksModel" "pastMany" "I") (List.mem_of_getElem? (i := 1) rfl)) (fun _ h9 => h9) rfl dX4_keep_80 ?_
      refine lv_iconst (v := (1 : Int32)) hx hb dX4_keep_83 (by decide) ?_
      refine lv_iadd hx hb dX4_keep_84 ?_
      obtain ⟨s8, es8, h0⟩ := nm_some h0
      refine x_put (D := (dC, dI)) (ws' := wM cA h ad s8) (ci := 4) (fs := [.ref (ad 0), .ref (ad 1), .int (s7 2 0), .int (s7 3 0), .ref (ad 4), .ref (ad 5), .ref (ad 6), .ref (ad 7), .int (s7 8 0), .ref (ad 9), .ref (ad 10), .int (s7 11 0), .int (s7 12 0), .int (s7 13 0), .ref (ad 14), .ref (ad 15)]) (v := .int ((s7 3 0) + (1 : Int32))) (ty := .int) (C := RX4) (T := TX4) (N := 16) hC hin0 tyX4 tyX4_ok nmX4 hK hP hD hS 0 rfl rfl 3 (by decide) (hts (.fieldLink RX4 45 "MeanLocksModel" "pastMany" "I") (List.mem_of_getElem? (i := 1) rfl)) rfl rfl rfl rfl (by decide +kernel) (Nat.le_of_ble_eq_true rfl) (by rw [es8]; exact wM_s3 _ _ _ _ _) dX4_keep_85 (fun H locs hP hD hS => ?_)
      have e1 := Option.some.inj h0
      exact x_retV hC hr hlocks hP hD hS dX4_keep_88 (by rw [← e1])
    have LP1 : ∀ (n : Nat) (x2 : Int32) (s3 : St), lp (fun t : (Int32 × St) => bX4_keep_47 v1 t.1 t.2) n (x2, s3) = some ε1 → ∀ (H : Heap) (locs : List Loc), va_P (dC, dI) vwCl (wM cA h ad s3) H → va_D A (wM cA h ad s3) → va_S A s.heap H locs → ∀ (ls : Array Slot), lv_has ls 3 [(2, .int x2), (1, .int v1), (0, .ref h)] → W p l e (headSpec wsX4_keep rmX4_keep).room s m av below meth c H locs 0 0 (MQ below (qV (dC, dI) A (wM cA h ad σ')) av s 0 0 A) (F0 m 47 ls []) := by
      intro n
      induction n with
      | zero => intro x2 s3 hl0; exact (lp_0 hl0).elim
      | succ n ih1 =>
        intro x2 s3 hl0 H locs hP hD hS ls hl
        obtain ⟨z1, h1, hz1⟩ := lp_s hl0
        have h1 : bX4_keep_47 v1 x2 s3 = some z1 := h1
        unfold bX4_keep_47 at h1
        refine lv_iload_n hx hb dX4_keep_47 rfl (lv_at hl 0 rfl) ?_
        refine lv_sipush (v := (2488 : Int32)) hx hb dX4_keep_48 (by decide) ?_
        refine lv_icmp_ge (tgt := 78) hx hb dX4_keep_51 (by decide) (fun hc => ?_) (fun hc => ?_)
        · have h1 := it_t h1 hc
          have he := lp_r h1 hz1
          exact KN1 x2 s3 he _ _ hP hD hS ls (lv_sub hl [0, 1, 2] rfl)
        · have h1 := it_f h1 hc
          refine lv_aload_n hx hb dX4_keep_54 rfl (lv_at hl 2 rfl) ?_
          refine va_get (D := (dC, dI)) (ci := 4) (v := .ref (ad 1)) (C := RX4) (T := TX4) (N := 16) hx hb hts hin0 hown hK hP 0 rfl rfl 1 (by decide) (hts (.fieldLink RX4 13 "MeanLocksModel" "past" "[I") (List.mem_of_getElem? (i := 3) rfl)) (fun _ h9 => h9) rfl dX4_keep_55 ?_
          refine lv_sipush (v := (2488 : Int32)) hx hb dX4_keep_58 (by decide) ?_
          refine lv_iload_n hx hb dX4_keep_61 rfl (lv_at hl 1 rfl) ?_
          refine lv_imul hx hb dX4_keep_62 ?_
          refine lv_iload_n hx hb dX4_keep_63 rfl (lv_at hl 0 rfl) ?_
          refine lv_iadd hx hb dX4_keep_64 ?_
          refine lv_aload_n hx hb dX4_keep_65 rfl (lv_at hl 2 rfl) ?_
          refine va_get (D := (dC, dI)) (ci := 4) (v := .ref (ad 0)) (C := RX4) (T := TX4) (N := 16) hx hb hts hin0 hown hK hP 0 rfl rfl 0 (by decide) (hts (.fieldLink RX4 7 "MeanLocksModel" "at" "[I") (List.mem_of_getElem? (i := 4) rfl)) (fun _ h9 => h9) rfl dX4_keep_66 ?_
          refine lv_iload_n hx hb dX4_keep_69 rfl (lv_at hl 0 rfl) ?_
          obtain ⟨hi, h1⟩ := ax_some h1
          refine va_iald hx hb hK hP 1 0 rfl rfl hi dX4_keep_70 ?_
          obtain ⟨hi, h1⟩ := ax_some h1
          obtain ⟨s4, es4, h1⟩ := nm_some h1
          refine x_iast (ws' := wM cA h ad s4) hC hK hP hD hS 2 0 rfl rfl (by rw [es4]; exact wM_s1 _ _ _ _ _) hi dX4_keep_71 (fun H locs hP hD hS => ?_)
          obtain ⟨v5, ev5, h1⟩ := nm_some h1
          refine lv_iinc (v := v5) (lv' := [(2, .int v5), (1, .int v1), (0, .ref h)]) hx hb dX4_keep_72 hl (k := 0) rfl (by rw [ev5]; rfl) (by decide) rfl (fun ls hl => ?_)
          refine lv_goto (tgt := 47) hx hb dX4_keep_75 (by decide) ?_
          have hc := lp_l h1 hz1
          exact ih1 v5 s4 hc _ _ hP hD hS ls (lv_sub hl [0, 1, 2] rfl)
    exact LP1 FU (0 : Int32) σ hl1 _ _ hP hD hS ls hl
  · have h0 := it_t h0 hc
    refine lv_aload_n hx hb dX4_keep_9 rfl (lv_at hl 0 rfl) ?_
    refine lv_aload_n hx hb dX4_keep_10 rfl (lv_at hl 0 rfl) ?_
    refine va_get (D := (dC, dI)) (ci := 4) (v := .int (σ 2 0)) (C := RX4) (T := TX4) (N := 16) hx hb hts hin0 hown hK hP 0 rfl rfl 2 (by decide) (hts (.fieldLink RX4 49 "MeanLocksModel" "pastFirst" "I") (List.mem_of_getElem? (i := 2) rfl)) (fun _ h9 => h9) rfl dX4_keep_11 ?_
    refine lv_iconst (v := (1 : Int32)) hx hb dX4_keep_14 (by decide) ?_
    refine lv_iadd hx hb dX4_keep_15 ?_
    refine lv_bipush (v := (6 : Int32)) hx hb dX4_keep_16 (by decide) ?_
    refine lv_irem hx hb dX4_keep_18 (by decide) ?_
    obtain ⟨s9, es9, h0⟩ := nm_some h0
    refine x_put (D := (dC, dI)) (ws' := wM cA h ad s9) (ci := 4) (fs := [.ref (ad 0), .ref (ad 1), .int (σ 2 0), .int (σ 3 0), .ref (ad 4), .ref (ad 5), .ref (ad 6), .ref (ad 7), .int (σ 8 0), .ref (ad 9), .ref (ad 10), .int (σ 11 0), .int (σ 12 0), .int (σ 13 0), .ref (ad 14), .ref (ad 15)]) (v := .int (((σ 2 0) + (1 : Int32)) - ((σ 2 0) + (1 : Int32)) / (6 : Int32) * (6 : Int32))) (ty := .int) (C := RX4) (T := TX4) (N := 16) hC hin0 tyX4 tyX4_ok nmX4 hK hP hD hS 0 rfl rfl 2 (by decide) (hts (.fieldLink RX4 49 "MeanLocksModel" "pastFirst" "I") (List.mem_of_getElem? (i := 2) rfl)) rfl rfl rfl rfl (by decide +kernel) (Nat.le_of_ble_eq_true rfl) (by rw [es9]; exact wM_s2 _ _ _ _ _) dX4_keep_19 (fun H locs hP hD hS => ?_)
    refine lv_aload_n hx hb dX4_keep_22 rfl (lv_at hl 0 rfl) ?_
    refine lv_dup hx hb dX4_keep_23 rfl ?_
    refine va_get (D := (dC, dI)) (ci := 4) (v := .int (s9 3 0)) (C := RX4) (T := TX4) (N := 16) hx hb hts hin0 hown hK hP 0 rfl rfl 3 (by decide) (hts (.fieldLink RX4 45 "MeanLocksModel" "pastMany" "I") (List.mem_of_getElem? (i := 1) rfl)) (fun _ h9 => h9) rfl dX4_keep_24 ?_
    refine lv_iconst (v := (1 : Int32)) hx hb dX4_keep_27 (by decide) ?_
    refine lv_isub hx hb dX4_keep_28 ?_
    obtain ⟨s10, es10, h0⟩ := nm_some h0
    refine x_put (D := (dC, dI)) (ws' := wM cA h ad s10) (ci := 4) (fs := [.ref (ad 0), .ref (ad 1), .int (s9 2 0), .int (s9 3 0), .ref (ad 4), .ref (ad 5), .ref (ad 6), .ref (ad 7), .int (s9 8 0), .ref (ad 9), .ref (ad 10), .int (s9 11 0), .int (s9 12 0), .int (s9 13 0), .ref (ad 14), .ref (ad 15)]) (v := .int ((s9 3 0) - (1 : Int32))) (ty := .int) (C := RX4) (T := TX4) (N := 16) hC hin0 tyX4 tyX4_ok nmX4 hK hP hD hS 0 rfl rfl 3 (by decide) (hts (.fieldLink RX4 45 "MeanLocksModel" "pastMany" "I") (List.mem_of_getElem? (i := 1) rfl)) rfl rfl rfl rfl (by decide +kernel) (Nat.le_of_ble_eq_true rfl) (by rw [es10]; exact wM_s3 _ _ _ _ _) dX4_keep_29 (fun H locs hP hD hS => ?_)
    refine lv_aload_n hx hb dX4_keep_32 rfl (lv_at hl 0 rfl) ?_
    refine va_get (D := (dC, dI)) (ci := 4) (v := .int (s10 2 0)) (C := RX4) (T := TX4) (N := 16) hx hb hts hin0 hown hK hP 0 rfl rfl 2 (by decide) (hts (.fieldLink RX4 49 "MeanLocksModel" "pastFirst" "I") (List.mem_of_getElem? (i := 2) rfl)) (fun _ h9 => h9) rfl dX4_keep_33 ?_
    refine lv_aload_n hx hb dX4_keep_36 rfl (lv_at hl 0 rfl) ?_
    refine va_get (D := (dC, dI)) (ci := 4) (v := .int (s10 3 0)) (C := RX4) (T := TX4) (N := 16) hx hb hts hin0 hown hK hP 0 rfl rfl 3 (by decide) (hts (.fieldLink RX4 45 "MeanLocksModel" "pastMany" "I") (List.mem_of_getElem? (i := 1) rfl)) (fun _ h9 => h9) rfl dX4_keep_37 ?_
    refine lv_iadd hx hb dX4_keep_40 ?_
    refine lv_bipush (v := (6 : Int32)) hx hb dX4_keep_41 (by decide) ?_
    refine lv_irem hx hb dX4_keep_43 (by decide) ?_
    refine lv_topi (fun v11 ev11 => ?_)
    have h0 := nm_at ev11 h0
    refine lv_istore_n (lv' := [(1, .int v11), (0, .ref h)]) hx hb dX4_keep_44 rfl hl (by decide) rfl (fun ls hl => ?_)
    refine lv_iconst (v := (0 : Int32)) hx hb dX4_keep_45 (by decide) ?_
    refine lv_istore_n (lv' := [(2, .int (0 : Int32)), (1, .int v11), (0, .ref h)]) hx hb dX4_keep_46 rfl hl (by decide) rfl (fun ls hl => ?_)
    obtain ⟨ε2, hl2, h0⟩ := bnd_some h0
    have KN2 : ∀ (x16 : Int32) (s17 : St), ε2 = (x16, s17) → ∀ (H : Heap) (locs : List Loc), va_P (dC, dI) vwCl (wM cA h ad s17) H → va_D A (wM cA h ad s17) → va_S A s.heap H locs → ∀ (ls : Array Slot), lv_has ls 3 [(2, .int x16), (1, .int v11), (0, .ref h)] → W p l e (headSpec wsX4_keep rmX4_keep).room s m av below meth c H locs 0 0 (MQ below (qV (dC, dI) A (wM cA h ad σ')) av s 0 0 A) (F0 m 78 ls []) := by
      intro x16 s17 hε H locs hP hD hS ls hl
      rw [hε] at h0
      have h0 := nm_at (z := x16) rfl h0
      have h0 := nm_at (z := s17) rfl h0
      refine lv_aload_n hx hb dX4_keep_78 rfl (lv_at hl 2 rfl) ?_
      refine lv_dup hx hb dX4_keep_79 rfl ?_
      refine va_get (D := (dC, dI)) (ci := 4) (v := .int (s17 3 0)) (C := RX4) (T := TX4) (N := 16) hx hb hts hin0 hown hK hP 0 rfl rfl 3 (by decide) (hts (.fieldLink RX4 45 "MeanLocksModel" "pastMany" "I") (List.mem_of_getElem? (i := 1) rfl)) (fun _ h9 => h9) rfl dX4_keep_80 ?_
      refine lv_iconst (v := (1 : Int32)) hx hb dX4_keep_83 (by decide) ?_
      refine lv_iadd hx hb dX4_keep_84 ?_
      obtain ⟨s18, es18, h0⟩ := nm_some h0
      refine x_put (D := (dC, dI)) (ws' := wM cA h ad s18) (ci := 4) (fs := [.ref (ad 0), .ref (ad 1), .int (s17 2 0), .int (s17 3 0), .ref (ad 4), .ref (ad 5), .ref (ad 6), .ref (ad 7), .int (s17 8 0), .ref (ad 9), .ref (ad 10), .int (s17 11 0), .int (s17 12 0), .int (s17 13 0), .ref (ad 14), .ref (ad 15)]) (v := .int ((s17 3 0) + (1 : Int32))) (ty := .int) (C := RX4) (T := TX4) (N := 16) hC hin0 tyX4 tyX4_ok nmX4 hK hP hD hS 0 rfl rfl 3 (by decide) (hts (.fieldLink RX4 45 "MeanLocksModel" "pastMany" "I") (List.mem_of_getElem? (i := 1) rfl)) rfl rfl rfl rfl (by decide +kernel) (Nat.le_of_ble_eq_true rfl) (by rw [es18]; exact wM_s3 _ _ _ _ _) dX4_keep_85 (fun H locs hP hD hS => ?_)
      have e1 := Option.some.inj h0
      exact x_retV hC hr hlocks hP hD hS dX4_keep_88 (by rw [← e1])
    have LP2 : ∀ (n : Nat) (x12 : Int32) (s13 : St), lp (fun t : (Int32 × St) => bX4_keep_47_2 v11 t.1 t.2) n (x12, s13) = some ε2 → ∀ (H : Heap) (locs : List Loc), va_P (dC, dI) vwCl (wM cA h ad s13) H → va_D A (wM cA h ad s13) → va_S A s.heap H locs → ∀ (ls : Array Slot), lv_has ls 3 [(2, .int x12), (1, .int v11), (0, .ref h)] → W p l e (headSpec wsX4_keep rmX4_keep).room s m av below meth c H locs 0 0 (MQ below (qV (dC, dI) A (wM cA h ad σ')) av s 0 0 A) (F0 m 47 ls []) := by
      intro n
      induction n with
      | zero => intro x12 s13 hl0; exact (lp_0 hl0).elim
      | succ n ih2 =>
        intro x12 s13 hl0 H locs hP hD hS ls hl
        obtain ⟨z2, h1, hz2⟩ := lp_s hl0
        have h1 : bX4_keep_47_2 v11 x12 s13 = some z2 := h1
        unfold bX4_keep_47_2 at h1
        refine lv_iload_n hx hb dX4_keep_47 rfl (lv_at hl 0 rfl) ?_
        refine lv_sipush (v := (2488 : Int32)) hx hb dX4_keep_48 (by decide) ?_
        refine lv_icmp_ge (tgt := 78) hx hb dX4_keep_51 (by decide) (fun hc => ?_) (fun hc => ?_)
        · have h1 := it_t h1 hc
          have he := lp_r h1 hz2
          exact KN2 x12 s13 he _ _ hP hD hS ls (lv_sub hl [0, 1, 2] rfl)
        · have h1 := it_f h1 hc
          refine lv_aload_n hx hb dX4_keep_54 rfl (lv_at hl 2 rfl) ?_
          refine va_get (D := (dC, dI)) (ci := 4) (v := .ref (ad 1)) (C := RX4) (T := TX4) (N := 16) hx hb hts hin0 hown hK hP 0 rfl rfl 1 (by decide) (hts (.fieldLink RX4 13 "MeanLocksModel" "past" "[I") (List.mem_of_getElem? (i := 3) rfl)) (fun _ h9 => h9) rfl dX4_keep_55 ?_
          refine lv_sipush (v := (2488 : Int32)) hx hb dX4_keep_58 (by decide) ?_
          refine lv_iload_n hx hb dX4_keep_61 rfl (lv_at hl 1 rfl) ?_
          refine lv_imul hx hb dX4_keep_62 ?_
          refine lv_iload_n hx hb dX4_keep_63 rfl (lv_at hl 0 rfl) ?_
          refine lv_iadd hx hb dX4_keep_64 ?_
          refine lv_aload_n hx hb dX4_keep_65 rfl (lv_at hl 2 rfl) ?_
          refine va_get (D := (dC, dI)) (ci := 4) (v := .ref (ad 0)) (C := RX4) (T := TX4) (N := 16) hx hb hts hin0 hown hK hP 0 rfl rfl 0 (by decide) (hts (.fieldLink RX4 7 "MeanLocksModel" "at" "[I") (List.mem_of_getElem? (i := 4) rfl)) (fun _ h9 => h9) rfl dX4_keep_66 ?_
          refine lv_iload_n hx hb dX4_keep_69 rfl (lv_at hl 0 rfl) ?_
          obtain ⟨hi, h1⟩ := ax_some h1
          refine va_iald hx hb hK hP 1 0 rfl rfl hi dX4_keep_70 ?_
          obtain ⟨hi, h1⟩ := ax_some h1
          obtain ⟨s14, es14, h1⟩ := nm_some h1
          refine x_iast (ws' := wM cA h ad s14) hC hK hP hD hS 2 0 rfl rfl (by rw [es14]; exact wM_s1 _ _ _ _ _) hi dX4_keep_71 (fun H locs hP hD hS => ?_)
          obtain ⟨v15, ev15, h1⟩ := nm_some h1
          refine lv_iinc (v := v15) (lv' := [(2, .int v15), (1, .int v11), (0, .ref h)]) hx hb dX4_keep_72 hl (k := 0) rfl (by rw [ev15]; rfl) (by decide) rfl (fun ls hl => ?_)
          refine lv_goto (tgt := 47) hx hb dX4_keep_75 (by decide) ?_
          have hc := lp_l h1 hz2
          exact ih2 v15 s14 hc _ _ hP hD hS ls (lv_sub hl [0, 1, 2] rfl)
    exact LP2 FU (0 : Int32) s10 hl2 _ _ hP hD hS ls hl
def fX4_keepIf (a1 : Int32) (σ : St) : Option St := if (a1 : Int32) = (0 : Int32) then (some σ) else (bnd (fX4_keep  σ) fun s2 => some s2)
abbrev rmX4_keepIf : Room := { frames := 1, cells := 0, slots := 0, locals := 22 }
set_option maxHeartbeats 4000000 in
set_option maxRecDepth 100000 in
theorem kX4_keepIf (l : Launch) (dC : Nat → ClassId) (dI : Nat → Nat → Nat) (cA : Nat → ClassId) (h : Nat) (ad : Nat → Nat) (a1 : Int32) (σ : St) (σ' : St) (h0 : fX4_keepIf a1 σ = some σ') : CV l yX4_keepIf wsX4_keepIf rmX4_keepIf (dC, dI) vwCl (tysW cA) [.ref h, .int a1] (wM cA h ad σ) (wM cA h ad σ') := by
  refine CGV_of (cc := cX4_keepIf) (nL := 2) (ret := none) (by decide) rfl (Nat.le_of_ble_eq_true rfl) ?_
  intro p e s m av below meth c A ls H locs hC hl
  obtain ⟨hC, hr, hlocks, hV, hN, hK, hP, hD, hS, hA⟩ := hC
  have hC : CallFix p m c cX4_keepIf 2 s _ wsX4_keepIf RX4 := hC
  obtain ⟨hx, hb, hml, hown, hts⟩ := id hC
  have hin0 : ∀ w ∈ u_ws RX4 TX4 16, w ∈ wsX4_keepIf := fun _ h => (List.mem_cons_of_mem _ (List.mem_append_right _ h))
  have hl : lv_has ls 2 [(0, .ref h), (1, .int a1)] := hl
  unfold fX4_keepIf at h0
  refine lv_iload_n hx hb dX4_keepIf_0 rfl (lv_at hl 1 rfl) ?_
  refine lv_if_eq (tgt := 8) hx hb dX4_keepIf_1 (by decide) (fun hc => ?_) (fun hc => ?_)
  · have h0 := it_t h0 hc
    have e1 := Option.some.inj h0
    exact x_retV hC hr hlocks hP hD hS dX4_keepIf_8 (by rw [← e1])
  · have h0 := it_f h0 hc
    refine lv_aload_n hx hb dX4_keepIf_4 rfl (lv_at hl 0 rfl) ?_
    obtain ⟨s2, hf1, h0⟩ := bnd_some h0
    refine x_VV (As := []) (rest := []) hC (kX4_keep l dC dI cA h ad σ s2 hf1) (cwV 0 hts gX4_keepIf_X4_keep rfl rfl rfl (by decide +kernel) ⟨Nat.le_of_ble_eq_true rfl, Nat.le_of_ble_eq_true rfl⟩) 0 4 hV hN hK hP hD hS hA rfl rfl rfl rfl hl.1 rfl (Nat.le_of_ble_eq_true rfl) ⟨Nat.zero_le _, Nat.zero_le _⟩ dX4_keepIf_5 (fun H locs hP hD hS => ?_)
    have e1 := Option.some.inj h0
    exact x_retV hC hr hlocks hP hD hS dX4_keepIf_8 (by rw [← e1])
def fX4_tryCancel (a1 : Int32) (a2 : Int32) (σ : St) : Option (Int32 × St) := bnd (fX4_isOwner a1) fun r1 => if (r1 : Int32) = (0 : Int32) then (some ((-1 : Int32), σ)) else (bnd (fX4_of a1 (0 : Int32) σ) fun r2 => if (r2 : Int32) = (0 : Int32) then (some ((-5 : Int32), σ)) else (bnd (fX4_keepIf a2 σ) fun s4 => bnd (fX4_of a1 (3 : Int32) s4) fun r5 => bnd (fX4_leaveRow a1 s4) fun s7 => bnd (fX4_goThrough  s7) fun s9 => some (r5, s9)))
abbrev rmX4_tryCancel : Room := { frames := 7, cells := 0, slots := 0, locals := 167 }
set_option maxHeartbeats 4000000 in
set_option maxRecDepth 100000 in
theorem kX4_tryCancel (l : Launch) (dC : Nat → ClassId) (dI : Nat → Nat → Nat) (cA : Nat → ClassId) (h : Nat) (ad : Nat → Nat) (a1 : Int32) (a2 : Int32) (σ : St) (R0 : Int32) (σ' : St) (h0 : fX4_tryCancel a1 a2 σ = some (R0, σ')) : CI l yX4_tryCancel wsX4_tryCancel rmX4_tryCancel (dC, dI) vwCl (tysW cA) [.ref h, .int a1, .int a2] (wM cA h ad σ) R0 (wM cA h ad σ') := by
  refine CGI_of (cc := cX4_tryCancel) (nL := 4) (ret := (some .int)) (by decide) rfl (Nat.le_of_ble_eq_true rfl) ?_
  intro p e s m av below meth c A ls H locs hC hl
  obtain ⟨hC, hr, hlocks, hV, hN, hK, hP, hD, hS, hA⟩ := hC
  have hC : CallFix p m c cX4_tryCancel 4 s _ wsX4_tryCancel RX4 := hC
  obtain ⟨hx, hb, hml, hown, hts⟩ := id hC
  have hin0 : ∀ w ∈ u_ws RX4 TX4 16, w ∈ wsX4_tryCancel := fun _ h => (List.mem_cons_of_mem _ (List.mem_append_right _ h))
  have hl : lv_has ls 4 [(0, .ref h), (1, .int a1), (2, .int a2)] := hl
  unfold fX4_tryCancel at h0
  refine lv_iload_n hx hb dX4_tryCancel_0 rfl (lv_at hl 1 rfl) ?_
  obtain ⟨r1, hf1, h0⟩ := bnd_some h0
  refine x_SI (As := [.int a1]) (rest := []) hC (kX4_isOwner l dC dI cA a1 r1 hf1) (cwS 1 hts gX4_tryCancel_X4_isOwner rfl rfl rfl (by decide +kernel) ⟨Nat.le_of_ble_eq_true rfl, Nat.le_of_ble_eq_true rfl⟩) hV hN hK hP hD hS hA rfl hl.1 rfl (Nat.le_of_ble_eq_true rfl) ⟨Nat.zero_le _, Nat.zero_le _⟩ dX4_tryCancel_1 (fun H locs hP hD hS => ?_)
  refine lv_if_ne (tgt := 9) hx hb dX4_tryCancel_4 (by decide) (fun hc => ?_) (fun hc => ?_)
  · have h0 := it_f h0 hc
    refine lv_aload_n hx hb dX4_tryCancel_9 rfl (lv_at hl 0 rfl) ?_
    refine lv_iload_n hx hb dX4_tryCancel_10 rfl (lv_at hl 1 rfl) ?_
    refine lv_iconst (v := (0 : Int32)) hx hb dX4_tryCancel_11 (by decide) ?_
    obtain ⟨r2, hf2, h0⟩ := bnd_some h0
    refine x_VI (As := [.int a1, .int (0 : Int32)]) (rest := []) hC (kX4_of l dC dI cA h ad a1 (0 : Int32) σ r2  hf2) (cwV 2 hts gX4_tryCancel_X4_of rfl rfl rfl (by decide +kernel) ⟨Nat.le_of_ble_eq_true rfl, Nat.le_of_ble_eq_true rfl⟩) 0 4 hV hN hK hP hD hS hA rfl rfl rfl rfl hl.1 rfl (Nat.le_of_ble_eq_true rfl) ⟨Nat.zero_le _, Nat.zero_le _⟩ dX4_tryCancel_12 (fun H locs hP hD hS => ?_)
    refine lv_if_ne (tgt := 21) hx hb dX4_tryCancel_15 (by decide) (fun hc => ?_) (fun hc => ?_)
    · have h0 := it_f h0 hc
      refine lv_aload_n hx hb dX4_tryCancel_21 rfl (lv_at hl 0 rfl) ?_
      refine lv_iload_n hx hb dX4_tryCancel_22 rfl (lv_at hl 2 rfl) ?_
      obtain ⟨s4, hf3, h0⟩ := bnd_some h0
      refine x_VV (As := [.int a2]) (rest := []) hC (kX4_keepIf l dC dI cA h ad a2 σ s4 hf3) (cwV 1 hts gX4_tryCancel_X4_keepIf rfl rfl rfl (by decide +kernel) ⟨Nat.le_of_ble_eq_true rfl, Nat.le_of_ble_eq_true rfl⟩) 0 4 hV hN hK hP hD hS hA rfl rfl rfl rfl hl.1 rfl (Nat.le_of_ble_eq_true rfl) ⟨Nat.zero_le _, Nat.zero_le _⟩ dX4_tryCancel_23 (fun H locs hP hD hS => ?_)
      refine lv_aload_n hx hb dX4_tryCancel_26 rfl (lv_at hl 0 rfl) ?_
      refine lv_iload_n hx hb dX4_tryCancel_27 rfl (lv_at hl 1 rfl) ?_
      refine lv_iconst (v := (3 : Int32)) hx hb dX4_tryCancel_28 (by decide) ?_
      obtain ⟨r5, hf4, h0⟩ := bnd_some h0
      refine x_VI (As := [.int a1, .int (3 : Int32)]) (rest := []) hC (kX4_of l dC dI cA h ad a1 (3 : Int32) s4 r5  hf4) (cwV 2 hts gX4_tryCancel_X4_of rfl rfl rfl (by decide +kernel) ⟨Nat.le_of_ble_eq_true rfl, Nat.le_of_ble_eq_true rfl⟩) 0 4 hV hN hK hP hD hS hA rfl rfl rfl rfl hl.1 rfl (Nat.le_of_ble_eq_true rfl) ⟨Nat.zero_le _, Nat.zero_le _⟩ dX4_tryCancel_29 (fun H locs hP hD hS => ?_)
      refine lv_istore_n (lv' := [(3, .int r5), (0, .ref h), (1, .int a1), (2, .int a2)]) hx hb dX4_tryCancel_32 rfl hl (by decide) rfl (fun ls hl => ?_)
      refine lv_aload_n hx hb dX4_tryCancel_33 rfl (lv_at hl 1 rfl) ?_
      refine lv_iload_n hx hb dX4_tryCancel_34 rfl (lv_at hl 2 rfl) ?_
      obtain ⟨s7, hf5, h0⟩ := bnd_some h0
      refine x_VV (As := [.int a1]) (rest := []) hC (kX4_leaveRow l dC dI cA h ad a1 s4 s7 hf5) (cwV 1 hts gX4_tryCancel_X4_leaveRow rfl rfl rfl (by decide +kernel) ⟨Nat.le_of_ble_eq_true rfl, Nat.le_of_ble_eq_true rfl⟩) 0 4 hV hN hK hP hD hS hA rfl rfl rfl rfl hl.1 rfl (Nat.le_of_ble_eq_true rfl) ⟨Nat.zero_le _, Nat.zero_le _⟩ dX4_tryCancel_35 (fun H locs hP hD hS => ?_)
      refine lv_aload_n hx hb dX4_tryCancel_38 rfl (lv_at hl 1 rfl) ?_
      obtain ⟨s9, hf6, h0⟩ := bnd_some h0
      refine x_VV (As := []) (rest := []) hC (kX4_goThrough l dC dI cA h ad s7 s9 hf6) (cwV 0 hts gX4_tryCancel_X4_goThrough rfl rfl rfl (by decide +kernel) ⟨Nat.le_of_ble_eq_true rfl, Nat.le_of_ble_eq_true rfl⟩) 0 4 hV hN hK hP hD hS hA rfl rfl rfl rfl hl.1 rfl (Nat.le_of_ble_eq_true rfl) ⟨Nat.zero_le _, Nat.zero_le _⟩ dX4_tryCancel_39 (fun H locs hP hD hS => ?_)
      refine lv_iload_n hx hb dX4_tryCancel_42 rfl (lv_at hl 0 rfl) ?_
      obtain ⟨e1, e2⟩ := Prod.mk.inj (Option.some.inj h0)
      exact x_retI hC hr hlocks rfl hP hD hS dX4_tryCancel_43 ⟨e1, by rw [← e2]⟩
    · have h0 := it_t h0 hc
      refine lv_bipush (v := (-5 : Int32)) hx hb dX4_tryCancel_18 (by decide) ?_
      obtain ⟨e1, e2⟩ := Prod.mk.inj (Option.some.inj h0)
      exact x_retI hC hr hlocks rfl hP hD hS dX4_tryCancel_20 ⟨e1, by rw [← e2]⟩
  · have h0 := it_t h0 hc
    refine lv_iconst (v := (-1 : Int32)) hx hb dX4_tryCancel_7 (by decide) ?_
    obtain ⟨e1, e2⟩ := Prod.mk.inj (Option.some.inj h0)
    exact x_retI hC hr hlocks rfl hP hD hS dX4_tryCancel_8 ⟨e1, by rw [← e2]⟩
def fX4_cancel (a1 : Int32) (σ : St) : Option (Int32 × St) := bn2 (fX4_tryCancel a1 (1 : Int32) σ) fun r1 s2 => some (r1, s2)
abbrev rmX4_cancel : Room := { frames := 8, cells := 0, slots := 0, locals := 190 }
set_option maxHeartbeats 4000000 in
set_option maxRecDepth 100000 in
theorem kX4_cancel (l : Launch) (dC : Nat → ClassId) (dI : Nat → Nat → Nat) (cA : Nat → ClassId) (h : Nat) (ad : Nat → Nat) (a1 : Int32) (σ : St) (R0 : Int32) (σ' : St) (h0 : fX4_cancel a1 σ = some (R0, σ')) : CI l yX4_cancel wsX4_cancel rmX4_cancel (dC, dI) vwCl (tysW cA) [.ref h, .int a1] (wM cA h ad σ) R0 (wM cA h ad σ') := by
  refine CGI_of (cc := cX4_cancel) (nL := 2) (ret := (some .int)) (by decide) rfl (Nat.le_of_ble_eq_true rfl) ?_
  intro p e s m av below meth c A ls H locs hC hl
  obtain ⟨hC, hr, hlocks, hV, hN, hK, hP, hD, hS, hA⟩ := hC
  have hC : CallFix p m c cX4_cancel 2 s _ wsX4_cancel RX4 := hC
  obtain ⟨hx, hb, hml, hown, hts⟩ := id hC
  have hin0 : ∀ w ∈ u_ws RX4 TX4 16, w ∈ wsX4_cancel := fun _ h => (List.mem_cons_of_mem _ (List.mem_append_right _ h))
  have hl : lv_has ls 2 [(0, .ref h), (1, .int a1)] := hl
  unfold fX4_cancel at h0
  refine lv_aload_n hx hb dX4_cancel_0 rfl (lv_at hl 0 rfl) ?_
  refine lv_iload_n hx hb dX4_cancel_1 rfl (lv_at hl 1 rfl) ?_
  refine lv_iconst (v := (1 : Int32)) hx hb dX4_cancel_2 (by decide) ?_
  obtain ⟨r1, s2, hf1, h0⟩ := bn2_some h0
  refine x_VI (As := [.int a1, .int (1 : Int32)]) (rest := []) hC (kX4_tryCancel l dC dI cA h ad a1 (1 : Int32) σ r1 s2 hf1) (cwV 2 hts gX4_cancel_X4_tryCancel rfl rfl rfl (by decide +kernel) ⟨Nat.le_of_ble_eq_true rfl, Nat.le_of_ble_eq_true rfl⟩) 0 4 hV hN hK hP hD hS hA rfl rfl rfl rfl hl.1 rfl (Nat.le_of_ble_eq_true rfl) ⟨Nat.zero_le _, Nat.zero_le _⟩ dX4_cancel_3 (fun H locs hP hD hS => ?_)
  obtain ⟨e1, e2⟩ := Prod.mk.inj (Option.some.inj h0)
  exact x_retI hC hr hlocks rfl hP hD hS dX4_cancel_6 ⟨e1, by rw [← e2]⟩
