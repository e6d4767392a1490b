def fX3_isOwner (a1 : Int32) : Option Int32 := if (a1 : Int32) < (0 : Int32) then (some (0 : Int32)) else (if (8 : Int32) ≤ a1 then (some (0 : Int32)) else (some (1 : Int32)))
abbrev rmX3_isOwner : Room := { frames := 0, cells := 0, slots := 0, locals := 0 }
set_option maxHeartbeats 4000000 in
set_option maxRecDepth 100000 in
theorem kX3_isOwner (l : Launch) (dC : Nat → ClassId) (dI : Nat → Nat → Nat) (cA : Nat → ClassId) (a1 : Int32) (R0 : Int32) (h0 : fX3_isOwner a1 = some R0) : CI l yX3_isOwner wsX3_isOwner rmX3_isOwner (dC, dI) vwCl (tysW cA) [.int a1] [] R0 [] := by
  refine CGI_of (cc := cX3_isOwner) (nL := 1) (ret := (some .boolean)) (by decide) rfl (Nat.le_of_ble_eq_true rfl) ?_
  intro p e s m av below meth c A ls hC hl
  obtain ⟨hC, hr, hlocks, hV, hN, hK, hP, hD, hS, hA⟩ := hC
  have hC : CallFix p m c cX3_isOwner 1 s _ wsX3_isOwner RX3 := hC
  obtain ⟨hx, hb, hml, hown, hts⟩ := id hC
  have hl : lv_has ls 1 [(0, .int a1)] := hl
  unfold fX3_isOwner at h0
  refine lv_iload_n hx hb dX3_isOwner_0 rfl (lv_at hl 0 rfl) ?_
  refine lv_if_lt (tgt := 14) hx hb dX3_isOwner_1 (by decide) (fun hc => ?_) (fun hc => ?_)
  · have h0 := it_t h0 hc
    refine lv_iconst (v := (0 : Int32)) hx hb dX3_isOwner_14 (by decide) ?_
    have e1 := Option.some.inj h0
    exact x_retI hC hr hlocks rfl hP hD hS dX3_isOwner_15 ⟨e1, rfl⟩
  · have h0 := it_f h0 hc
    refine lv_iload_n hx hb dX3_isOwner_4 rfl (lv_at hl 0 rfl) ?_
    refine lv_bipush (v := (8 : Int32)) hx hb dX3_isOwner_5 (by decide) ?_
    refine lv_icmp_ge (tgt := 14) hx hb dX3_isOwner_7 (by decide) (fun hc => ?_) (fun hc => ?_)
    · have h0 := it_t h0 hc
      refine lv_iconst (v := (0 : Int32)) hx hb dX3_isOwner_14 (by decide) ?_
      have e1 := Option.some.inj h0
      exact x_retI hC hr hlocks rfl hP hD hS dX3_isOwner_15 ⟨e1, rfl⟩
    · have h0 := it_f h0 hc
      refine lv_iconst (v := (1 : Int32)) hx hb dX3_isOwner_10 (by decide) ?_
      refine lv_goto (tgt := 15) hx hb dX3_isOwner_11 (by decide) ?_
      have e1 := Option.some.inj h0
      exact x_retI hC hr hlocks rfl hP hD hS dX3_isOwner_15 ⟨e1, rfl⟩
def fX3_isPlace (a1 : Int32) : Option Int32 := if (a1 : Int32) < (0 : Int32) then (some (0 : Int32)) else (if (300 : Int32) ≤ a1 then (some (0 : Int32)) else (some (1 : Int32)))
abbrev rmX3_isPlace : Room := { frames := 0, cells := 0, slots := 0, locals := 0 }
set_option maxHeartbeats 4000000 in
set_option maxRecDepth 100000 in
theorem kX3_isPlace (l : Launch) (dC : Nat → ClassId) (dI : Nat → Nat → Nat) (cA : Nat → ClassId) (a1 : Int32) (R0 : Int32) (h0 : fX3_isPlace a1 = some R0) : CI l yX3_isPlace wsX3_isPlace rmX3_isPlace (dC, dI) vwCl (tysW cA) [.int a1] [] R0 [] := by
  refine CGI_of (cc := cX3_isPlace) (nL := 1) (ret := (some .boolean)) (by decide) rfl (Nat.le_of_ble_eq_true rfl) ?_
  intro p e s m av below meth c A ls hC hl
  obtain ⟨hC, hr, hlocks, hV, hN, hK, hP, hD, hS, hA⟩ := hC
  have hC : CallFix p m c cX3_isPlace 1 s _ wsX3_isPlace RX3 := hC
  obtain ⟨hx, hb, hml, hown, hts⟩ := id hC
  have hl : lv_has ls 1 [(0, .int a1)] := hl
  unfold fX3_isPlace at h0
  refine lv_iload_n hx hb dX3_isPlace_0 rfl (lv_at hl 0 rfl) ?_
  refine lv_if_lt (tgt := 15) hx hb dX3_isPlace_1 (by decide) (fun hc => ?_) (fun hc => ?_)
  · have h0 := it_t h0 hc
    refine lv_iconst (v := (0 : Int32)) hx hb dX3_isPlace_15 (by decide) ?_
    have e1 := Option.some.inj h0
    exact x_retI hC hr hlocks rfl hP hD hS dX3_isPlace_16 ⟨e1, rfl⟩
  · have h0 := it_f h0 hc
    refine lv_iload_n hx hb dX3_isPlace_4 rfl (lv_at hl 0 rfl) ?_
    refine lv_sipush (v := (300 : Int32)) hx hb dX3_isPlace_5 (by decide) ?_
    refine lv_icmp_ge (tgt := 15) hx hb dX3_isPlace_8 (by decide) (fun hc => ?_) (fun hc => ?_)
    · have h0 := it_t h0 hc
      refine lv_iconst (v := (0 : Int32)) hx hb dX3_isPlace_15 (by decide) ?_
      have e1 := Option.some.inj h0
      exact x_retI hC hr hlocks rfl hP hD hS dX3_isPlace_16 ⟨e1, rfl⟩
    · have h0 := it_f h0 hc
      refine lv_iconst (v := (1 : Int32)) hx hb dX3_isPlace_11 (by decide) ?_
      refine lv_goto (tgt := 16) hx hb dX3_isPlace_12 (by decide) ?_
      have e1 := Option.some.inj h0
      exact x_retI hC hr hlocks rfl hP hD hS dX3_isPlace_16 ⟨e1, rfl⟩
def fX3_isRange (a1 : Int32) (a2 : Int32) : Option Int32 := bnd (fX3_isPlace a1) fun r1 => if (r1 : Int32) = (0 : Int32) then (some (0 : Int32)) else (if (a2 : Int32) ≤ a1 then (some (0 : Int32)) else (if (300 : Int32) < a2 then (some (0 : Int32)) else (some (1 : Int32))))
abbrev rmX3_isRange : Room := { frames := 1, cells := 0, slots := 0, locals := 20 }
set_option maxHeartbeats 4000000 in
set_option maxRecDepth 100000 in
theorem kX3_isRange (l : Launch) (dC : Nat → ClassId) (dI : Nat → Nat → Nat) (cA : Nat → ClassId) (a1 : Int32) (a2 : Int32) (R0 : Int32) (h0 : fX3_isRange a1 a2 = some R0) : CI l yX3_isRange wsX3_isRange rmX3_isRange (dC, dI) vwCl (tysW cA) [.int a1, .int a2] [] R0 [] := by
  refine CGI_of (cc := cX3_isRange) (nL := 2) (ret := (some .boolean)) (by decide) rfl (Nat.le_of_ble_eq_true rfl) ?_
  intro p e s m av below meth c A ls hC hl
  obtain ⟨hC, hr, hlocks, hV, hN, hK, hP, hD, hS, hA⟩ := hC
  have hC : CallFix p m c cX3_isRange 2 s _ wsX3_isRange RX3 := hC
  obtain ⟨hx, hb, hml, hown, hts⟩ := id hC
  have hl : lv_has ls 2 [(0, .int a1), (1, .int a2)] := hl
  unfold fX3_isRange at h0
  refine lv_iload_n hx hb dX3_isRange_0 rfl (lv_at hl 0 rfl) ?_
  obtain ⟨r1, hf1, h0⟩ := bnd_some h0
  refine x_SI (As := [.int a1]) (rest := []) hC (kX3_isPlace l dC dI cA a1 r1 hf1) (cwS 1 hts gX3_isRange_X3_isPlace rfl rfl rfl (by decide +kernel) ⟨Nat.le_of_ble_eq_true rfl, Nat.le_of_ble_eq_true rfl⟩) hV hN hK hP hD hS hA rfl hl.1 rfl (Nat.le_of_ble_eq_true rfl) ⟨Nat.zero_le _, Nat.zero_le _⟩ dX3_isRange_1 (fun H locs hP hD hS => ?_)
  refine lv_if_eq (tgt := 23) hx hb dX3_isRange_4 (by decide) (fun hc => ?_) (fun hc => ?_)
  · have h0 := it_t h0 hc
    refine lv_iconst (v := (0 : Int32)) hx hb dX3_isRange_23 (by decide) ?_
    have e1 := Option.some.inj h0
    exact x_retI hC hr hlocks rfl hP hD hS dX3_isRange_24 ⟨e1, rfl⟩
  · have h0 := it_f h0 hc
    refine lv_iload_n hx hb dX3_isRange_7 rfl (lv_at hl 1 rfl) ?_
    refine lv_iload_n hx hb dX3_isRange_8 rfl (lv_at hl 0 rfl) ?_
    refine lv_icmp_le (tgt := 23) hx hb dX3_isRange_9 (by decide) (fun hc => ?_) (fun hc => ?_)
    · have h0 := it_t h0 hc
      refine lv_iconst (v := (0 : Int32)) hx hb dX3_isRange_23 (by decide) ?_
      have e1 := Option.some.inj h0
      exact x_retI hC hr hlocks rfl hP hD hS dX3_isRange_24 ⟨e1, rfl⟩
    · have h0 := it_f h0 hc
      refine lv_iload_n hx hb dX3_isRange_12 rfl (lv_at hl 1 rfl) ?_
      refine lv_sipush (v := (300 : Int32)) hx hb dX3_isRange_13 (by decide) ?_
      refine lv_icmp_gt (tgt := 23) hx hb dX3_isRange_16 (by decide) (fun hc => ?_) (fun hc => ?_)
      · have h0 := it_t h0 hc
        refine lv_iconst (v := (0 : Int32)) hx hb dX3_isRange_23 (by decide) ?_
        have e1 := Option.some.inj h0
        exact x_retI hC hr hlocks rfl hP hD hS dX3_isRange_24 ⟨e1, rfl⟩
      · have h0 := it_f h0 hc
        refine lv_iconst (v := (1 : Int32)) hx hb dX3_isRange_19 (by decide) ?_
        refine lv_goto (tgt := 24) hx hb dX3_isRange_20 (by decide) ?_
        have e1 := Option.some.inj h0
        exact x_retI hC hr hlocks rfl hP hD hS dX3_isRange_24 ⟨e1, rfl⟩
def fX3_holds (a1 : Int32) (a2 : Int32) : Option Int32 := if (((a1 >>> (a2 &&& 31)) &&& (1 : Int32)) : Int32) = (0 : Int32) then (some (0 : Int32)) else (some (1 : Int32))
abbrev rmX3_holds : Room := { frames := 0, cells := 0, slots := 0, locals := 0 }
set_option maxHeartbeats 4000000 in
set_option maxRecDepth 100000 in
theorem kX3_holds (l : Launch) (dC : Nat → ClassId) (dI : Nat → Nat → Nat) (cA : Nat → ClassId) (a1 : Int32) (a2 : Int32) (R0 : Int32) (h0 : fX3_holds a1 a2 = some R0) : CI l yX3_holds wsX3_holds rmX3_holds (dC, dI) vwCl (tysW cA) [.int a1, .int a2] [] R0 [] := by
  refine CGI_of (cc := cX3_holds) (nL := 2) (ret := (some .boolean)) (by decide) rfl (Nat.le_of_ble_eq_true rfl) ?_
  intro p e s m av below meth c A ls hC hl
  obtain ⟨hC, hr, hlocks, hV, hN, hK, hP, hD, hS, hA⟩ := hC
  have hC : CallFix p m c cX3_holds 2 s _ wsX3_holds RX3 := hC
  obtain ⟨hx, hb, hml, hown, hts⟩ := id hC
  have hl : lv_has ls 2 [(0, .int a1), (1, .int a2)] := hl
  unfold fX3_holds at h0
  refine lv_iload_n hx hb dX3_holds_0 rfl (lv_at hl 0 rfl) ?_
  refine lv_iload_n hx hb dX3_holds_1 rfl (lv_at hl 1 rfl) ?_
  refine lv_ishr hx hb dX3_holds_2 ?_
  refine lv_iconst (v := (1 : Int32)) hx hb dX3_holds_3 (by decide) ?_
  refine lv_iand hx hb dX3_holds_4 ?_
  refine lv_if_eq (tgt := 12) hx hb dX3_holds_5 (by decide) (fun hc => ?_) (fun hc => ?_)
  · have h0 := it_t h0 hc
    refine lv_iconst (v := (0 : Int32)) hx hb dX3_holds_12 (by decide) ?_
    have e1 := Option.some.inj h0
    exact x_retI hC hr hlocks rfl hP hD hS dX3_holds_13 ⟨e1, rfl⟩
  · have h0 := it_f h0 hc
    refine lv_iconst (v := (1 : Int32)) hx hb dX3_holds_8 (by decide) ?_
    refine lv_goto (tgt := 13) hx hb dX3_holds_9 (by decide) ?_
    have e1 := Option.some.inj h0
    exact x_retI hC hr hlocks rfl hP hD hS dX3_holds_13 ⟨e1, rfl⟩
def bX1_lock_8 (a2 : Int32) (a3 : Int32) (v1 : Int32) (x2 : Int32) (s3 : St) : Option ((Int32 × St) ⊕ (Int32 × St)) := if a3 < x2 then (some (.inr (x2, s3))) else (ax x2 4 (ax a2 300 (ax a2 300 (nm (put s3 (16 + (x2 : Int32).toNatClampNeg) (upd (s3 (16 + (x2 : Int32).toNatClampNeg)) (a2 : Int32).toNatClampNeg ((s3 (16 + (x2 : Int32).toNatClampNeg) (a2 : Int32).toNatClampNeg) ||| v1))) fun s4 => nm (x2 + (1 : Int32)) fun v5 => some (.inl (v5, s4))))))
def bX1_lock_39 (a2 : Int32) (v1 : Int32) (x9 : Int32) (s10 : St) : Option ((Int32 × St) ⊕ (Int32 × St)) := if (3 : Int32) < x9 then (some (.inr (x9, s10))) else (ax x9 4 (ax a2 300 (ax a2 300 (nm (put s10 (16 + (x9 : Int32).toNatClampNeg) (upd (s10 (16 + (x9 : Int32).toNatClampNeg)) (a2 : Int32).toNatClampNeg ((s10 (16 + (x9 : Int32).toNatClampNeg) (a2 : Int32).toNatClampNeg) &&& (v1 ^^^ (-1 : Int32))))) fun s11 => nm (x9 + (1 : Int32)) fun v12 => some (.inl (v12, s11))))))
def fX1_lock (a1 : Int32) (a2 : Int32) (a3 : Int32) (σ : St) : Option St := nm ((1 : Int32) <<< (a1 &&& 31)) fun v1 => bnd (lp (fun t : (Int32 × St) => bX1_lock_8 a2 a3 v1 t.1 t.2) FU ((1 : Int32), σ)) (fun e : (Int32 × St) => nm e.1 fun x6 => nm e.2 fun s7 => nm (a3 + (1 : Int32)) fun v8 => bnd (lp (fun t : (Int32 × St) => bX1_lock_39 a2 v1 t.1 t.2) FU (v8, s7)) (fun e : (Int32 × St) => nm e.1 fun x13 => nm e.2 fun s14 => some s14))
abbrev rmX1_lock : Room := { frames := 0, cells := 0, slots := 0, locals := 0 }
set_option maxHeartbeats 4000000 in
set_option maxRecDepth 100000 in
theorem kX1_lock (l : Launch) (dC : Nat → ClassId) (dI : Nat → Nat → Nat) (cA : Nat → ClassId) (h : Nat) (ad : Nat → Nat) (a1 : Int32) (a2 : Int32) (a3 : Int32) (σ : St) (σ' : St) (h0 : fX1_lock a1 a2 a3 σ = some σ') : CV l yX1_lock wsX1_lock rmX1_lock (dC, dI) vwCl (tysW cA) [.ref h, .int a1, .int a2, .int a3] (wL cA h ad σ) (wL cA h ad σ') := by
  refine CGV_of (cc := cX1_lock) (nL := 6) (ret := none) (by decide) rfl (Nat.le_of_ble_eq_true rfl) ?_
  intro p e s m av below meth c A ls hC hl
  obtain ⟨hC, hr, hlocks, hV, hN, hK, hP, hD, hS, hA⟩ := hC
  have hC : CallFix p m c cX1_lock 6 s _ wsX1_lock RX1 := hC
  obtain ⟨hx, hb, hml, hown, hts⟩ := id hC
  have hin0 : ∀ w ∈ u_ws RX1 TX1 16, w ∈ wsX1_lock := fun _ h => (List.mem_cons_of_mem _ (List.mem_append_right _ h))
  have hl : lv_has ls 6 [(0, .ref h), (1, .int a1), (2, .int a2), (3, .int a3)] := hl
  unfold fX1_lock at h0
  refine lv_iconst (v := (1 : Int32)) hx hb dX1_lock_0 (by decide) ?_
  refine lv_iload_n hx hb dX1_lock_1 rfl (lv_at hl 1 rfl) ?_
  refine lv_ishl hx hb dX1_lock_2 ?_
  refine lv_topi (fun v1 ev1 => ?_)
  have h0 := nm_at ev1 h0
  refine lv_istore (lv' := [(4, .int v1), (0, .ref h), (1, .int a1), (2, .int a2), (3, .int a3)]) hx hb dX1_lock_3 hl (by decide) rfl (fun ls hl => ?_)
  refine lv_iconst (v := (1 : Int32)) hx hb dX1_lock_5 (by decide) ?_
  refine lv_istore (lv' := [(5, .int (1 : Int32)), (4, .int v1), (0, .ref h), (1, .int a1), (2, .int a2), (3, .int a3)]) hx hb dX1_lock_6 hl (by decide) rfl (fun ls hl => ?_)
  obtain ⟨ε1, hl1, h0⟩ := bnd_some h0
  have KN1 : ∀ (x6 : Int32) (s7 : St), ε1 = (x6, s7) → ∀ (H : Heap) (locs : List Loc), va_P (dC, dI) vwCl (wL cA h ad s7) H → va_D A (wL cA h ad s7) → va_S A s.heap H locs → ∀ (ls : Array Slot), lv_has ls 6 [(5, .int x6), (4, .int v1), (0, .ref h), (1, .int a1), (2, .int a2), (3, .int a3)] → W p l e (headSpec wsX1_lock rmX1_lock).room s m av below meth c H locs 0 0 (MQ below (qV (dC, dI) A (wL cA h ad σ')) av s 0 0 A) (F0 m 34 ls []) := by
    intro x6 s7 hε H locs hP hD hS ls hl
    rw [hε] at h0
    have h0 := nm_at (z := x6) rfl h0
    have h0 := nm_at (z := s7) rfl h0
    refine lv_iload_n hx hb dX1_lock_34 rfl (lv_at hl 5 rfl) ?_
    refine lv_iconst (v := (1 : Int32)) hx hb dX1_lock_35 (by decide) ?_
    refine lv_iadd hx hb dX1_lock_36 ?_
    refine lv_topi (fun v8 ev8 => ?_)
    have h0 := nm_at ev8 h0
    refine lv_istore (lv' := [(5, .int v8), (4, .int v1), (0, .ref h), (1, .int a1), (2, .int a2), (3, .int a3)]) hx hb dX1_lock_37 hl (by decide) rfl (fun ls hl => ?_)
    obtain ⟨ε3, hl3, h0⟩ := bnd_some h0
    have KN3 : ∀ (x13 : Int32) (s14 : St), ε3 = (x13, s14) → ∀ (H : Heap) (locs : List Loc), va_P (dC, dI) vwCl (wL cA h ad s14) H → va_D A (wL cA h ad s14) → va_S A s.heap H locs → ∀ (ls : Array Slot), lv_has ls 6 [(5, .int x13), (4, .int v1), (0, .ref h), (1, .int a1), (2, .int a2), (3, .int a3)] → W p l e (headSpec wsX1_lock rmX1_lock).room s m av below meth c H locs 0 0 (MQ below (qV (dC, dI) A (wL cA h ad σ')) av s 0 0 A) (F0 m 67 ls []) := by
      intro x13 s14 hε H locs hP hD hS ls hl
      rw [hε] at h0
      have h0 := nm_at (z := x13) rfl h0
      have h0 := nm_at (z := s14) rfl h0
      have e1 := Option.some.inj h0
      exact x_retV hC hr hlocks hP hD hS dX1_lock_67 (by rw [← e1])
    have LP3 : ∀ (n : Nat) (x9 : Int32) (s10 : St), lp (fun t : (Int32 × St) => bX1_lock_39 a2 v1 t.1 t.2) n (x9, s10) = some ε3 → ∀ (H : Heap) (locs : List Loc), va_P (dC, dI) vwCl (wL cA h ad s10) H → va_D A (wL cA h ad s10) → va_S A s.heap H locs → ∀ (ls : Array Slot), lv_has ls 6 [(5, .int x9), (4, .int v1), (0, .ref h), (1, .int a1), (2, .int a2), (3, .int a3)] → W p l e (headSpec wsX1_lock rmX1_lock).room s m av below meth c H locs 0 0 (MQ below (qV (dC, dI) A (wL cA h ad σ')) av s 0 0 A) (F0 m 39 ls []) := by
      intro n
      induction n with
      | zero => intro x9 s10 hl0; exact (lp_0 hl0).elim
      | succ n ih3 =>
        intro x9 s10 hl0 H locs hP hD hS ls hl
        obtain ⟨z3, h1, hz3⟩ := lp_s hl0
        have h1 : bX1_lock_39 a2 v1 x9 s10 = some z3 := h1
        unfold bX1_lock_39 at h1
        refine lv_iload hx hb dX1_lock_39 (lv_at hl 0 rfl) ?_
        refine lv_iconst (v := (3 : Int32)) hx hb dX1_lock_41 (by decide) ?_
        refine lv_icmp_gt (tgt := 67) hx hb dX1_lock_42 (by decide) (fun hc => ?_) (fun hc => ?_)
        · have h1 := it_t h1 hc
          have he := lp_r h1 hz3
          exact KN3 x9 s10 he _ _ hP hD hS ls (lv_sub hl [0, 1, 2, 3, 4, 5] rfl)
        · have h1 := it_f h1 hc
          refine lv_aload_n hx hb dX1_lock_45 rfl (lv_at hl 2 rfl) ?_
          refine va_get (D := (dC, dI)) (ci := 1) (v := .ref (ad 2)) (C := RX1) (T := TX1) (N := 16) hx hb hts hin0 hown hK hP 0 rfl rfl 2 (by decide) (hts (.fieldLink RX1 17 "MeanLocks$Locks" "atLeast" "[[I") (List.mem_of_getElem? (i := 1) rfl)) (fun _ h9 => h9) rfl dX1_lock_46 ?_
          refine lv_iload hx hb dX1_lock_49 (lv_at hl 0 rfl) ?_
          obtain ⟨hi4, h1⟩ := ax_some h1
          refine x_aldA hx hb hK hP 2 4 rfl rfl hi4 rfl dX1_lock_51 ?_
          refine lv_iload_n hx hb dX1_lock_52 rfl (lv_at hl 4 rfl) ?_
          refine lv_dup2_11 hx hb dX1_lock_53 rfl rfl ?_
          obtain ⟨hi, h1⟩ := ax_some h1
          refine va_iald hx hb hK hP (13 + (x9 : Int32).toNatClampNeg) 0 (wL_rg cA h ad s10 hi4) rfl hi dX1_lock_54 ?_
          refine lv_iload hx hb dX1_lock_55 (lv_at hl 1 rfl) ?_
          refine lv_iconst (v := (-1 : Int32)) hx hb dX1_lock_57 (by decide) ?_
          refine lv_ixor hx hb dX1_lock_58 ?_
          refine lv_iand hx hb dX1_lock_59 ?_
          obtain ⟨hi, h1⟩ := ax_some h1
          obtain ⟨s11, es11, h1⟩ := nm_some h1
          refine x_iast (ws' := wL cA h ad s11) hC hK hP hD hS (13 + (x9 : Int32).toNatClampNeg) 0 (wL_rg cA h ad s10 hi4) rfl (by rw [es11]; exact wL_rs cA h ad s10 _ hi4) hi dX1_lock_60 (fun H locs hP hD hS => ?_)
          obtain ⟨v12, ev12, h1⟩ := nm_some h1
          refine lv_iinc (v := v12) (lv' := [(5, .int v12), (4, .int v1), (0, .ref h), (1, .int a1), (2, .int a2), (3, .int a3)]) hx hb dX1_lock_61 hl (k := 0) rfl (by rw [ev12]; rfl) (by decide) rfl (fun ls hl => ?_)
          refine lv_goto (tgt := 39) hx hb dX1_lock_64 (by decide) ?_
          have hc := lp_l h1 hz3
          exact ih3 v12 s11 hc _ _ hP hD hS ls (lv_sub hl [0, 1, 2, 3, 4, 5] rfl)
    exact LP3 FU v8 s7 hl3 _ _ hP hD hS ls hl
  have LP1 : ∀ (n : Nat) (x2 : Int32) (s3 : St), lp (fun t : (Int32 × St) => bX1_lock_8 a2 a3 v1 t.1 t.2) n (x2, s3) = some ε1 → ∀ (H : Heap) (locs : List Loc), va_P (dC, dI) vwCl (wL cA h ad s3) H → va_D A (wL cA h ad s3) → va_S A s.heap H locs → ∀ (ls : Array Slot), lv_has ls 6 [(5, .int x2), (4, .int v1), (0, .ref h), (1, .int a1), (2, .int a2), (3, .int a3)] → W p l e (headSpec wsX1_lock rmX1_lock).room s m av below meth c H locs 0 0 (MQ below (qV (dC, dI) A (wL cA h ad σ')) av s 0 0 A) (F0 m 8 ls []) := by
    intro n
    induction n with
    | zero => intro x2 s3 hl0; exact (lp_0 hl0).elim
    | succ n ih1 =>
      intro x2 s3 hl0 H locs hP hD hS ls hl
      obtain ⟨z1, h1, hz1⟩ := lp_s hl0
      have h1 : bX1_lock_8 a2 a3 v1 x2 s3 = some z1 := h1
      unfold bX1_lock_8 at h1
      refine lv_iload hx hb dX1_lock_8 (lv_at hl 0 rfl) ?_
      refine lv_iload_n hx hb dX1_lock_10 rfl (lv_at hl 5 rfl) ?_
      refine lv_icmp_gt (tgt := 34) hx hb dX1_lock_11 (by decide) (fun hc => ?_) (fun hc => ?_)
      · have h1 := it_t h1 hc
        have he := lp_r h1 hz1
        exact KN1 x2 s3 he _ _ hP hD hS ls (lv_sub hl [0, 1, 2, 3, 4, 5] rfl)
      · have h1 := it_f h1 hc
        refine lv_aload_n hx hb dX1_lock_14 rfl (lv_at hl 2 rfl) ?_
        refine va_get (D := (dC, dI)) (ci := 1) (v := .ref (ad 2)) (C := RX1) (T := TX1) (N := 16) hx hb hts hin0 hown hK hP 0 rfl rfl 2 (by decide) (hts (.fieldLink RX1 17 "MeanLocks$Locks" "atLeast" "[[I") (List.mem_of_getElem? (i := 1) rfl)) (fun _ h9 => h9) rfl dX1_lock_15 ?_
        refine lv_iload hx hb dX1_lock_18 (lv_at hl 0 rfl) ?_
        obtain ⟨hi2, h1⟩ := ax_some h1
        refine x_aldA hx hb hK hP 2 4 rfl rfl hi2 rfl dX1_lock_20 ?_
        refine lv_iload_n hx hb dX1_lock_21 rfl (lv_at hl 4 rfl) ?_
        refine lv_dup2_11 hx hb dX1_lock_22 rfl rfl ?_
        obtain ⟨hi, h1⟩ := ax_some h1
        refine va_iald hx hb hK hP (13 + (x2 : Int32).toNatClampNeg) 0 (wL_rg cA h ad s3 hi2) rfl hi dX1_lock_23 ?_
        refine lv_iload hx hb dX1_lock_24 (lv_at hl 1 rfl) ?_
        refine lv_ior hx hb dX1_lock_26 ?_
        obtain ⟨hi, h1⟩ := ax_some h1
        obtain ⟨s4, es4, h1⟩ := nm_some h1
        refine x_iast (ws' := wL cA h ad s4) hC hK hP hD hS (13 + (x2 : Int32).toNatClampNeg) 0 (wL_rg cA h ad s3 hi2) rfl (by rw [es4]; exact wL_rs cA h ad s3 _ hi2) hi dX1_lock_27 (fun H locs hP hD hS => ?_)
        obtain ⟨v5, ev5, h1⟩ := nm_some h1
        refine lv_iinc (v := v5) (lv' := [(5, .int v5), (4, .int v1), (0, .ref h), (1, .int a1), (2, .int a2), (3, .int a3)]) hx hb dX1_lock_28 hl (k := 0) rfl (by rw [ev5]; rfl) (by decide) rfl (fun ls hl => ?_)
        refine lv_goto (tgt := 8) hx hb dX1_lock_31 (by decide) ?_
        have hc := lp_l h1 hz1
        exact ih1 v5 s4 hc _ _ hP hD hS ls (lv_sub hl [0, 1, 2, 3, 4, 5] rfl)
  exact LP1 FU (1 : Int32) σ hl1 _ _ hP hD hS ls hl
def bX1_give_3 (a1 : Int32) (a2 : Int32) (a4 : Int32) (x1 : Int32) (s2 : St) : Option ((Int32 × St) ⊕ (Int32 × St)) := if a4 ≤ x1 then (some (.inr (x1, s2))) else (bnd (fX1_lock a1 x1 a2 s2) fun s4 => nm (x1 + (1 : Int32)) fun v5 => some (.inl (v5, s4)))
def fX1_give (a1 : Int32) (a2 : Int32) (a3 : Int32) (a4 : Int32) (σ : St) : Option St := bnd (lp (fun t : (Int32 × St) => bX1_give_3 a1 a2 a4 t.1 t.2) FU (a3, σ)) (fun e : (Int32 × St) => nm e.1 fun x6 => nm e.2 fun s7 => ax a1 8 (ax a1 8 (nm (put s7 9 (upd (s7 9) (a1 : Int32).toNatClampNeg ((s7 9 (a1 : Int32).toNatClampNeg) + (1 : Int32)))) fun s8 => some s8)))
abbrev rmX1_give : Room := { frames := 1, cells := 0, slots := 0, locals := 25 }
set_option maxHeartbeats 4000000 in
set_option maxRecDepth 100000 in
theorem kX1_give (l : Launch) (dC : Nat → ClassId) (dI : Nat → Nat → Nat) (cA : Nat → ClassId) (h : Nat) (ad : Nat → Nat) (a1 : Int32) (a2 : Int32) (a3 : Int32) (a4 : Int32) (σ : St) (σ' : St) (h0 : fX1_give a1 a2 a3 a4 σ = some σ') : CV l yX1_give wsX1_give rmX1_give (dC, dI) vwCl (tysW cA) [.ref h, .int a1, .int a2, .int a3, .int a4] (wL cA h ad σ) (wL cA h ad σ') := by
  refine CGV_of (cc := cX1_give) (nL := 6) (ret := none) (by decide) rfl (Nat.le_of_ble_eq_true rfl) ?_
  intro p e s m av below meth c A ls hC hl
  obtain ⟨hC, hr, hlocks, hV, hN, hK, hP, hD, hS, hA⟩ := hC
  have hC : CallFix p m c cX1_give 6 s _ wsX1_give RX1 := hC
  obtain ⟨hx, hb, hml, hown, hts⟩ := id hC
  have hin0 : ∀ w ∈ u_ws RX1 TX1 16, w ∈ wsX1_give := fun _ h => (List.mem_cons_of_mem _ (List.mem_append_right _ h))
  have hl : lv_has ls 6 [(0, .ref h), (1, .int a1), (2, .int a2), (3, .int a3), (4, .int a4)] := hl
  unfold fX1_give at h0
  refine lv_iload_n hx hb dX1_give_0 rfl (lv_at hl 3 rfl) ?_
  refine lv_istore (lv' := [(5, .int a3), (0, .ref h), (1, .int a1), (2, .int a2), (3, .int a3), (4, .int a4)]) hx hb dX1_give_1 hl (by decide) rfl (fun ls hl => ?_)
  obtain ⟨ε1, hl1, h0⟩ := bnd_some h0
  have KN1 : ∀ (x6 : Int32) (s7 : St), ε1 = (x6, s7) → ∀ (H : Heap) (locs : List Loc), va_P (dC, dI) vwCl (wL cA h ad s7) H → va_D A (wL cA h ad s7) → va_S A s.heap H locs → ∀ (ls : Array Slot), lv_has ls 6 [(5, .int x6), (0, .ref h), (1, .int a1), (2, .int a2), (3, .int a3), (4, .int a4)] → W p l e (headSpec wsX1_give rmX1_give).room s m av below meth c H locs 0 0 (MQ below (qV (dC, dI) A (wL cA h ad σ')) av s 0 0 A) (F0 m 24 ls []) := by
    intro x6 s7 hε H locs hP hD hS ls hl
    rw [hε] at h0
    have h0 := nm_at (z := x6) rfl h0
    have h0 := nm_at (z := s7) rfl h0
    refine lv_aload_n hx hb dX1_give_24 rfl (lv_at hl 1 rfl) ?_
    refine va_get (D := (dC, dI)) (ci := 1) (v := .ref (ad 9)) (C := RX1) (T := TX1) (N := 16) hx hb hts hin0 hown hK hP 0 rfl rfl 9 (by decide) (hts (.fieldLink RX1 35 "MeanLocks$Locks" "given" "[I") (List.mem_of_getElem? (i := 1) rfl)) (fun _ h9 => h9) rfl dX1_give_25 ?_
    refine lv_iload_n hx hb dX1_give_28 rfl (lv_at hl 2 rfl) ?_
    refine lv_dup2_11 hx hb dX1_give_29 rfl rfl ?_
    obtain ⟨hi, h0⟩ := ax_some h0
    refine va_iald hx hb hK hP 8 0 rfl rfl hi dX1_give_30 ?_
    refine lv_iconst (v := (1 : Int32)) hx hb dX1_give_31 (by decide) ?_
    refine lv_iadd hx hb dX1_give_32 ?_
    obtain ⟨hi, h0⟩ := ax_some h0
    obtain ⟨s8, es8, h0⟩ := nm_some h0
    refine x_iast (ws' := wL cA h ad s8) hC hK hP hD hS 8 0 rfl rfl (by rw [es8]; exact wL_s9 _ _ _ _ _) hi dX1_give_33 (fun H locs hP hD hS => ?_)
    have e1 := Option.some.inj h0
    exact x_retV hC hr hlocks hP hD hS dX1_give_34 (by rw [← e1])
  have LP1 : ∀ (n : Nat) (x1 : Int32) (s2 : St), lp (fun t : (Int32 × St) => bX1_give_3 a1 a2 a4 t.1 t.2) n (x1, s2) = some ε1 → ∀ (H : Heap) (locs : List Loc), va_P (dC, dI) vwCl (wL cA h ad s2) H → va_D A (wL cA h ad s2) → va_S A s.heap H locs → ∀ (ls : Array Slot), lv_has ls 6 [(5, .int x1), (0, .ref h), (1, .int a1), (2, .int a2), (3, .int a3), (4, .int a4)] → W p l e (headSpec wsX1_give rmX1_give).room s m av below meth c H locs 0 0 (MQ below (qV (dC, dI) A (wL cA h ad σ')) av s 0 0 A) (F0 m 3 ls []) := by
    intro n
    induction n with
    | zero => intro x1 s2 hl0; exact (lp_0 hl0).elim
    | succ n ih1 =>
      intro x1 s2 hl0 H locs hP hD hS ls hl
      obtain ⟨z1, h1, hz1⟩ := lp_s hl0
      have h1 : bX1_give_3 a1 a2 a4 x1 s2 = some z1 := h1
      unfold bX1_give_3 at h1
      refine lv_iload hx hb dX1_give_3 (lv_at hl 0 rfl) ?_
      refine lv_iload hx hb dX1_give_5 (lv_at hl 5 rfl) ?_
      refine lv_icmp_ge (tgt := 24) hx hb dX1_give_7 (by decide) (fun hc => ?_) (fun hc => ?_)
      · have h1 := it_t h1 hc
        have he := lp_r h1 hz1
        exact KN1 x1 s2 he _ _ hP hD hS ls (lv_sub hl [0, 1, 2, 3, 4, 5] rfl)
      · have h1 := it_f h1 hc
        refine lv_aload_n hx hb dX1_give_10 rfl (lv_at hl 1 rfl) ?_
        refine lv_iload_n hx hb dX1_give_11 rfl (lv_at hl 2 rfl) ?_
        refine lv_iload hx hb dX1_give_12 (lv_at hl 0 rfl) ?_
        refine lv_iload_n hx hb dX1_give_14 rfl (lv_at hl 3 rfl) ?_
        obtain ⟨s4, hf2, h1⟩ := bnd_some h1
        refine x_VV (As := [.int a1, .int x1, .int a2]) (rest := []) hC (kX1_lock l dC dI cA h ad a1 x1 a2 s2 s4 hf2) (cwV 3 hts gX1_give_X1_lock rfl rfl rfl (by decide +kernel) ⟨Nat.le_of_ble_eq_true rfl, Nat.le_of_ble_eq_true rfl⟩) 0 1 hV hN hK hP hD hS hA rfl rfl rfl rfl hl.1 rfl (Nat.le_of_ble_eq_true rfl) ⟨Nat.zero_le _, Nat.zero_le _⟩ dX1_give_15 (fun H locs hP hD hS => ?_)
        obtain ⟨v5, ev5, h1⟩ := nm_some h1
        refine lv_iinc (v := v5) (lv' := [(5, .int v5), (0, .ref h), (1, .int a1), (2, .int a2), (3, .int a3), (4, .int a4)]) hx hb dX1_give_18 hl (k := 0) rfl (by rw [ev5]; rfl) (by decide) rfl (fun ls hl => ?_)
        refine lv_goto (tgt := 3) hx hb dX1_give_21 (by decide) ?_
        have hc := lp_l h1 hz1
        exact ih1 v5 s4 hc _ _ hP hD hS ls (lv_sub hl [0, 1, 2, 3, 4, 5] rfl)
  exact LP1 FU a3 σ hl1 _ _ hP hD hS ls hl
def fX1_kindAt (a1 : Int32) (a2 : Int32) (σ : St) : Option Int32 := nm ((1 : Int32) <<< (a1 &&& 31)) fun v1 => ax (3 : Int32) 4 (ax a2 300 (if (((σ (16 + ((3 : Int32) : Int32).toNatClampNeg) (a2 : Int32).toNatClampNeg) &&& v1) : Int32) = (0 : Int32) then (ax (2 : Int32) 4 (ax a2 300 (if (((σ (16 + ((2 : Int32) : Int32).toNatClampNeg) (a2 : Int32).toNatClampNeg) &&& v1) : Int32) = (0 : Int32) then (ax (1 : Int32) 4 (ax a2 300 (if (((σ (16 + ((1 : Int32) : Int32).toNatClampNeg) (a2 : Int32).toNatClampNeg) &&& v1) : Int32) = (0 : Int32) then (some (0 : Int32)) else (some (1 : Int32))))) else (some (2 : Int32))))) else (some (3 : Int32))))
abbrev rmX1_kindAt : Room := { frames := 0, cells := 0, slots := 0, locals := 0 }
set_option maxHeartbeats 4000000 in
set_option maxRecDepth 100000 in
theorem kX1_kindAt (l : Launch) (dC : Nat → ClassId) (dI : Nat → Nat → Nat) (cA : Nat → ClassId) (h : Nat) (ad : Nat → Nat) (a1 : Int32) (a2 : Int32) (σ : St) (R0 : Int32) (h0 : fX1_kindAt a1 a2 σ = some R0) : CI l yX1_kindAt wsX1_kindAt rmX1_kindAt (dC, dI) vwCl (tysW cA) [.ref h, .int a1, .int a2] (wL cA h ad σ) R0 (wL cA h ad σ) := by
  refine CGI_of (cc := cX1_kindAt) (nL := 4) (ret := (some .int)) (by decide) rfl (Nat.le_of_ble_eq_true rfl) ?_
  intro p e s m av below meth c A ls hC hl
  obtain ⟨hC, hr, hlocks, hV, hN, hK, hP, hD, hS, hA⟩ := hC
  have hC : CallFix p m c cX1_kindAt 4 s _ wsX1_kindAt RX1 := hC
  obtain ⟨hx, hb, hml, hown, hts⟩ := id hC
  have hin0 : ∀ w ∈ u_ws RX1 TX1 16, w ∈ wsX1_kindAt := fun _ h => (List.mem_cons_of_mem _ (List.mem_append_right _ h))
  have hl : lv_has ls 4 [(0, .ref h), (1, .int a1), (2, .int a2)] := hl
  unfold fX1_kindAt at h0
  refine lv_iconst (v := (1 : Int32)) hx hb dX1_kindAt_0 (by decide) ?_
  refine lv_iload_n hx hb dX1_kindAt_1 rfl (lv_at hl 1 rfl) ?_
  refine lv_ishl hx hb dX1_kindAt_2 ?_
  refine lv_topi (fun v1 ev1 => ?_)
  have h0 := nm_at ev1 h0
  refine lv_istore_n (lv' := [(3, .int v1), (0, .ref h), (1, .int a1), (2, .int a2)]) hx hb dX1_kindAt_3 rfl hl (by decide) rfl (fun ls hl => ?_)
  refine lv_aload_n hx hb dX1_kindAt_4 rfl (lv_at hl 1 rfl) ?_
  refine va_get (D := (dC, dI)) (ci := 1) (v := .ref (ad 2)) (C := RX1) (T := TX1) (N := 16) hx hb hts hin0 hown hK hP 0 rfl rfl 2 (by decide) (hts (.fieldLink RX1 17 "MeanLocks$Locks" "atLeast" "[[I") (List.mem_of_getElem? (i := 1) rfl)) (fun _ h9 => h9) rfl dX1_kindAt_5 ?_
  refine lv_iconst (v := (3 : Int32)) hx hb dX1_kindAt_8 (by decide) ?_
  obtain ⟨hi1, h0⟩ := ax_some h0
  refine x_aldA hx hb hK hP 2 4 rfl rfl hi1 rfl dX1_kindAt_9 ?_
  refine lv_iload_n hx hb dX1_kindAt_10 rfl (lv_at hl 3 rfl) ?_
  obtain ⟨hi, h0⟩ := ax_some h0
  refine va_iald hx hb hK hP (13 + ((3 : Int32) : Int32).toNatClampNeg) 0 (wL_rg cA h ad σ hi1) rfl hi dX1_kindAt_11 ?_
  refine lv_iload_n hx hb dX1_kindAt_12 rfl (lv_at hl 0 rfl) ?_
  refine lv_iand hx hb dX1_kindAt_13 ?_
  refine lv_if_eq (tgt := 19) hx hb dX1_kindAt_14 (by decide) (fun hc => ?_) (fun hc => ?_)
  · have h0 := it_t h0 hc
    refine lv_aload_n hx hb dX1_kindAt_19 rfl (lv_at hl 1 rfl) ?_
    refine va_get (D := (dC, dI)) (ci := 1) (v := .ref (ad 2)) (C := RX1) (T := TX1) (N := 16) hx hb hts hin0 hown hK hP 0 rfl rfl 2 (by decide) (hts (.fieldLink RX1 17 "MeanLocks$Locks" "atLeast" "[[I") (List.mem_of_getElem? (i := 1) rfl)) (fun _ h9 => h9) rfl dX1_kindAt_20 ?_
    refine lv_iconst (v := (2 : Int32)) hx hb dX1_kindAt_23 (by decide) ?_
    obtain ⟨hi2, h0⟩ := ax_some h0
    refine x_aldA hx hb hK hP 2 4 rfl rfl hi2 rfl dX1_kindAt_24 ?_
    refine lv_iload_n hx hb dX1_kindAt_25 rfl (lv_at hl 3 rfl) ?_
    obtain ⟨hi, h0⟩ := ax_some h0
    refine va_iald hx hb hK hP (13 + ((2 : Int32) : Int32).toNatClampNeg) 0 (wL_rg cA h ad σ hi2) rfl hi dX1_kindAt_26 ?_
    refine lv_iload_n hx hb dX1_kindAt_27 rfl (lv_at hl 0 rfl) ?_
    refine lv_iand hx hb dX1_kindAt_28 ?_
    refine lv_if_eq (tgt := 34) hx hb dX1_kindAt_29 (by decide) (fun hc => ?_) (fun hc => ?_)
    · have h0 := it_t h0 hc
      refine lv_aload_n hx hb dX1_kindAt_34 rfl (lv_at hl 1 rfl) ?_
      refine va_get (D := (dC, dI)) (ci := 1) (v := .ref (ad 2)) (C := RX1) (T := TX1) (N := 16) hx hb hts hin0 hown hK hP 0 rfl rfl 2 (by decide) (hts (.fieldLink RX1 17 "MeanLocks$Locks" "atLeast" "[[I") (List.mem_of_getElem? (i := 1) rfl)) (fun _ h9 => h9) rfl dX1_kindAt_35 ?_
      refine lv_iconst (v := (1 : Int32)) hx hb dX1_kindAt_38 (by decide) ?_
      obtain ⟨hi3, h0⟩ := ax_some h0
      refine x_aldA hx hb hK hP 2 4 rfl rfl hi3 rfl dX1_kindAt_39 ?_
      refine lv_iload_n hx hb dX1_kindAt_40 rfl (lv_at hl 3 rfl) ?_
      obtain ⟨hi, h0⟩ := ax_some h0
      refine va_iald hx hb hK hP (13 + ((1 : Int32) : Int32).toNatClampNeg) 0 (wL_rg cA h ad σ hi3) rfl hi dX1_kindAt_41 ?_
      refine lv_iload_n hx hb dX1_kindAt_42 rfl (lv_at hl 0 rfl) ?_
      refine lv_iand hx hb dX1_kindAt_43 ?_
      refine lv_if_eq (tgt := 51) hx hb dX1_kindAt_44 (by decide) (fun hc => ?_) (fun hc => ?_)
      · have h0 := it_t h0 hc
        refine lv_iconst (v := (0 : Int32)) hx hb dX1_kindAt_51 (by decide) ?_
        have e1 := Option.some.inj h0
        exact x_retI hC hr hlocks rfl hP hD hS dX1_kindAt_52 ⟨e1, rfl⟩
      · have h0 := it_f h0 hc
        refine lv_iconst (v := (1 : Int32)) hx hb dX1_kindAt_47 (by decide) ?_
        refine lv_goto (tgt := 52) hx hb dX1_kindAt_48 (by decide) ?_
        have e1 := Option.some.inj h0
        exact x_retI hC hr hlocks rfl hP hD hS dX1_kindAt_52 ⟨e1, rfl⟩
    · have h0 := it_f h0 hc
      refine lv_iconst (v := (2 : Int32)) hx hb dX1_kindAt_32 (by decide) ?_
      have e1 := Option.some.inj h0
      exact x_retI hC hr hlocks rfl hP hD hS dX1_kindAt_33 ⟨e1, rfl⟩
  · have h0 := it_f h0 hc
    refine lv_iconst (v := (3 : Int32)) hx hb dX1_kindAt_17 (by decide) ?_
    have e1 := Option.some.inj h0
    exact x_retI hC hr hlocks rfl hP hD hS dX1_kindAt_18 ⟨e1, rfl⟩
def fX0_settle (a1 : Int32) (σ : St) : Option (Int32 × St) := if (a1 : Int32) < (0 : Int32) then (some (a1, σ)) else (nm (put σ 1 (fun _ => ((σ 1 0) + (1 : Int32)) - ((σ 1 0) + (1 : Int32)) / (7 : Int32) * (7 : Int32))) fun s1 => nm (put s1 2 (fun _ => (if ((6 : Int32) : Int32) < ((s1 2 0) + (1 : Int32)) then (6 : Int32) else ((s1 2 0) + (1 : Int32))))) fun s2 => some (a1, s2))
abbrev rmX0_settle : Room := { frames := 1, cells := 0, slots := 0, locals := 22 }
set_option maxHeartbeats 4000000 in
set_option maxRecDepth 100000 in
theorem kX0_settle (l : Launch) (dC : Nat → ClassId) (dI : Nat → Nat → Nat) (cA : Nat → ClassId) (h : Nat) (ad : Nat → Nat) (a1 : Int32) (σ : St) (R0 : Int32) (σ' : St) (h0 : fX0_settle a1 σ = some (R0, σ')) : CI l yX0_settle wsX0_settle rmX0_settle (dC, dI) vwCl (tysW cA) [.ref h, .int a1] (wH cA h ad σ) R0 (wH cA h ad σ') := by
  refine CGI_of (cc := cX0_settle) (nL := 2) (ret := (some .int)) (by decide) rfl (Nat.le_of_ble_eq_true rfl) ?_
  intro p e s m av below meth c A ls hC hl
  obtain ⟨hC, hr, hlocks, hV, hN, hK, hP, hD, hS, hA⟩ := hC
  have hC : CallFix p m c cX0_settle 2 s _ wsX0_settle RX0 := hC
  obtain ⟨hx, hb, hml, hown, hts⟩ := id hC
  have hin0 : ∀ w ∈ u_ws RX0 TX0 3, w ∈ wsX0_settle := fun _ h => (List.mem_cons_of_mem _ (List.mem_append_right _ h))
  have hl : lv_has ls 2 [(0, .ref h), (1, .int a1)] := hl
  unfold fX0_settle at h0
  refine lv_iload_n hx hb dX0_settle_0 rfl (lv_at hl 1 rfl) ?_
  refine lv_if_lt (tgt := 32) hx hb dX0_settle_1 (by decide) (fun hc => ?_) (fun hc => ?_)
  · have h0 := it_t h0 hc
    refine lv_iload_n hx hb dX0_settle_32 rfl (lv_at hl 1 rfl) ?_
    obtain ⟨e1, e2⟩ := Prod.mk.inj (Option.some.inj h0)
    exact x_retI hC hr hlocks rfl hP hD hS dX0_settle_33 ⟨e1, by rw [← e2]⟩
  · have h0 := it_f h0 hc
    refine lv_aload_n hx hb dX0_settle_4 rfl (lv_at hl 0 rfl) ?_
    refine lv_aload_n hx hb dX0_settle_5 rfl (lv_at hl 0 rfl) ?_
    refine va_get (D := (dC, dI)) (ci := 0) (v := .int (σ 1 0)) (C := RX0) (T := TX0) (N := 3) hx hb hts hin0 hown hK hP 0 rfl rfl 1 (by decide) (hts (.fieldLink RX0 17 "MeanLocks$History" "spare" "I") (List.mem_of_getElem? (i := 1) rfl)) (fun _ h9 => h9) rfl dX0_settle_6 ?_
    refine lv_iconst (v := (1 : Int32)) hx hb dX0_settle_9 (by decide) ?_
    refine lv_iadd hx hb dX0_settle_10 ?_
    refine lv_bipush (v := (7 : Int32)) hx hb dX0_settle_11 (by decide) ?_
    refine lv_irem hx hb dX0_settle_13 (by decide) ?_
    obtain ⟨s1, es1, h0⟩ := nm_some h0
    refine x_put (D := (dC, dI)) (ws' := wH cA h ad s1) (ci := 0) (fs := [.ref (ad 0), .int (σ 1 0), .int (σ 2 0)]) (v := .int (((σ 1 0) + (1 : Int32)) - ((σ 1 0) + (1 : Int32)) / (7 : Int32) * (7 : Int32))) (ty := .int) (C := RX0) (T := TX0) (N := 3) hC hin0 tyX0 tyX0_ok nmX0 hK hP hD hS 0 rfl rfl 1 (by decide) (hts (.fieldLink RX0 17 "MeanLocks$History" "spare" "I") (List.mem_of_getElem? (i := 1) rfl)) rfl rfl rfl rfl (by decide +kernel) (Nat.le_of_ble_eq_true rfl) (by rw [es1]; exact wH_s1 _ _ _ _ _) dX0_settle_14 (fun H locs hP hD hS => ?_)
    refine lv_aload_n hx hb dX0_settle_17 rfl (lv_at hl 0 rfl) ?_
    refine lv_aload_n hx hb dX0_settle_18 rfl (lv_at hl 0 rfl) ?_
    refine va_get (D := (dC, dI)) (ci := 0) (v := .int (s1 2 0)) (C := RX0) (T := TX0) (N := 3) hx hb hts hin0 hown hK hP 0 rfl rfl 2 (by decide) (hts (.fieldLink RX0 26 "MeanLocks$History" "kept" "I") (List.mem_of_getElem? (i := 2) rfl)) (fun _ h9 => h9) rfl dX0_settle_19 ?_
    refine lv_iconst (v := (1 : Int32)) hx hb dX0_settle_22 (by decide) ?_
    refine lv_iadd hx hb dX0_settle_23 ?_
    refine lv_bipush (v := (6 : Int32)) hx hb dX0_settle_24 (by decide) ?_
    refine va_mmin hx hb (by rw [hml]; exact hl.1.symm) hown (hts (.methodLink RX0 29 Lib.Math.min.name) (List.mem_of_getElem? (i := 3) rfl)) (hts (.static Lib.Math.min.name) (List.mem_of_getElem? (i := 4) rfl)) (hts (.initialized "java/lang/Math") (List.mem_of_getElem? (i := 5) rfl)) (hts (.code Lib.Math.min.name Lib.Math.min.code 2 (some .int)) (List.mem_of_getElem? (i := 6) rfl)) (Nat.le_of_ble_eq_true rfl) (Nat.le_of_ble_eq_true rfl) (Nat.zero_le _) (Nat.zero_le _) dX0_settle_26 ?_
    obtain ⟨s2, es2, h0⟩ := nm_some h0
    refine x_put (D := (dC, dI)) (ws' := wH cA h ad s2) (ci := 0) (fs := [.ref (ad 0), .int (s1 1 0), .int (s1 2 0)]) (v := .int (if ((6 : Int32) : Int32) < ((s1 2 0) + (1 : Int32)) then (6 : Int32) else ((s1 2 0) + (1 : Int32)))) (ty := .int) (C := RX0) (T := TX0) (N := 3) hC hin0 tyX0 tyX0_ok nmX0 hK hP hD hS 0 rfl rfl 2 (by decide) (hts (.fieldLink RX0 26 "MeanLocks$History" "kept" "I") (List.mem_of_getElem? (i := 2) rfl)) rfl rfl rfl rfl (by decide +kernel) (Nat.le_of_ble_eq_true rfl) (by rw [es2]; exact wH_s2 _ _ _ _ _) dX0_settle_29 (fun H locs hP hD hS => ?_)
    refine lv_iload_n hx hb dX0_settle_32 rfl (lv_at hl 1 rfl) ?_
    obtain ⟨e1, e2⟩ := Prod.mk.inj (Option.some.inj h0)
    exact x_retI hC hr hlocks rfl hP hD hS dX0_settle_33 ⟨e1, by rw [← e2]⟩
def bX1_become_48 (τ : St) (x6 : Int32) (s7 : St) : Option ((Int32 × St) ⊕ (Int32 × St)) := if (3 : Int32) < x6 then (some (.inr (x6, s7))) else (ax x6 4 (ax x6 4 (nm (put s7 (16 + (x6 : Int32).toNatClampNeg) (va_cpy (τ (16 + (x6 : Int32).toNatClampNeg)) (s7 (16 + (x6 : Int32).toNatClampNeg)) ((0 : Int32) : Int32).toNatClampNeg ((0 : Int32) : Int32).toNatClampNeg ((300 : Int32) : Int32).toNatClampNeg)) fun s8 => nm (x6 + (1 : Int32)) fun v9 => some (.inl (v9, s8)))))
def fX1_become (τ : St) (σ : St) : Option St := nm (put σ 1 (fun _ => τ 1 0)) fun s1 => nm (put s1 4 (fun _ => τ 4 0)) fun s2 => nm (put s2 13 (fun _ => τ 13 0)) fun s3 => nm (put s3 14 (fun _ => τ 14 0)) fun s4 => nm (put s4 0 (va_cpy (τ 0) (s4 0) ((0 : Int32) : Int32).toNatClampNeg ((0 : Int32) : Int32).toNatClampNeg ((3 : Int32) : Int32).toNatClampNeg)) fun s5 => bnd (lp (fun t : (Int32 × St) => bX1_become_48 τ t.1 t.2) FU ((1 : Int32), s5)) (fun e : (Int32 × St) => nm e.1 fun x10 => nm e.2 fun s11 => nm (put s11 3 (va_cpy (τ 3) (s11 3) ((0 : Int32) : Int32).toNatClampNeg ((0 : Int32) : Int32).toNatClampNeg ((8 : Int32) : Int32).toNatClampNeg)) fun s12 => nm (put s12 5 (va_cpy (τ 5) (s12 5) ((0 : Int32) : Int32).toNatClampNeg ((0 : Int32) : Int32).toNatClampNeg ((8 : Int32) : Int32).toNatClampNeg)) fun s13 => nm (put s13 6 (va_cpy (τ 6) (s13 6) ((0 : Int32) : Int32).toNatClampNeg ((0 : Int32) : Int32).toNatClampNeg ((8 : Int32) : Int32).toNatClampNeg)) fun s14 => nm (put s14 7 (va_cpy (τ 7) (s14 7) ((0 : Int32) : Int32).toNatClampNeg ((0 : Int32) : Int32).toNatClampNeg ((8 : Int32) : Int32).toNatClampNeg)) fun s15 => nm (put s15 8 (va_cpy (τ 8) (s15 8) ((0 : Int32) : Int32).toNatClampNeg ((0 : Int32) : Int32).toNatClampNeg ((8 : Int32) : Int32).toNatClampNeg)) fun s16 => nm (put s16 9 (va_cpy (τ 9) (s16 9) ((0 : Int32) : Int32).toNatClampNeg ((0 : Int32) : Int32).toNatClampNeg ((8 : Int32) : Int32).toNatClampNeg)) fun s17 => nm (put s17 10 (va_cpy (τ 10) (s17 10) ((0 : Int32) : Int32).toNatClampNeg ((0 : Int32) : Int32).toNatClampNeg ((8 : Int32) : Int32).toNatClampNeg)) fun s18 => nm (put s18 11 (va_cpy (τ 11) (s18 11) ((0 : Int32) : Int32).toNatClampNeg ((0 : Int32) : Int32).toNatClampNeg ((8 : Int32) : Int32).toNatClampNeg)) fun s19 => nm (put s19 12 (va_cpy (τ 12) (s19 12) ((0 : Int32) : Int32).toNatClampNeg ((0 : Int32) : Int32).toNatClampNeg ((8 : Int32) : Int32).toNatClampNeg)) fun s20 => some s20)
abbrev rmX1_become : Room := { frames := 1, cells := 0, slots := 0, locals := 40 }
set_option maxHeartbeats 4000000 in
set_option maxRecDepth 100000 in
theorem kX1_become (l : Launch) (dC : Nat → ClassId) (dI : Nat → Nat → Nat) (cA : Nat → ClassId) (h : Nat) (ad : Nat → Nat) (h2 : Nat) (ad2 : Nat → Nat) (τ : St) (σ : St) (σ' : St) (h0 : fX1_become τ σ = some σ') : CV l yX1_become wsX1_become rmX1_become (dC, dI) vwCl (tysW cA) [.ref h, .ref h2] ((wL cA h ad σ ++ wL cA h2 ad2 τ)) ((wL cA h ad σ' ++ wL cA h2 ad2 τ)) := by
  refine CGV_of (cc := cX1_become) (nL := 3) (ret := none) (by decide) rfl (Nat.le_of_ble_eq_true rfl) ?_
  intro p e s m av below meth c A ls hC hl
  obtain ⟨hC, hr, hlocks, hV, hN, hK, hP, hD, hS, hA⟩ := hC
  have hC : CallFix p m c cX1_become 3 s _ wsX1_become RX1 := hC
  obtain ⟨hx, hb, hml, hown, hts⟩ := id hC
  have hin0 : ∀ w ∈ u_ws RX1 TX1 16, w ∈ wsX1_become := fun _ h => (List.mem_cons_of_mem _ (List.mem_append_right _ h))
  have hl : lv_has ls 3 [(0, .ref h), (1, .ref h2)] := hl
  unfold fX1_become at h0
  refine lv_aload_n hx hb dX1_become_0 rfl (lv_at hl 0 rfl) ?_
  refine lv_aload_n hx hb dX1_become_1 rfl (lv_at hl 1 rfl) ?_
  refine va_get (D := (dC, dI)) (ci := 1) (v := .int (τ 1 0)) (C := RX1) (T := TX1) (N := 16) hx hb hts hin0 hown hK hP 17 rfl rfl 1 (by decide) (hts (.fieldLink RX1 50 "MeanLocks$Locks" "tick" "I") (List.mem_of_getElem? (i := 1) rfl)) (fun _ h9 => h9) rfl dX1_become_2 ?_
  obtain ⟨s1, es1, h0⟩ := nm_some h0
  refine x_put (D := (dC, dI)) (ws' := (wL cA h ad s1 ++ wL cA h2 ad2 τ)) (ci := 1) (fs := [.ref (ad 0), .int (σ 1 0), .ref (ad 2), .ref (ad 3), .int (σ 4 0), .ref (ad 5), .ref (ad 6), .ref (ad 7), .ref (ad 8), .ref (ad 9), .ref (ad 10), .ref (ad 11), .ref (ad 12), .int (σ 13 0), .int (σ 14 0), .ref (ad 15)]) (v := .int (τ 1 0)) (ty := .int) (C := RX1) (T := TX1) (N := 16) hC hin0 tyX1 tyX1_ok nmX1 hK hP hD hS 0 rfl rfl 1 (by decide) (hts (.fieldLink RX1 50 "MeanLocks$Locks" "tick" "I") (List.mem_of_getElem? (i := 1) rfl)) rfl rfl rfl rfl (by decide +kernel) (Nat.le_of_ble_eq_true rfl) (by rw [es1]; rfl) dX1_become_5 (fun H locs hP hD hS => ?_)
  refine lv_aload_n hx hb dX1_become_8 rfl (lv_at hl 0 rfl) ?_
  refine lv_aload_n hx hb dX1_become_9 rfl (lv_at hl 1 rfl) ?_
  refine va_get (D := (dC, dI)) (ci := 1) (v := .int (τ 4 0)) (C := RX1) (T := TX1) (N := 16) hx hb hts hin0 hown hK hP 17 rfl rfl 4 (by decide) (hts (.fieldLink RX1 54 "MeanLocks$Locks" "waiting" "I") (List.mem_of_getElem? (i := 2) rfl)) (fun _ h9 => h9) rfl dX1_become_10 ?_
  obtain ⟨s2, es2, h0⟩ := nm_some h0
  refine x_put (D := (dC, dI)) (ws' := (wL cA h ad s2 ++ wL cA h2 ad2 τ)) (ci := 1) (fs := [.ref (ad 0), .int (s1 1 0), .ref (ad 2), .ref (ad 3), .int (s1 4 0), .ref (ad 5), .ref (ad 6), .ref (ad 7), .ref (ad 8), .ref (ad 9), .ref (ad 10), .ref (ad 11), .ref (ad 12), .int (s1 13 0), .int (s1 14 0), .ref (ad 15)]) (v := .int (τ 4 0)) (ty := .int) (C := RX1) (T := TX1) (N := 16) hC hin0 tyX1 tyX1_ok nmX1 hK hP hD hS 0 rfl rfl 4 (by decide) (hts (.fieldLink RX1 54 "MeanLocks$Locks" "waiting" "I") (List.mem_of_getElem? (i := 2) rfl)) rfl rfl rfl rfl (by decide +kernel) (Nat.le_of_ble_eq_true rfl) (by rw [es2]; rfl) dX1_become_13 (fun H locs hP hD hS => ?_)
  refine lv_aload_n hx hb dX1_become_16 rfl (lv_at hl 0 rfl) ?_
  refine lv_aload_n hx hb dX1_become_17 rfl (lv_at hl 1 rfl) ?_
  refine va_get (D := (dC, dI)) (ci := 1) (v := .int (τ 13 0)) (C := RX1) (T := TX1) (N := 16) hx hb hts hin0 hown hK hP 17 rfl rfl 13 (by decide) (hts (.fieldLink RX1 57 "MeanLocks$Locks" "gone" "I") (List.mem_of_getElem? (i := 3) rfl)) (fun _ h9 => h9) rfl dX1_become_18 ?_
  obtain ⟨s3, es3, h0⟩ := nm_some h0
  refine x_put (D := (dC, dI)) (ws' := (wL cA h ad s3 ++ wL cA h2 ad2 τ)) (ci := 1) (fs := [.ref (ad 0), .int (s2 1 0), .ref (ad 2), .ref (ad 3), .int (s2 4 0), .ref (ad 5), .ref (ad 6), .ref (ad 7), .ref (ad 8), .ref (ad 9), .ref (ad 10), .ref (ad 11), .ref (ad 12), .int (s2 13 0), .int (s2 14 0), .ref (ad 15)]) (v := .int (τ 13 0)) (ty := .int) (C := RX1) (T := TX1) (N := 16) hC hin0 tyX1 tyX1_ok nmX1 hK hP hD hS 0 rfl rfl 13 (by decide) (hts (.fieldLink RX1 57 "MeanLocks$Locks" "gone" "I") (List.mem_of_getElem? (i := 3) rfl)) rfl rfl rfl rfl (by decide +kernel) (Nat.le_of_ble_eq_true rfl) (by rw [es3]; rfl) dX1_become_21 (fun H locs hP hD hS => ?_)
  refine lv_aload_n hx hb dX1_become_24 rfl (lv_at hl 0 rfl) ?_
  refine lv_aload_n hx hb dX1_become_25 rfl (lv_at hl 1 rfl) ?_
  refine va_get (D := (dC, dI)) (ci := 1) (v := .int (τ 14 0)) (C := RX1) (T := TX1) (N := 16) hx hb hts hin0 hown hK hP 17 rfl rfl 14 (by decide) (hts (.fieldLink RX1 60 "MeanLocks$Locks" "breaks" "I") (List.mem_of_getElem? (i := 4) rfl)) (fun _ h9 => h9) rfl dX1_become_26 ?_
  obtain ⟨s4, es4, h0⟩ := nm_some h0
  refine x_put (D := (dC, dI)) (ws' := (wL cA h ad s4 ++ wL cA h2 ad2 τ)) (ci := 1) (fs := [.ref (ad 0), .int (s3 1 0), .ref (ad 2), .ref (ad 3), .int (s3 4 0), .ref (ad 5), .ref (ad 6), .ref (ad 7), .ref (ad 8), .ref (ad 9), .ref (ad 10), .ref (ad 11), .ref (ad 12), .int (s3 13 0), .int (s3 14 0), .ref (ad 15)]) (v := .int (τ 14 0)) (ty := .int) (C := RX1) (T := TX1) (N := 16) hC hin0 tyX1 tyX1_ok nmX1 hK hP hD hS 0 rfl rfl 14 (by decide) (hts (.fieldLink RX1 60 "MeanLocks$Locks" "breaks" "I") (List.mem_of_getElem? (i := 4) rfl)) rfl rfl rfl rfl (by decide +kernel) (Nat.le_of_ble_eq_true rfl) (by rw [es4]; rfl) dX1_become_29 (fun H locs hP hD hS => ?_)
  refine lv_aload_n hx hb dX1_become_32 rfl (lv_at hl 1 rfl) ?_
  refine va_get (D := (dC, dI)) (ci := 1) (v := .ref (ad2 0)) (C := RX1) (T := TX1) (N := 16) hx hb hts hin0 hown hK hP 17 rfl rfl 0 (by decide) (hts (.fieldLink RX1 9 "MeanLocks$Locks" "settings" "[I") (List.mem_of_getElem? (i := 5) rfl)) (fun _ h9 => h9) rfl dX1_become_33 ?_
  refine lv_iconst (v := (0 : Int32)) hx hb dX1_become_36 (by decide) ?_
  refine lv_aload_n hx hb dX1_become_37 rfl (lv_at hl 0 rfl) ?_
  refine va_get (D := (dC, dI)) (ci := 1) (v := .ref (ad 0)) (C := RX1) (T := TX1) (N := 16) hx hb hts hin0 hown hK hP 0 rfl rfl 0 (by decide) (hts (.fieldLink RX1 9 "MeanLocks$Locks" "settings" "[I") (List.mem_of_getElem? (i := 5) rfl)) (fun _ h9 => h9) rfl dX1_become_38 ?_
  refine lv_iconst (v := (0 : Int32)) hx hb dX1_become_41 (by decide) ?_
  refine lv_iconst (v := (3 : Int32)) hx hb dX1_become_42 (by decide) ?_
  obtain ⟨s5, es5, h0⟩ := nm_some h0
  refine x_copy (ws' := (wL cA h ad s5 ++ wL cA h2 ad2 τ)) hC (by rw [hml]; exact hl.1.symm) (hts (.methodLink RX1 63 arraycopyName) (List.mem_of_getElem? (i := 6) rfl)) (hts (.native arraycopyName) (List.mem_of_getElem? (i := 7) rfl)) (hts (.static arraycopyName) (List.mem_of_getElem? (i := 8) rfl)) (hts (.initialized "java/lang/System") (List.mem_of_getElem? (i := 9) rfl)) hK hP hD hS 18 1 0 0 rfl rfl rfl rfl rfl (sp := (0 : Int32)) (dp := (0 : Int32)) (n := (3 : Int32)) (by decide) (by decide) (by decide) (by decide) (by decide) (fun _ _ => rfl) (Nat.le_of_ble_eq_true rfl) (Nat.le_of_ble_eq_true rfl) (by rw [es5]; rfl) dX1_become_43 (fun H locs hP hD hS => ?_)
  refine lv_iconst (v := (1 : Int32)) hx hb dX1_become_46 (by decide) ?_
  refine lv_istore_n (lv' := [(2, .int (1 : Int32)), (0, .ref h), (1, .ref h2)]) hx hb dX1_become_47 rfl hl (by decide) rfl (fun ls hl => ?_)
  obtain ⟨ε1, hl1, h0⟩ := bnd_some h0
  have KN1 : ∀ (x10 : Int32) (s11 : St), ε1 = (x10, s11) → ∀ (H : Heap) (locs : List Loc), va_P (dC, dI) vwCl ((wL cA h ad s11 ++ wL cA h2 ad2 τ)) H → va_D A ((wL cA h ad s11 ++ wL cA h2 ad2 τ)) → va_S A s.heap H locs → ∀ (ls : Array Slot), lv_has ls 3 [(2, .int x10), (0, .ref h), (1, .ref h2)] → W p l e (headSpec wsX1_become rmX1_become).room s m av below meth c H locs 0 0 (MQ below (qV (dC, dI) A ((wL cA h ad σ' ++ wL cA h2 ad2 τ))) av s 0 0 A) (F0 m 79 ls []) := by
    intro x10 s11 hε H locs hP hD hS ls hl
    rw [hε] at h0
    have h0 := nm_at (z := x10) rfl h0
    have h0 := nm_at (z := s11) rfl h0
    refine lv_aload_n hx hb dX1_become_79 rfl (lv_at hl 2 rfl) ?_
    refine va_get (D := (dC, dI)) (ci := 1) (v := .ref (ad2 3)) (C := RX1) (T := TX1) (N := 16) hx hb hts hin0 hown hK hP 17 rfl rfl 3 (by decide) (hts (.fieldLink RX1 20 "MeanLocks$Locks" "row" "[I") (List.mem_of_getElem? (i := 11) rfl)) (fun _ h9 => h9) rfl dX1_become_80 ?_
    refine lv_iconst (v := (0 : Int32)) hx hb dX1_become_83 (by decide) ?_
    refine lv_aload_n hx hb dX1_become_84 rfl (lv_at hl 1 rfl) ?_
    refine va_get (D := (dC, dI)) (ci := 1) (v := .ref (ad 3)) (C := RX1) (T := TX1) (N := 16) hx hb hts hin0 hown hK hP 0 rfl rfl 3 (by decide) (hts (.fieldLink RX1 20 "MeanLocks$Locks" "row" "[I") (List.mem_of_getElem? (i := 11) rfl)) (fun _ h9 => h9) rfl dX1_become_85 ?_
    refine lv_iconst (v := (0 : Int32)) hx hb dX1_become_88 (by decide) ?_
    refine lv_bipush (v := (8 : Int32)) hx hb dX1_become_89 (by decide) ?_
    obtain ⟨s12, es12, h0⟩ := nm_some h0
    refine x_copy (ws' := (wL cA h ad s12 ++ wL cA h2 ad2 τ)) hC (by rw [hml]; exact hl.1.symm) (hts (.methodLink RX1 63 arraycopyName) (List.mem_of_getElem? (i := 6) rfl)) (hts (.native arraycopyName) (List.mem_of_getElem? (i := 7) rfl)) (hts (.static arraycopyName) (List.mem_of_getElem? (i := 8) rfl)) (hts (.initialized "java/lang/System") (List.mem_of_getElem? (i := 9) rfl)) hK hP hD hS 20 3 0 0 rfl rfl rfl rfl rfl (sp := (0 : Int32)) (dp := (0 : Int32)) (n := (8 : Int32)) (by decide) (by decide) (by decide) (by decide) (by decide) (fun _ _ => rfl) (Nat.le_of_ble_eq_true rfl) (Nat.le_of_ble_eq_true rfl) (by rw [es12]; rfl) dX1_become_91 (fun H locs hP hD hS => ?_)
    refine lv_aload_n hx hb dX1_become_94 rfl (lv_at hl 2 rfl) ?_
    refine va_get (D := (dC, dI)) (ci := 1) (v := .ref (ad2 5)) (C := RX1) (T := TX1) (N := 16) hx hb hts hin0 hown hK hP 17 rfl rfl 5 (by decide) (hts (.fieldLink RX1 23 "MeanLocks$Locks" "wanted" "[I") (List.mem_of_getElem? (i := 12) rfl)) (fun _ h9 => h9) rfl dX1_become_95 ?_
    refine lv_iconst (v := (0 : Int32)) hx hb dX1_become_98 (by decide) ?_
    refine lv_aload_n hx hb dX1_become_99 rfl (lv_at hl 1 rfl) ?_
    refine va_get (D := (dC, dI)) (ci := 1) (v := .ref (ad 5)) (C := RX1) (T := TX1) (N := 16) hx hb hts hin0 hown hK hP 0 rfl rfl 5 (by decide) (hts (.fieldLink RX1 23 "MeanLocks$Locks" "wanted" "[I") (List.mem_of_getElem? (i := 12) rfl)) (fun _ h9 => h9) rfl dX1_become_100 ?_
    refine lv_iconst (v := (0 : Int32)) hx hb dX1_become_103 (by decide) ?_
    refine lv_bipush (v := (8 : Int32)) hx hb dX1_become_104 (by decide) ?_
    obtain ⟨s13, es13, h0⟩ := nm_some h0
    refine x_copy (ws' := (wL cA h ad s13 ++ wL cA h2 ad2 τ)) hC (by rw [hml]; exact hl.1.symm) (hts (.methodLink RX1 63 arraycopyName) (List.mem_of_getElem? (i := 6) rfl)) (hts (.native arraycopyName) (List.mem_of_getElem? (i := 7) rfl)) (hts (.static arraycopyName) (List.mem_of_getElem? (i := 8) rfl)) (hts (.initialized "java/lang/System") (List.mem_of_getElem? (i := 9) rfl)) hK hP hD hS 21 4 0 0 rfl rfl rfl rfl rfl (sp := (0 : Int32)) (dp := (0 : Int32)) (n := (8 : Int32)) (by decide) (by decide) (by decide) (by decide) (by decide) (fun _ _ => rfl) (Nat.le_of_ble_eq_true rfl) (Nat.le_of_ble_eq_true rfl) (by rw [es13]; rfl) dX1_become_106 (fun H locs hP hD hS => ?_)
    refine lv_aload_n hx hb dX1_become_109 rfl (lv_at hl 2 rfl) ?_
    refine va_get (D := (dC, dI)) (ci := 1) (v := .ref (ad2 6)) (C := RX1) (T := TX1) (N := 16) hx hb hts hin0 hown hK hP 17 rfl rfl 6 (by decide) (hts (.fieldLink RX1 26 "MeanLocks$Locks" "from" "[I") (List.mem_of_getElem? (i := 13) rfl)) (fun _ h9 => h9) rfl dX1_become_110 ?_
    refine lv_iconst (v := (0 : Int32)) hx hb dX1_become_113 (by decide) ?_
    refine lv_aload_n hx hb dX1_become_114 rfl (lv_at hl 1 rfl) ?_
    refine va_get (D := (dC, dI)) (ci := 1) (v := .ref (ad 6)) (C := RX1) (T := TX1) (N := 16) hx hb hts hin0 hown hK hP 0 rfl rfl 6 (by decide) (hts (.fieldLink RX1 26 "MeanLocks$Locks" "from" "[I") (List.mem_of_getElem? (i := 13) rfl)) (fun _ h9 => h9) rfl dX1_become_115 ?_
    refine lv_iconst (v := (0 : Int32)) hx hb dX1_become_118 (by decide) ?_
    refine lv_bipush (v := (8 : Int32)) hx hb dX1_become_119 (by decide) ?_
    obtain ⟨s14, es14, h0⟩ := nm_some h0
    refine x_copy (ws' := (wL cA h ad s14 ++ wL cA h2 ad2 τ)) hC (by rw [hml]; exact hl.1.symm) (hts (.methodLink RX1 63 arraycopyName) (List.mem_of_getElem? (i := 6) rfl)) (hts (.native arraycopyName) (List.mem_of_getElem? (i := 7) rfl)) (hts (.static arraycopyName) (List.mem_of_getElem? (i := 8) rfl)) (hts (.initialized "java/lang/System") (List.mem_of_getElem? (i := 9) rfl)) hK hP hD hS 22 5 0 0 rfl rfl rfl rfl rfl (sp := (0 : Int32)) (dp := (0 : Int32)) (n := (8 : Int32)) (by decide) (by decide) (by decide) (by decide) (by decide) (fun _ _ => rfl) (Nat.le_of_ble_eq_true rfl) (Nat.le_of_ble_eq_true rfl) (by rw [es14]; rfl) dX1_become_121 (fun H locs hP hD hS => ?_)
    refine lv_aload_n hx hb dX1_become_124 rfl (lv_at hl 2 rfl) ?_
    refine va_get (D := (dC, dI)) (ci := 1) (v := .ref (ad2 7)) (C := RX1) (T := TX1) (N := 16) hx hb hts hin0 hown hK hP 17 rfl rfl 7 (by decide) (hts (.fieldLink RX1 29 "MeanLocks$Locks" "to" "[I") (List.mem_of_getElem? (i := 14) rfl)) (fun _ h9 => h9) rfl dX1_become_125 ?_
    refine lv_iconst (v := (0 : Int32)) hx hb dX1_become_128 (by decide) ?_
    refine lv_aload_n hx hb dX1_become_129 rfl (lv_at hl 1 rfl) ?_
    refine va_get (D := (dC, dI)) (ci := 1) (v := .ref (ad 7)) (C := RX1) (T := TX1) (N := 16) hx hb hts hin0 hown hK hP 0 rfl rfl 7 (by decide) (hts (.fieldLink RX1 29 "MeanLocks$Locks" "to" "[I") (List.mem_of_getElem? (i := 14) rfl)) (fun _ h9 => h9) rfl dX1_become_130 ?_
    refine lv_iconst (v := (0 : Int32)) hx hb dX1_become_133 (by decide) ?_
    refine lv_bipush (v := (8 : Int32)) hx hb dX1_become_134 (by decide) ?_
    obtain ⟨s15, es15, h0⟩ := nm_some h0
    refine x_copy (ws' := (wL cA h ad s15 ++ wL cA h2 ad2 τ)) hC (by rw [hml]; exact hl.1.symm) (hts (.methodLink RX1 63 arraycopyName) (List.mem_of_getElem? (i := 6) rfl)) (hts (.native arraycopyName) (List.mem_of_getElem? (i := 7) rfl)) (hts (.static arraycopyName) (List.mem_of_getElem? (i := 8) rfl)) (hts (.initialized "java/lang/System") (List.mem_of_getElem? (i := 9) rfl)) hK hP hD hS 23 6 0 0 rfl rfl rfl rfl rfl (sp := (0 : Int32)) (dp := (0 : Int32)) (n := (8 : Int32)) (by decide) (by decide) (by decide) (by decide) (by decide) (fun _ _ => rfl) (Nat.le_of_ble_eq_true rfl) (Nat.le_of_ble_eq_true rfl) (by rw [es15]; rfl) dX1_become_136 (fun H locs hP hD hS => ?_)
    refine lv_aload_n hx hb dX1_become_139 rfl (lv_at hl 2 rfl) ?_
    refine va_get (D := (dC, dI)) (ci := 1) (v := .ref (ad2 8)) (C := RX1) (T := TX1) (N := 16) hx hb hts hin0 hown hK hP 17 rfl rfl 8 (by decide) (hts (.fieldLink RX1 32 "MeanLocks$Locks" "waited" "[I") (List.mem_of_getElem? (i := 15) rfl)) (fun _ h9 => h9) rfl dX1_become_140 ?_
    refine lv_iconst (v := (0 : Int32)) hx hb dX1_become_143 (by decide) ?_
    refine lv_aload_n hx hb dX1_become_144 rfl (lv_at hl 1 rfl) ?_
    refine va_get (D := (dC, dI)) (ci := 1) (v := .ref (ad 8)) (C := RX1) (T := TX1) (N := 16) hx hb hts hin0 hown hK hP 0 rfl rfl 8 (by decide) (hts (.fieldLink RX1 32 "MeanLocks$Locks" "waited" "[I") (List.mem_of_getElem? (i := 15) rfl)) (fun _ h9 => h9) rfl dX1_become_145 ?_
    refine lv_iconst (v := (0 : Int32)) hx hb dX1_become_148 (by decide) ?_
    refine lv_bipush (v := (8 : Int32)) hx hb dX1_become_149 (by decide) ?_
    obtain ⟨s16, es16, h0⟩ := nm_some h0
    refine x_copy (ws' := (wL cA h ad s16 ++ wL cA h2 ad2 τ)) hC (by rw [hml]; exact hl.1.symm) (hts (.methodLink RX1 63 arraycopyName) (List.mem_of_getElem? (i := 6) rfl)) (hts (.native arraycopyName) (List.mem_of_getElem? (i := 7) rfl)) (hts (.static arraycopyName) (List.mem_of_getElem? (i := 8) rfl)) (hts (.initialized "java/lang/System") (List.mem_of_getElem? (i := 9) rfl)) hK hP hD hS 24 7 0 0 rfl rfl rfl rfl rfl (sp := (0 : Int32)) (dp := (0 : Int32)) (n := (8 : Int32)) (by decide) (by decide) (by decide) (by decide) (by decide) (fun _ _ => rfl) (Nat.le_of_ble_eq_true rfl) (Nat.le_of_ble_eq_true rfl) (by rw [es16]; rfl) dX1_become_151 (fun H locs hP hD hS => ?_)
    refine lv_aload_n hx hb dX1_become_154 rfl (lv_at hl 2 rfl) ?_
    refine va_get (D := (dC, dI)) (ci := 1) (v := .ref (ad2 9)) (C := RX1) (T := TX1) (N := 16) hx hb hts hin0 hown hK hP 17 rfl rfl 9 (by decide) (hts (.fieldLink RX1 35 "MeanLocks$Locks" "given" "[I") (List.mem_of_getElem? (i := 16) rfl)) (fun _ h9 => h9) rfl dX1_become_155 ?_
    refine lv_iconst (v := (0 : Int32)) hx hb dX1_become_158 (by decide) ?_
    refine lv_aload_n hx hb dX1_become_159 rfl (lv_at hl 1 rfl) ?_
    refine va_get (D := (dC, dI)) (ci := 1) (v := .ref (ad 9)) (C := RX1) (T := TX1) (N := 16) hx hb hts hin0 hown hK hP 0 rfl rfl 9 (by decide) (hts (.fieldLink RX1 35 "MeanLocks$Locks" "given" "[I") (List.mem_of_getElem? (i := 16) rfl)) (fun _ h9 => h9) rfl dX1_become_160 ?_
    refine lv_iconst (v := (0 : Int32)) hx hb dX1_become_163 (by decide) ?_
    refine lv_bipush (v := (8 : Int32)) hx hb dX1_become_164 (by decide) ?_
    obtain ⟨s17, es17, h0⟩ := nm_some h0
    refine x_copy (ws' := (wL cA h ad s17 ++ wL cA h2 ad2 τ)) hC (by rw [hml]; exact hl.1.symm) (hts (.methodLink RX1 63 arraycopyName) (List.mem_of_getElem? (i := 6) rfl)) (hts (.native arraycopyName) (List.mem_of_getElem? (i := 7) rfl)) (hts (.static arraycopyName) (List.mem_of_getElem? (i := 8) rfl)) (hts (.initialized "java/lang/System") (List.mem_of_getElem? (i := 9) rfl)) hK hP hD hS 25 8 0 0 rfl rfl rfl rfl rfl (sp := (0 : Int32)) (dp := (0 : Int32)) (n := (8 : Int32)) (by decide) (by decide) (by decide) (by decide) (by decide) (fun _ _ => rfl) (Nat.le_of_ble_eq_true rfl) (Nat.le_of_ble_eq_true rfl) (by rw [es17]; rfl) dX1_become_166 (fun H locs hP hD hS => ?_)
    refine lv_aload_n hx hb dX1_become_169 rfl (lv_at hl 2 rfl) ?_
    refine va_get (D := (dC, dI)) (ci := 1) (v := .ref (ad2 10)) (C := RX1) (T := TX1) (N := 16) hx hb hts hin0 hown hK hP 17 rfl rfl 10 (by decide) (hts (.fieldLink RX1 38 "MeanLocks$Locks" "begun" "[I") (List.mem_of_getElem? (i := 17) rfl)) (fun _ h9 => h9) rfl dX1_become_170 ?_
    refine lv_iconst (v := (0 : Int32)) hx hb dX1_become_173 (by decide) ?_
    refine lv_aload_n hx hb dX1_become_174 rfl (lv_at hl 1 rfl) ?_
    refine va_get (D := (dC, dI)) (ci := 1) (v := .ref (ad 10)) (C := RX1) (T := TX1) (N := 16) hx hb hts hin0 hown hK hP 0 rfl rfl 10 (by decide) (hts (.fieldLink RX1 38 "MeanLocks$Locks" "begun" "[I") (List.mem_of_getElem? (i := 17) rfl)) (fun _ h9 => h9) rfl dX1_become_175 ?_
    refine lv_iconst (v := (0 : Int32)) hx hb dX1_become_178 (by decide) ?_
    refine lv_bipush (v := (8 : Int32)) hx hb dX1_become_179 (by decide) ?_
    obtain ⟨s18, es18, h0⟩ := nm_some h0
    refine x_copy (ws' := (wL cA h ad s18 ++ wL cA h2 ad2 τ)) hC (by rw [hml]; exact hl.1.symm) (hts (.methodLink RX1 63 arraycopyName) (List.mem_of_getElem? (i := 6) rfl)) (hts (.native arraycopyName) (List.mem_of_getElem? (i := 7) rfl)) (hts (.static arraycopyName) (List.mem_of_getElem? (i := 8) rfl)) (hts (.initialized "java/lang/System") (List.mem_of_getElem? (i := 9) rfl)) hK hP hD hS 26 9 0 0 rfl rfl rfl rfl rfl (sp := (0 : Int32)) (dp := (0 : Int32)) (n := (8 : Int32)) (by decide) (by decide) (by decide) (by decide) (by decide) (fun _ _ => rfl) (Nat.le_of_ble_eq_true rfl) (Nat.le_of_ble_eq_true rfl) (by rw [es18]; rfl) dX1_become_181 (fun H locs hP hD hS => ?_)
    refine lv_aload_n hx hb dX1_become_184 rfl (lv_at hl 2 rfl) ?_
    refine va_get (D := (dC, dI)) (ci := 1) (v := .ref (ad2 11)) (C := RX1) (T := TX1) (N := 16) hx hb hts hin0 hown hK hP 17 rfl rfl 11 (by decide) (hts (.fieldLink RX1 41 "MeanLocks$Locks" "givenUp" "[I") (List.mem_of_getElem? (i := 18) rfl)) (fun _ h9 => h9) rfl dX1_become_185 ?_
    refine lv_iconst (v := (0 : Int32)) hx hb dX1_become_188 (by decide) ?_
    refine lv_aload_n hx hb dX1_become_189 rfl (lv_at hl 1 rfl) ?_
    refine va_get (D := (dC, dI)) (ci := 1) (v := .ref (ad 11)) (C := RX1) (T := TX1) (N := 16) hx hb hts hin0 hown hK hP 0 rfl rfl 11 (by decide) (hts (.fieldLink RX1 41 "MeanLocks$Locks" "givenUp" "[I") (List.mem_of_getElem? (i := 18) rfl)) (fun _ h9 => h9) rfl dX1_become_190 ?_
    refine lv_iconst (v := (0 : Int32)) hx hb dX1_become_193 (by decide) ?_
    refine lv_bipush (v := (8 : Int32)) hx hb dX1_become_194 (by decide) ?_
    obtain ⟨s19, es19, h0⟩ := nm_some h0
    refine x_copy (ws' := (wL cA h ad s19 ++ wL cA h2 ad2 τ)) hC (by rw [hml]; exact hl.1.symm) (hts (.methodLink RX1 63 arraycopyName) (List.mem_of_getElem? (i := 6) rfl)) (hts (.native arraycopyName) (List.mem_of_getElem? (i := 7) rfl)) (hts (.static arraycopyName) (List.mem_of_getElem? (i := 8) rfl)) (hts (.initialized "java/lang/System") (List.mem_of_getElem? (i := 9) rfl)) hK hP hD hS 27 10 0 0 rfl rfl rfl rfl rfl (sp := (0 : Int32)) (dp := (0 : Int32)) (n := (8 : Int32)) (by decide) (by decide) (by decide) (by decide) (by decide) (fun _ _ => rfl) (Nat.le_of_ble_eq_true rfl) (Nat.le_of_ble_eq_true rfl) (by rw [es19]; rfl) dX1_become_196 (fun H locs hP hD hS => ?_)
    refine lv_aload_n hx hb dX1_become_199 rfl (lv_at hl 2 rfl) ?_
    refine va_get (D := (dC, dI)) (ci := 1) (v := .ref (ad2 12)) (C := RX1) (T := TX1) (N := 16) hx hb hts hin0 hown hK hP 17 rfl rfl 12 (by decide) (hts (.fieldLink RX1 44 "MeanLocks$Locks" "longestWait" "[I") (List.mem_of_getElem? (i := 19) rfl)) (fun _ h9 => h9) rfl dX1_become_200 ?_
    refine lv_iconst (v := (0 : Int32)) hx hb dX1_become_203 (by decide) ?_
    refine lv_aload_n hx hb dX1_become_204 rfl (lv_at hl 1 rfl) ?_
    refine va_get (D := (dC, dI)) (ci := 1) (v := .ref (ad 12)) (C := RX1) (T := TX1) (N := 16) hx hb hts hin0 hown hK hP 0 rfl rfl 12 (by decide) (hts (.fieldLink RX1 44 "MeanLocks$Locks" "longestWait" "[I") (List.mem_of_getElem? (i := 19) rfl)) (fun _ h9 => h9) rfl dX1_become_205 ?_
    refine lv_iconst (v := (0 : Int32)) hx hb dX1_become_208 (by decide) ?_
    refine lv_bipush (v := (8 : Int32)) hx hb dX1_become_209 (by decide) ?_
    obtain ⟨s20, es20, h0⟩ := nm_some h0
    refine x_copy (ws' := (wL cA h ad s20 ++ wL cA h2 ad2 τ)) hC (by rw [hml]; exact hl.1.symm) (hts (.methodLink RX1 63 arraycopyName) (List.mem_of_getElem? (i := 6) rfl)) (hts (.native arraycopyName) (List.mem_of_getElem? (i := 7) rfl)) (hts (.static arraycopyName) (List.mem_of_getElem? (i := 8) rfl)) (hts (.initialized "java/lang/System") (List.mem_of_getElem? (i := 9) rfl)) hK hP hD hS 28 11 0 0 rfl rfl rfl rfl rfl (sp := (0 : Int32)) (dp := (0 : Int32)) (n := (8 : Int32)) (by decide) (by decide) (by decide) (by decide) (by decide) (fun _ _ => rfl) (Nat.le_of_ble_eq_true rfl) (Nat.le_of_ble_eq_true rfl) (by rw [es20]; rfl) dX1_become_211 (fun H locs hP hD hS => ?_)
    have e1 := Option.some.inj h0
    exact x_retV hC hr hlocks hP hD hS dX1_become_214 (by rw [← e1])
  have LP1 : ∀ (n : Nat) (x6 : Int32) (s7 : St), lp (fun t : (Int32 × St) => bX1_become_48 τ t.1 t.2) n (x6, s7) = some ε1 → ∀ (H : Heap) (locs : List Loc), va_P (dC, dI) vwCl ((wL cA h ad s7 ++ wL cA h2 ad2 τ)) H → va_D A ((wL cA h ad s7 ++ wL cA h2 ad2 τ)) → va_S A s.heap H locs → ∀ (ls : Array Slot), lv_has ls 3 [(2, .int x6), (0, .ref h), (1, .ref h2)] → W p l e (headSpec wsX1_become rmX1_become).room s m av below meth c H locs 0 0 (MQ below (qV (dC, dI) A ((wL cA h ad σ' ++ wL cA h2 ad2 τ))) av s 0 0 A) (F0 m 48 ls []) := by
    intro n
    induction n with
    | zero => intro x6 s7 hl0; exact (lp_0 hl0).elim
    | succ n ih1 =>
      intro x6 s7 hl0 H locs hP hD hS ls hl
      obtain ⟨z1, h1, hz1⟩ := lp_s hl0
      have h1 : bX1_become_48 τ x6 s7 = some z1 := h1
      unfold bX1_become_48 at h1
      refine lv_iload_n hx hb dX1_become_48 rfl (lv_at hl 0 rfl) ?_
      refine lv_iconst (v := (3 : Int32)) hx hb dX1_become_49 (by decide) ?_
      refine lv_icmp_gt (tgt := 79) hx hb dX1_become_50 (by decide) (fun hc => ?_) (fun hc => ?_)
      · have h1 := it_t h1 hc
        have he := lp_r h1 hz1
        exact KN1 x6 s7 he _ _ hP hD hS ls (lv_sub hl [0, 1, 2] rfl)
      · have h1 := it_f h1 hc
        refine lv_aload_n hx hb dX1_become_53 rfl (lv_at hl 2 rfl) ?_
        refine va_get (D := (dC, dI)) (ci := 1) (v := .ref (ad2 2)) (C := RX1) (T := TX1) (N := 16) hx hb hts hin0 hown hK hP 17 rfl rfl 2 (by decide) (hts (.fieldLink RX1 17 "MeanLocks$Locks" "atLeast" "[[I") (List.mem_of_getElem? (i := 10) rfl)) (fun _ h9 => h9) rfl dX1_become_54 ?_
        refine lv_iload_n hx hb dX1_become_57 rfl (lv_at hl 0 rfl) ?_
        obtain ⟨hi2, h1⟩ := ax_some h1
        refine x_aldA hx hb hK hP 19 4 rfl rfl hi2 rfl dX1_become_58 ?_
        refine lv_iconst (v := (0 : Int32)) hx hb dX1_become_59 (by decide) ?_
        refine lv_aload_n hx hb dX1_become_60 rfl (lv_at hl 1 rfl) ?_
        refine va_get (D := (dC, dI)) (ci := 1) (v := .ref (ad 2)) (C := RX1) (T := TX1) (N := 16) hx hb hts hin0 hown hK hP 0 rfl rfl 2 (by decide) (hts (.fieldLink RX1 17 "MeanLocks$Locks" "atLeast" "[[I") (List.mem_of_getElem? (i := 10) rfl)) (fun _ h9 => h9) rfl dX1_become_61 ?_
        refine lv_iload_n hx hb dX1_become_64 rfl (lv_at hl 0 rfl) ?_
        obtain ⟨hi3, h1⟩ := ax_some h1
        refine x_aldA hx hb hK hP 2 4 rfl rfl hi3 rfl dX1_become_65 ?_
        refine lv_iconst (v := (0 : Int32)) hx hb dX1_become_66 (by decide) ?_
        refine lv_sipush (v := (300 : Int32)) hx hb dX1_become_67 (by decide) ?_
        obtain ⟨s8, es8, h1⟩ := nm_some h1
        refine x_copy (ws' := (wL cA h ad s8 ++ wL cA h2 ad2 τ)) hC (by rw [hml]; exact hl.1.symm) (hts (.methodLink RX1 63 arraycopyName) (List.mem_of_getElem? (i := 6) rfl)) (hts (.native arraycopyName) (List.mem_of_getElem? (i := 7) rfl)) (hts (.static arraycopyName) (List.mem_of_getElem? (i := 8) rfl)) (hts (.initialized "java/lang/System") (List.mem_of_getElem? (i := 9) rfl)) hK hP hD hS (30 + (x6 : Int32).toNatClampNeg) (13 + (x6 : Int32).toNatClampNeg) 0 0 (wL2_rg cA h ad s7 h2 ad2 τ hi2) (wL2_rg1 cA h ad s7 h2 ad2 τ hi3) rfl rfl rfl (sp := (0 : Int32)) (dp := (0 : Int32)) (n := (300 : Int32)) (by decide) (by decide) (by decide) (by decide) (by decide) (fun _ _ => rfl) (Nat.le_of_ble_eq_true rfl) (Nat.le_of_ble_eq_true rfl) (by rw [es8]; exact wL2_rs cA h ad s7 h2 ad2 τ _ hi3) dX1_become_70 (fun H locs hP hD hS => ?_)
        obtain ⟨v9, ev9, h1⟩ := nm_some h1
        refine lv_iinc (v := v9) (lv' := [(2, .int v9), (0, .ref h), (1, .ref h2)]) hx hb dX1_become_73 hl (k := 0) rfl (by rw [ev9]; rfl) (by decide) rfl (fun ls hl => ?_)
        refine lv_goto (tgt := 48) hx hb dX1_become_76 (by decide) ?_
        have hc := lp_l h1 hz1
        exact ih1 v9 s8 hc _ _ hP hD hS ls (lv_sub hl [0, 1, 2] rfl)
  exact LP1 FU (1 : Int32) s5 hl1 _ _ hP hD hS ls hl
