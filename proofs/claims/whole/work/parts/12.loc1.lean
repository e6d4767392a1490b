def fX3_isOwner (a1 : Int32) : Option Int32 := if (a1 : Int32) < (0 : Int32) then (some (0 : Int32)) else (if (8 : Int32) ≤ a1 then (some (0 : Int32)) else (some (1 : Int32)))
abbrev rmX3_isOwner : Room := { frames := 0, cells := 0, slots := 0, locals := 0 }
set_option maxHeartbeats 4000000 in
set_option maxRecDepth 100000 in
theorem kX3_isOwner (l : Launch) (dC : Nat → ClassId) (dI : Nat → Nat → Nat) (cA : Nat → ClassId) (a1 : Int32) (R0 : Int32) (h0 : fX3_isOwner a1 = some R0) : CI l yX3_isOwner wsX3_isOwner rmX3_isOwner (dC, dI) vwCl (tysW cA) [.int a1] [] R0 [] := by
  refine CGI_of (cc := cX3_isOwner) (nL := 1) (ret := (some .boolean)) (by decide) rfl (Nat.le_of_ble_eq_true rfl) ?_
  intro p e s m av below meth c A ls H locs hC hl
  obtain ⟨hC, hr, hlocks, hV, hN, hK, hP, hD, hS, hA⟩ := hC
  have hC : CallFix p m c cX3_isOwner 1 s _ wsX3_isOwner RX3 := hC
  obtain ⟨hx, hb, hml, hown, hts⟩ := id hC
  have hl : lv_has ls 1 [(0, .int a1)] := hl
  unfold fX3_isOwner at h0
  refine lv_iload_n hx hb dX3_isOwner_0 rfl (lv_at hl 0 rfl) ?_
  refine lv_if_lt (tgt := 14) hx hb dX3_isOwner_1 (by decide) (fun hc => ?_) (fun hc => ?_)
  · have h0 := it_t h0 hc
    refine lv_iconst (v := (0 : Int32)) hx hb dX3_isOwner_14 (by decide) ?_
    have e1 := Option.some.inj h0
    exact x_retI hC hr hlocks rfl hP hD hS dX3_isOwner_15 ⟨e1, rfl⟩
  · have h0 := it_f h0 hc
    refine lv_iload_n hx hb dX3_isOwner_4 rfl (lv_at hl 0 rfl) ?_
    refine lv_bipush (v := (8 : Int32)) hx hb dX3_isOwner_5 (by decide) ?_
    refine lv_icmp_ge (tgt := 14) hx hb dX3_isOwner_7 (by decide) (fun hc => ?_) (fun hc => ?_)
    · have h0 := it_t h0 hc
      refine lv_iconst (v := (0 : Int32)) hx hb dX3_isOwner_14 (by decide) ?_
      have e1 := Option.some.inj h0
      exact x_retI hC hr hlocks rfl hP hD hS dX3_isOwner_15 ⟨e1, rfl⟩
    · have h0 := it_f h0 hc
      refine lv_iconst (v := (1 : Int32)) hx hb dX3_isOwner_10 (by decide) ?_
      refine lv_goto (tgt := 15) hx hb dX3_isOwner_11 (by decide) ?_
      have e1 := Option.some.inj h0
      exact x_retI hC hr hlocks rfl hP hD hS dX3_isOwner_15 ⟨e1, rfl⟩
def fX3_isLock (a1 : Int32) : Option Int32 := if (a1 : Int32) < (1 : Int32) then (some (0 : Int32)) else (if (3 : Int32) < a1 then (some (0 : Int32)) else (some (1 : Int32)))
abbrev rmX3_isLock : Room := { frames := 0, cells := 0, slots := 0, locals := 0 }
set_option maxHeartbeats 4000000 in
set_option maxRecDepth 100000 in
theorem kX3_isLock (l : Launch) (dC : Nat → ClassId) (dI : Nat → Nat → Nat) (cA : Nat → ClassId) (a1 : Int32) (R0 : Int32) (h0 : fX3_isLock a1 = some R0) : CI l yX3_isLock wsX3_isLock rmX3_isLock (dC, dI) vwCl (tysW cA) [.int a1] [] R0 [] := by
  refine CGI_of (cc := cX3_isLock) (nL := 1) (ret := (some .boolean)) (by decide) rfl (Nat.le_of_ble_eq_true rfl) ?_
  intro p e s m av below meth c A ls H locs hC hl
  obtain ⟨hC, hr, hlocks, hV, hN, hK, hP, hD, hS, hA⟩ := hC
  have hC : CallFix p m c cX3_isLock 1 s _ wsX3_isLock RX3 := hC
  obtain ⟨hx, hb, hml, hown, hts⟩ := id hC
  have hl : lv_has ls 1 [(0, .int a1)] := hl
  unfold fX3_isLock at h0
  refine lv_iload_n hx hb dX3_isLock_0 rfl (lv_at hl 0 rfl) ?_
  refine lv_iconst (v := (1 : Int32)) hx hb dX3_isLock_1 (by decide) ?_
  refine lv_icmp_lt (tgt := 14) hx hb dX3_isLock_2 (by decide) (fun hc => ?_) (fun hc => ?_)
  · have h0 := it_t h0 hc
    refine lv_iconst (v := (0 : Int32)) hx hb dX3_isLock_14 (by decide) ?_
    have e1 := Option.some.inj h0
    exact x_retI hC hr hlocks rfl hP hD hS dX3_isLock_15 ⟨e1, rfl⟩
  · have h0 := it_f h0 hc
    refine lv_iload_n hx hb dX3_isLock_5 rfl (lv_at hl 0 rfl) ?_
    refine lv_iconst (v := (3 : Int32)) hx hb dX3_isLock_6 (by decide) ?_
    refine lv_icmp_gt (tgt := 14) hx hb dX3_isLock_7 (by decide) (fun hc => ?_) (fun hc => ?_)
    · have h0 := it_t h0 hc
      refine lv_iconst (v := (0 : Int32)) hx hb dX3_isLock_14 (by decide) ?_
      have e1 := Option.some.inj h0
      exact x_retI hC hr hlocks rfl hP hD hS dX3_isLock_15 ⟨e1, rfl⟩
    · have h0 := it_f h0 hc
      refine lv_iconst (v := (1 : Int32)) hx hb dX3_isLock_10 (by decide) ?_
      refine lv_goto (tgt := 15) hx hb dX3_isLock_11 (by decide) ?_
      have e1 := Option.some.inj h0
      exact x_retI hC hr hlocks rfl hP hD hS dX3_isLock_15 ⟨e1, rfl⟩
def fX3_isPlace (a1 : Int32) : Option Int32 := if (a1 : Int32) < (0 : Int32) then (some (0 : Int32)) else (if (300 : Int32) ≤ a1 then (some (0 : Int32)) else (some (1 : Int32)))
abbrev rmX3_isPlace : Room := { frames := 0, cells := 0, slots := 0, locals := 0 }
set_option maxHeartbeats 4000000 in
set_option maxRecDepth 100000 in
theorem kX3_isPlace (l : Launch) (dC : Nat → ClassId) (dI : Nat → Nat → Nat) (cA : Nat → ClassId) (a1 : Int32) (R0 : Int32) (h0 : fX3_isPlace a1 = some R0) : CI l yX3_isPlace wsX3_isPlace rmX3_isPlace (dC, dI) vwCl (tysW cA) [.int a1] [] R0 [] := by
  refine CGI_of (cc := cX3_isPlace) (nL := 1) (ret := (some .boolean)) (by decide) rfl (Nat.le_of_ble_eq_true rfl) ?_
  intro p e s m av below meth c A ls H locs hC hl
  obtain ⟨hC, hr, hlocks, hV, hN, hK, hP, hD, hS, hA⟩ := hC
  have hC : CallFix p m c cX3_isPlace 1 s _ wsX3_isPlace RX3 := hC
  obtain ⟨hx, hb, hml, hown, hts⟩ := id hC
  have hl : lv_has ls 1 [(0, .int a1)] := hl
  unfold fX3_isPlace at h0
  refine lv_iload_n hx hb dX3_isPlace_0 rfl (lv_at hl 0 rfl) ?_
  refine lv_if_lt (tgt := 15) hx hb dX3_isPlace_1 (by decide) (fun hc => ?_) (fun hc => ?_)
  · have h0 := it_t h0 hc
    refine lv_iconst (v := (0 : Int32)) hx hb dX3_isPlace_15 (by decide) ?_
    have e1 := Option.some.inj h0
    exact x_retI hC hr hlocks rfl hP hD hS dX3_isPlace_16 ⟨e1, rfl⟩
  · have h0 := it_f h0 hc
    refine lv_iload_n hx hb dX3_isPlace_4 rfl (lv_at hl 0 rfl) ?_
    refine lv_sipush (v := (300 : Int32)) hx hb dX3_isPlace_5 (by decide) ?_
    refine lv_icmp_ge (tgt := 15) hx hb dX3_isPlace_8 (by decide) (fun hc => ?_) (fun hc => ?_)
    · have h0 := it_t h0 hc
      refine lv_iconst (v := (0 : Int32)) hx hb dX3_isPlace_15 (by decide) ?_
      have e1 := Option.some.inj h0
      exact x_retI hC hr hlocks rfl hP hD hS dX3_isPlace_16 ⟨e1, rfl⟩
    · have h0 := it_f h0 hc
      refine lv_iconst (v := (1 : Int32)) hx hb dX3_isPlace_11 (by decide) ?_
      refine lv_goto (tgt := 16) hx hb dX3_isPlace_12 (by decide) ?_
      have e1 := Option.some.inj h0
      exact x_retI hC hr hlocks rfl hP hD hS dX3_isPlace_16 ⟨e1, rfl⟩
def fX3_isRange (a1 : Int32) (a2 : Int32) : Option Int32 := bnd (fX3_isPlace a1) fun r1 => if (r1 : Int32) = (0 : Int32) then (some (0 : Int32)) else (if (a2 : Int32) ≤ a1 then (some (0 : Int32)) else (if (300 : Int32) < a2 then (some (0 : Int32)) else (some (1 : Int32))))
abbrev rmX3_isRange : Room := { frames := 1, cells := 0, slots := 0, locals := 20 }
set_option maxHeartbeats 4000000 in
set_option maxRecDepth 100000 in
theorem kX3_isRange (l : Launch) (dC : Nat → ClassId) (dI : Nat → Nat → Nat) (cA : Nat → ClassId) (a1 : Int32) (a2 : Int32) (R0 : Int32) (h0 : fX3_isRange a1 a2 = some R0) : CI l yX3_isRange wsX3_isRange rmX3_isRange (dC, dI) vwCl (tysW cA) [.int a1, .int a2] [] R0 [] := by
  refine CGI_of (cc := cX3_isRange) (nL := 2) (ret := (some .boolean)) (by decide) rfl (Nat.le_of_ble_eq_true rfl) ?_
  intro p e s m av below meth c A ls H locs hC hl
  obtain ⟨hC, hr, hlocks, hV, hN, hK, hP, hD, hS, hA⟩ := hC
  have hC : CallFix p m c cX3_isRange 2 s _ wsX3_isRange RX3 := hC
  obtain ⟨hx, hb, hml, hown, hts⟩ := id hC
  have hl : lv_has ls 2 [(0, .int a1), (1, .int a2)] := hl
  unfold fX3_isRange at h0
  refine lv_iload_n hx hb dX3_isRange_0 rfl (lv_at hl 0 rfl) ?_
  obtain ⟨r1, hf1, h0⟩ := bnd_some h0
  refine x_SI (As := [.int a1]) (rest := []) hC (kX3_isPlace l dC dI cA a1 r1 hf1) (cwS 1 hts gX3_isRange_X3_isPlace rfl rfl rfl (by decide +kernel) ⟨Nat.le_of_ble_eq_true rfl, Nat.le_of_ble_eq_true rfl⟩) hV hN hK hP hD hS hA rfl hl.1 rfl (Nat.le_of_ble_eq_true rfl) ⟨Nat.zero_le _, Nat.zero_le _⟩ dX3_isRange_1 (fun H locs hP hD hS => ?_)
  refine lv_if_eq (tgt := 23) hx hb dX3_isRange_4 (by decide) (fun hc => ?_) (fun hc => ?_)
  · have h0 := it_t h0 hc
    refine lv_iconst (v := (0 : Int32)) hx hb dX3_isRange_23 (by decide) ?_
    have e1 := Option.some.inj h0
    exact x_retI hC hr hlocks rfl hP hD hS dX3_isRange_24 ⟨e1, rfl⟩
  · have h0 := it_f h0 hc
    refine lv_iload_n hx hb dX3_isRange_7 rfl (lv_at hl 1 rfl) ?_
    refine lv_iload_n hx hb dX3_isRange_8 rfl (lv_at hl 0 rfl) ?_
    refine lv_icmp_le (tgt := 23) hx hb dX3_isRange_9 (by decide) (fun hc => ?_) (fun hc => ?_)
    · have h0 := it_t h0 hc
      refine lv_iconst (v := (0 : Int32)) hx hb dX3_isRange_23 (by decide) ?_
      have e1 := Option.some.inj h0
      exact x_retI hC hr hlocks rfl hP hD hS dX3_isRange_24 ⟨e1, rfl⟩
    · have h0 := it_f h0 hc
      refine lv_iload_n hx hb dX3_isRange_12 rfl (lv_at hl 1 rfl) ?_
      refine lv_sipush (v := (300 : Int32)) hx hb dX3_isRange_13 (by decide) ?_
      refine lv_icmp_gt (tgt := 23) hx hb dX3_isRange_16 (by decide) (fun hc => ?_) (fun hc => ?_)
      · have h0 := it_t h0 hc
        refine lv_iconst (v := (0 : Int32)) hx hb dX3_isRange_23 (by decide) ?_
        have e1 := Option.some.inj h0
        exact x_retI hC hr hlocks rfl hP hD hS dX3_isRange_24 ⟨e1, rfl⟩
      · have h0 := it_f h0 hc
        refine lv_iconst (v := (1 : Int32)) hx hb dX3_isRange_19 (by decide) ?_
        refine lv_goto (tgt := 24) hx hb dX3_isRange_20 (by decide) ?_
        have e1 := Option.some.inj h0
        exact x_retI hC hr hlocks rfl hP hD hS dX3_isRange_24 ⟨e1, rfl⟩
def fX3_holds (a1 : Int32) (a2 : Int32) : Option Int32 := if (((a1 >>> (a2 &&& 31)) &&& (1 : Int32)) : Int32) = (0 : Int32) then (some (0 : Int32)) else (some (1 : Int32))
abbrev rmX3_holds : Room := { frames := 0, cells := 0, slots := 0, locals := 0 }
set_option maxHeartbeats 4000000 in
set_option maxRecDepth 100000 in
theorem kX3_holds (l : Launch) (dC : Nat → ClassId) (dI : Nat → Nat → Nat) (cA : Nat → ClassId) (a1 : Int32) (a2 : Int32) (R0 : Int32) (h0 : fX3_holds a1 a2 = some R0) : CI l yX3_holds wsX3_holds rmX3_holds (dC, dI) vwCl (tysW cA) [.int a1, .int a2] [] R0 [] := by
  refine CGI_of (cc := cX3_holds) (nL := 2) (ret := (some .boolean)) (by decide) rfl (Nat.le_of_ble_eq_true rfl) ?_
  intro p e s m av below meth c A ls H locs hC hl
  obtain ⟨hC, hr, hlocks, hV, hN, hK, hP, hD, hS, hA⟩ := hC
  have hC : CallFix p m c cX3_holds 2 s _ wsX3_holds RX3 := hC
  obtain ⟨hx, hb, hml, hown, hts⟩ := id hC
  have hl : lv_has ls 2 [(0, .int a1), (1, .int a2)] := hl
  unfold fX3_holds at h0
  refine lv_iload_n hx hb dX3_holds_0 rfl (lv_at hl 0 rfl) ?_
  refine lv_iload_n hx hb dX3_holds_1 rfl (lv_at hl 1 rfl) ?_
  refine lv_ishr hx hb dX3_holds_2 ?_
  refine lv_iconst (v := (1 : Int32)) hx hb dX3_holds_3 (by decide) ?_
  refine lv_iand hx hb dX3_holds_4 ?_
  refine lv_if_eq (tgt := 12) hx hb dX3_holds_5 (by decide) (fun hc => ?_) (fun hc => ?_)
  · have h0 := it_t h0 hc
    refine lv_iconst (v := (0 : Int32)) hx hb dX3_holds_12 (by decide) ?_
    have e1 := Option.some.inj h0
    exact x_retI hC hr hlocks rfl hP hD hS dX3_holds_13 ⟨e1, rfl⟩
  · have h0 := it_f h0 hc
    refine lv_iconst (v := (1 : Int32)) hx hb dX3_holds_8 (by decide) ?_
    refine lv_goto (tgt := 13) hx hb dX3_holds_9 (by decide) ?_
    have e1 := Option.some.inj h0
    exact x_retI hC hr hlocks rfl hP hD hS dX3_holds_13 ⟨e1, rfl⟩
def fJ6_bitCount_0f7a4 (a1 : Int32) : Option Int32 := nm (a1 - ((((a1 : Int32).toUInt32 >>> (((1 : Int32) : Int32).toUInt32 &&& Int32.toUInt32 31)).toInt32) &&& (1431655765 : Int32))) fun v1 => nm ((v1 &&& (858993459 : Int32)) + ((((v1 : Int32).toUInt32 >>> (((2 : Int32) : Int32).toUInt32 &&& Int32.toUInt32 31)).toInt32) &&& (858993459 : Int32))) fun v2 => nm ((v2 + (((v2 : Int32).toUInt32 >>> (((4 : Int32) : Int32).toUInt32 &&& Int32.toUInt32 31)).toInt32)) &&& (252645135 : Int32)) fun v3 => nm (v3 + (((v3 : Int32).toUInt32 >>> (((8 : Int32) : Int32).toUInt32 &&& Int32.toUInt32 31)).toInt32)) fun v4 => nm (v4 + (((v4 : Int32).toUInt32 >>> (((16 : Int32) : Int32).toUInt32 &&& Int32.toUInt32 31)).toInt32)) fun v5 => some (v5 &&& (63 : Int32))
abbrev rmJ6_bitCount_0f7a4 : Room := { frames := 0, cells := 0, slots := 0, locals := 0 }
set_option maxHeartbeats 4000000 in
set_option maxRecDepth 100000 in
theorem kJ6_bitCount_0f7a4 (l : Launch) (dC : Nat → ClassId) (dI : Nat → Nat → Nat) (cA : Nat → ClassId) (a1 : Int32) (R0 : Int32) (h0 : fJ6_bitCount_0f7a4 a1 = some R0) : CI l yJ6_bitCount_0f7a4 wsJ6_bitCount_0f7a4 rmJ6_bitCount_0f7a4 (dC, dI) vwCl (tysW cA) [.int a1] [] R0 [] := by
  refine CGI_of (cc := cJ6_bitCount_0f7a4) (nL := 1) (ret := (some .int)) (by decide) rfl (Nat.le_of_ble_eq_true rfl) ?_
  intro p e s m av below meth c A ls H locs hC hl
  obtain ⟨hC, hr, hlocks, hV, hN, hK, hP, hD, hS, hA⟩ := hC
  have hC : CallFix p m c cJ6_bitCount_0f7a4 1 s _ wsJ6_bitCount_0f7a4 RJ6 := hC
  obtain ⟨hx, hb, hml, hown, hts⟩ := id hC
  have hl : lv_has ls 1 [(0, .int a1)] := hl
  unfold fJ6_bitCount_0f7a4 at h0
  refine lv_iload_n hx hb dJ6_bitCount_0f7a4_0 rfl (lv_at hl 0 rfl) ?_
  refine lv_iload_n hx hb dJ6_bitCount_0f7a4_1 rfl (lv_at hl 0 rfl) ?_
  refine lv_iconst (v := (1 : Int32)) hx hb dJ6_bitCount_0f7a4_2 (by decide) ?_
  refine lv_iushr hx hb dJ6_bitCount_0f7a4_3 rfl ?_
  refine lv_ldcw (v := (1431655765 : Int32)) hx hb hown (hts (.constant RJ6 265 (1431655765)) (List.mem_of_getElem? (i := 1) rfl)) dJ6_bitCount_0f7a4_4 ?_
  refine lv_iand hx hb dJ6_bitCount_0f7a4_7 ?_
  refine lv_isub hx hb dJ6_bitCount_0f7a4_8 ?_
  refine lv_topi (fun v1 ev1 => ?_)
  have h0 := nm_at ev1 h0
  refine lv_istore_n (lv' := [(0, .int v1)]) hx hb dJ6_bitCount_0f7a4_9 rfl hl (by decide) rfl (fun ls hl => ?_)
  refine lv_iload_n hx hb dJ6_bitCount_0f7a4_10 rfl (lv_at hl 0 rfl) ?_
  refine lv_ldcw (v := (858993459 : Int32)) hx hb hown (hts (.constant RJ6 266 (858993459)) (List.mem_of_getElem? (i := 2) rfl)) dJ6_bitCount_0f7a4_11 ?_
  refine lv_iand hx hb dJ6_bitCount_0f7a4_14 ?_
  refine lv_iload_n hx hb dJ6_bitCount_0f7a4_15 rfl (lv_at hl 0 rfl) ?_
  refine lv_iconst (v := (2 : Int32)) hx hb dJ6_bitCount_0f7a4_16 (by decide) ?_
  refine lv_iushr hx hb dJ6_bitCount_0f7a4_17 rfl ?_
  refine lv_ldcw (v := (858993459 : Int32)) hx hb hown (hts (.constant RJ6 266 (858993459)) (List.mem_of_getElem? (i := 2) rfl)) dJ6_bitCount_0f7a4_18 ?_
  refine lv_iand hx hb dJ6_bitCount_0f7a4_21 ?_
  refine lv_iadd hx hb dJ6_bitCount_0f7a4_22 ?_
  refine lv_topi (fun v2 ev2 => ?_)
  have h0 := nm_at ev2 h0
  refine lv_istore_n (lv' := [(0, .int v2)]) hx hb dJ6_bitCount_0f7a4_23 rfl hl (by decide) rfl (fun ls hl => ?_)
  refine lv_iload_n hx hb dJ6_bitCount_0f7a4_24 rfl (lv_at hl 0 rfl) ?_
  refine lv_iload_n hx hb dJ6_bitCount_0f7a4_25 rfl (lv_at hl 0 rfl) ?_
  refine lv_iconst (v := (4 : Int32)) hx hb dJ6_bitCount_0f7a4_26 (by decide) ?_
  refine lv_iushr hx hb dJ6_bitCount_0f7a4_27 rfl ?_
  refine lv_iadd hx hb dJ6_bitCount_0f7a4_28 ?_
  refine lv_ldcw (v := (252645135 : Int32)) hx hb hown (hts (.constant RJ6 267 (252645135)) (List.mem_of_getElem? (i := 3) rfl)) dJ6_bitCount_0f7a4_29 ?_
  refine lv_iand hx hb dJ6_bitCount_0f7a4_32 ?_
  refine lv_topi (fun v3 ev3 => ?_)
  have h0 := nm_at ev3 h0
  refine lv_istore_n (lv' := [(0, .int v3)]) hx hb dJ6_bitCount_0f7a4_33 rfl hl (by decide) rfl (fun ls hl => ?_)
  refine lv_iload_n hx hb dJ6_bitCount_0f7a4_34 rfl (lv_at hl 0 rfl) ?_
  refine lv_iload_n hx hb dJ6_bitCount_0f7a4_35 rfl (lv_at hl 0 rfl) ?_
  refine lv_bipush (v := (8 : Int32)) hx hb dJ6_bitCount_0f7a4_36 (by decide) ?_
  refine lv_iushr hx hb dJ6_bitCount_0f7a4_38 rfl ?_
  refine lv_iadd hx hb dJ6_bitCount_0f7a4_39 ?_
  refine lv_topi (fun v4 ev4 => ?_)
  have h0 := nm_at ev4 h0
  refine lv_istore_n (lv' := [(0, .int v4)]) hx hb dJ6_bitCount_0f7a4_40 rfl hl (by decide) rfl (fun ls hl => ?_)
  refine lv_iload_n hx hb dJ6_bitCount_0f7a4_41 rfl (lv_at hl 0 rfl) ?_
  refine lv_iload_n hx hb dJ6_bitCount_0f7a4_42 rfl (lv_at hl 0 rfl) ?_
  refine lv_bipush (v := (16 : Int32)) hx hb dJ6_bitCount_0f7a4_43 (by decide) ?_
  refine lv_iushr hx hb dJ6_bitCount_0f7a4_45 rfl ?_
  refine lv_iadd hx hb dJ6_bitCount_0f7a4_46 ?_
  refine lv_topi (fun v5 ev5 => ?_)
  have h0 := nm_at ev5 h0
  refine lv_istore_n (lv' := [(0, .int v5)]) hx hb dJ6_bitCount_0f7a4_47 rfl hl (by decide) rfl (fun ls hl => ?_)
  refine lv_iload_n hx hb dJ6_bitCount_0f7a4_48 rfl (lv_at hl 0 rfl) ?_
  refine lv_bipush (v := (63 : Int32)) hx hb dJ6_bitCount_0f7a4_49 (by decide) ?_
  refine lv_iand hx hb dJ6_bitCount_0f7a4_51 ?_
  have e1 := Option.some.inj h0
  exact x_retI hC hr hlocks rfl hP hD hS dJ6_bitCount_0f7a4_52 ⟨e1, rfl⟩
def bX1_become_48 (τ : St) (x6 : Int32) (s7 : St) : Option ((Int32 × St) ⊕ (Int32 × St)) := if (3 : Int32) < x6 then (some (.inr (x6, s7))) else (ax x6 4 (ax x6 4 (nm (put s7 (16 + (x6 : Int32).toNatClampNeg) (va_cpy (τ (16 + (x6 : Int32).toNatClampNeg)) (s7 (16 + (x6 : Int32).toNatClampNeg)) ((0 : Int32) : Int32).toNatClampNeg ((0 : Int32) : Int32).toNatClampNeg ((300 : Int32) : Int32).toNatClampNeg)) fun s8 => nm (x6 + (1 : Int32)) fun v9 => some (.inl (v9, s8)))))
def fX1_become (τ : St) (σ : St) : Option St := nm (put σ 1 (fun _ => τ 1 0)) fun s1 => nm (put s1 4 (fun _ => τ 4 0)) fun s2 => nm (put s2 13 (fun _ => τ 13 0)) fun s3 => nm (put s3 14 (fun _ => τ 14 0)) fun s4 => nm (put s4 0 (va_cpy (τ 0) (s4 0) ((0 : Int32) : Int32).toNatClampNeg ((0 : Int32) : Int32).toNatClampNeg ((3 : Int32) : Int32).toNatClampNeg)) fun s5 => bnd (lp (fun t : (Int32 × St) => bX1_become_48 τ t.1 t.2) FU ((1 : Int32), s5)) (fun e : (Int32 × St) => nm e.1 fun x10 => nm e.2 fun s11 => nm (put s11 3 (va_cpy (τ 3) (s11 3) ((0 : Int32) : Int32).toNatClampNeg ((0 : Int32) : Int32).toNatClampNeg ((8 : Int32) : Int32).toNatClampNeg)) fun s12 => nm (put s12 5 (va_cpy (τ 5) (s12 5) ((0 : Int32) : Int32).toNatClampNeg ((0 : Int32) : Int32).toNatClampNeg ((8 : Int32) : Int32).toNatClampNeg)) fun s13 => nm (put s13 6 (va_cpy (τ 6) (s13 6) ((0 : Int32) : Int32).toNatClampNeg ((0 : Int32) : Int32).toNatClampNeg ((8 : Int32) : Int32).toNatClampNeg)) fun s14 => nm (put s14 7 (va_cpy (τ 7) (s14 7) ((0 : Int32) : Int32).toNatClampNeg ((0 : Int32) : Int32).toNatClampNeg ((8 : Int32) : Int32).toNatClampNeg)) fun s15 => nm (put s15 8 (va_cpy (τ 8) (s15 8) ((0 : Int32) : Int32).toNatClampNeg ((0 : Int32) : Int32).toNatClampNeg ((8 : Int32) : Int32).toNatClampNeg)) fun s16 => nm (put s16 9 (va_cpy (τ 9) (s16 9) ((0 : Int32) : Int32).toNatClampNeg ((0 : Int32) : Int32).toNatClampNeg ((8 : Int32) : Int32).toNatClampNeg)) fun s17 => nm (put s17 10 (va_cpy (τ 10) (s17 10) ((0 : Int32) : Int32).toNatClampNeg ((0 : Int32) : Int32).toNatClampNeg ((8 : Int32) : Int32).toNatClampNeg)) fun s18 => nm (put s18 11 (va_cpy (τ 11) (s18 11) ((0 : Int32) : Int32).toNatClampNeg ((0 : Int32) : Int32).toNatClampNeg ((8 : Int32) : Int32).toNatClampNeg)) fun s19 => nm (put s19 12 (va_cpy (τ 12) (s19 12) ((0 : Int32) : Int32).toNatClampNeg ((0 : Int32) : Int32).toNatClampNeg ((8 : Int32) : Int32).toNatClampNeg)) fun s20 => some s20)
abbrev rmX1_become : Room := { frames := 1, cells := 0, slots := 0, locals := 40 }
set_option maxHeartbeats 4000000 in
set_option maxRecDepth 100000 in
theorem kX1_become (l : Launch) (dC : Nat → ClassId) (dI : Nat → Nat → Nat) (cA : Nat → ClassId) (h : Nat) (ad : Nat → Nat) (h2 : Nat) (ad2 : Nat → Nat) (τ : St) (σ : St) (σ' : St) (h0 : fX1_become τ σ = some σ') : CV l yX1_become wsX1_become rmX1_become (dC, dI) vwCl (tysW cA) [.ref h, .ref h2] ((wL cA h ad σ ++ wL cA h2 ad2 τ)) ((wL cA h ad σ' ++ wL cA h2 ad2 τ)) := by
  refine CGV_of (cc := cX1_become) (nL := 3) (ret := none) (by decide) rfl (Nat.le_of_ble_eq_true rfl) ?_
  intro p e s m av below meth c A ls H locs hC hl
  obtain ⟨hC, hr, hlocks, hV, hN, hK, hP, hD, hS, hA⟩ := hC
  have hC : CallFix p m c cX1_become 3 s _ wsX1_become RX1 := hC
  obtain ⟨hx, hb, hml, hown, hts⟩ := id hC
  have hin0 : ∀ w ∈ u_ws RX1 TX1 16, w ∈ wsX1_become := fun _ h => (List.mem_cons_of_mem _ (List.mem_append_right _ h))
  have hl : lv_has ls 3 [(0, .ref h), (1, .ref h2)] := hl
  unfold fX1_become at h0
  refine lv_aload_n hx hb dX1_become_0 rfl (lv_at hl 0 rfl) ?_
  refine lv_aload_n hx hb dX1_become_1 rfl (lv_at hl 1 rfl) ?_
  refine va_get (D := (dC, dI)) (ci := 1) (v := .int (τ 1 0)) (C := RX1) (T := TX1) (N := 16) hx hb hts hin0 hown hK hP 17 rfl rfl 1 (by decide) (hts (.fieldLink RX1 50 "MeanLocks$Locks" "tick" "I") (List.mem_of_getElem? (i := 1) rfl)) (fun _ h9 => h9) rfl dX1_become_2 ?_
  obtain ⟨s1, es1, h0⟩ := nm_some h0
  refine x_put (D := (dC, dI)) (ws' := (wL cA h ad s1 ++ wL cA h2 ad2 τ)) (ci := 1) (fs := [.ref (ad 0), .int (σ 1 0), .ref (ad 2), .ref (ad 3), .int (σ 4 0), .ref (ad 5), .ref (ad 6), .ref (ad 7), .ref (ad 8), .ref (ad 9), .ref (ad 10), .ref (ad 11), .ref (ad 12), .int (σ 13 0), .int (σ 14 0), .ref (ad 15)]) (v := .int (τ 1 0)) (ty := .int) (C := RX1) (T := TX1) (N := 16) hC hin0 tyX1 tyX1_ok nmX1 hK hP hD hS 0 rfl rfl 1 (by decide) (hts (.fieldLink RX1 50 "MeanLocks$Locks" "tick" "I") (List.mem_of_getElem? (i := 1) rfl)) rfl rfl rfl rfl (by decide +kernel) (Nat.le_of_ble_eq_true rfl) (by rw [es1]; rfl) dX1_become_5 (fun H locs hP hD hS => ?_)
  refine lv_aload_n hx hb dX1_become_8 rfl (lv_at hl 0 rfl) ?_
  refine lv_aload_n hx hb dX1_become_9 rfl (lv_at hl 1 rfl) ?_
  refine va_get (D := (dC, dI)) (ci := 1) (v := .int (τ 4 0)) (C := RX1) (T := TX1) (N := 16) hx hb hts hin0 hown hK hP 17 rfl rfl 4 (by decide) (hts (.fieldLink RX1 54 "MeanLocks$Locks" "waiting" "I") (List.mem_of_getElem? (i := 2) rfl)) (fun _ h9 => h9) rfl dX1_become_10 ?_
  obtain ⟨s2, es2, h0⟩ := nm_some h0
  refine x_put (D := (dC, dI)) (ws' := (wL cA h ad s2 ++ wL cA h2 ad2 τ)) (ci := 1) (fs := [.ref (ad 0), .int (s1 1 0), .ref (ad 2), .ref (ad 3), .int (s1 4 0), .ref (ad 5), .ref (ad 6), .ref (ad 7), .ref (ad 8), .ref (ad 9), .ref (ad 10), .ref (ad 11), .ref (ad 12), .int (s1 13 0), .int (s1 14 0), .ref (ad 15)]) (v := .int (τ 4 0)) (ty := .int) (C := RX1) (T := TX1) (N := 16) hC hin0 tyX1 tyX1_ok nmX1 hK hP hD hS 0 rfl rfl 4 (by decide) (hts (.fieldLink RX1 54 "MeanLocks$Locks" "waiting" "I") (List.mem_of_getElem? (i := 2) rfl)) rfl rfl rfl rfl (by decide +kernel) (Nat.le_of_ble_eq_true rfl) (by rw [es2]; rfl) dX1_become_13 (fun H locs hP hD hS => ?_)
  refine lv_aload_n hx hb dX1_become_16 rfl (lv_at hl 0 rfl) ?_
  refine lv_aload_n hx hb dX1_become_17 rfl (lv_at hl 1 rfl) ?_
  refine va_get (D := (dC, dI)) (ci := 1) (v := .int (τ 13 0)) (C := RX1) (T := TX1) (N := 16) hx hb hts hin0 hown hK hP 17 rfl rfl 13 (by decide) (hts (.fieldLink RX1 57 "MeanLocks$Locks" "gone" "I") (List.mem_of_getElem? (i := 3) rfl)) (fun _ h9 => h9) rfl dX1_become_18 ?_
  obtain ⟨s3, es3, h0⟩ := nm_some h0
  refine x_put (D := (dC, dI)) (ws' := (wL cA h ad s3 ++ wL cA h2 ad2 τ)) (ci := 1) (fs := [.ref (ad 0), .int (s2 1 0), .ref (ad 2), .ref (ad 3), .int (s2 4 0), .ref (ad 5), .ref (ad 6), .ref (ad 7), .ref (ad 8), .ref (ad 9), .ref (ad 10), .ref (ad 11), .ref (ad 12), .int (s2 13 0), .int (s2 14 0), .ref (ad 15)]) (v := .int (τ 13 0)) (ty := .int) (C := RX1) (T := TX1) (N := 16) hC hin0 tyX1 tyX1_ok nmX1 hK hP hD hS 0 rfl rfl 13 (by decide) (hts (.fieldLink RX1 57 "MeanLocks$Locks" "gone" "I") (List.mem_of_getElem? (i := 3) rfl)) rfl rfl rfl rfl (by decide +kernel) (Nat.le_of_ble_eq_true rfl) (by rw [es3]; rfl) dX1_become_21 (fun H locs hP hD hS => ?_)
  refine lv_aload_n hx hb dX1_become_24 rfl (lv_at hl 0 rfl) ?_
  refine lv_aload_n hx hb dX1_become_25 rfl (lv_at hl 1 rfl) ?_
  refine va_get (D := (dC, dI)) (ci := 1) (v := .int (τ 14 0)) (C := RX1) (T := TX1) (N := 16) hx hb hts hin0 hown hK hP 17 rfl rfl 14 (by decide) (hts (.fieldLink RX1 60 "MeanLocks$Locks" "breaks" "I") (List.mem_of_getElem? (i := 4) rfl)) (fun _ h9 => h9) rfl dX1_become_26 ?_
  obtain ⟨s4, es4, h0⟩ := nm_some h0
  refine x_put (D := (dC, dI)) (ws' := (wL cA h ad s4 ++ wL cA h2 ad2 τ)) (ci := 1) (fs := [.ref (ad 0), .int (s3 1 0), .ref (ad 2), .ref (ad 3), .int (s3 4 0), .ref (ad 5), .ref (ad 6), .ref (ad 7), .ref (ad 8), .ref (ad 9), .ref (ad 10), .ref (ad 11), .ref (ad 12), .int (s3 13 0), .int (s3 14 0), .ref (ad 15)]) (v := .int (τ 14 0)) (ty := .int) (C := RX1) (T := TX1) (N := 16) hC hin0 tyX1 tyX1_ok nmX1 hK hP hD hS 0 rfl rfl 14 (by decide) (hts (.fieldLink RX1 60 "MeanLocks$Locks" "breaks" "I") (List.mem_of_getElem? (i := 4) rfl)) rfl rfl rfl rfl (by decide +kernel) (Nat.le_of_ble_eq_true rfl) (by rw [es4]; rfl) dX1_become_29 (fun H locs hP hD hS => ?_)
  refine lv_aload_n hx hb dX1_become_32 rfl (lv_at hl 1 rfl) ?_
  refine va_get (D := (dC, dI)) (ci := 1) (v := .ref (ad2 0)) (C := RX1) (T := TX1) (N := 16) hx hb hts hin0 hown hK hP 17 rfl rfl 0 (by decide) (hts (.fieldLink RX1 9 "MeanLocks$Locks" "settings" "[I") (List.mem_of_getElem? (i := 5) rfl)) (fun _ h9 => h9) rfl dX1_become_33 ?_
  refine lv_iconst (v := (0 : Int32)) hx hb dX1_become_36 (by decide) ?_
  refine lv_aload_n hx hb dX1_become_37 rfl (lv_at hl 0 rfl) ?_
  refine va_get (D := (dC, dI)) (ci := 1) (v := .ref (ad 0)) (C := RX1) (T := TX1) (N := 16) hx hb hts hin0 hown hK hP 0 rfl rfl 0 (by decide) (hts (.fieldLink RX1 9 "MeanLocks$Locks" "settings" "[I") (List.mem_of_getElem? (i := 5) rfl)) (fun _ h9 => h9) rfl dX1_become_38 ?_
  refine lv_iconst (v := (0 : Int32)) hx hb dX1_become_41 (by decide) ?_
  refine lv_iconst (v := (3 : Int32)) hx hb dX1_become_42 (by decide) ?_
  obtain ⟨s5, es5, h0⟩ := nm_some h0
  refine x_copy (ws' := (wL cA h ad s5 ++ wL cA h2 ad2 τ)) hC (by rw [hml]; exact hl.1.symm) (hts (.methodLink RX1 63 arraycopyName) (List.mem_of_getElem? (i := 6) rfl)) (hts (.native arraycopyName) (List.mem_of_getElem? (i := 7) rfl)) (hts (.static arraycopyName) (List.mem_of_getElem? (i := 8) rfl)) (hts (.initialized "java/lang/System") (List.mem_of_getElem? (i := 9) rfl)) hK hP hD hS 18 1 0 0 rfl rfl rfl rfl rfl (sp := (0 : Int32)) (dp := (0 : Int32)) (n := (3 : Int32)) (by decide) (by decide) (by decide) (by decide) (by decide) (fun _ _ => rfl) (Nat.le_of_ble_eq_true rfl) (Nat.le_of_ble_eq_true rfl) (by rw [es5]; rfl) dX1_become_43 (fun H locs hP hD hS => ?_)
  refine lv_iconst (v := (1 : Int32)) hx hb dX1_become_46 (by decide) ?_
  refine lv_istore_n (lv' := [(2, .int (1 : Int32)), (0, .ref h), (1, .ref h2)]) hx hb dX1_become_47 rfl hl (by decide) rfl (fun ls hl => ?_)
  obtain ⟨ε1, hl1, h0⟩ := bnd_some h0
  have KN1 : ∀ (x10 : Int32) (s11 : St), ε1 = (x10, s11) → ∀ (H : Heap) (locs : List Loc), va_P (dC, dI) vwCl ((wL cA h ad s11 ++ wL cA h2 ad2 τ)) H → va_D A ((wL cA h ad s11 ++ wL cA h2 ad2 τ)) → va_S A s.heap H locs → ∀ (ls : Array Slot), lv_has ls 3 [(2, .int x10), (0, .ref h), (1, .ref h2)] → W p l e (headSpec wsX1_become rmX1_become).room s m av below meth c H locs 0 0 (MQ below (qV (dC, dI) A ((wL cA h ad σ' ++ wL cA h2 ad2 τ))) av s 0 0 A) (F0 m 79 ls []) := by
    intro x10 s11 hε H locs hP hD hS ls hl
    rw [hε] at h0
    have h0 := nm_at (z := x10) rfl h0
    have h0 := nm_at (z := s11) rfl h0
    refine lv_aload_n hx hb dX1_become_79 rfl (lv_at hl 2 rfl) ?_
    refine va_get (D := (dC, dI)) (ci := 1) (v := .ref (ad2 3)) (C := RX1) (T := TX1) (N := 16) hx hb hts hin0 hown hK hP 17 rfl rfl 3 (by decide) (hts (.fieldLink RX1 20 "MeanLocks$Locks" "row" "[I") (List.mem_of_getElem? (i := 11) rfl)) (fun _ h9 => h9) rfl dX1_become_80 ?_
    refine lv_iconst (v := (0 : Int32)) hx hb dX1_become_83 (by decide) ?_
    refine lv_aload_n hx hb dX1_become_84 rfl (lv_at hl 1 rfl) ?_
    refine va_get (D := (dC, dI)) (ci := 1) (v := .ref (ad 3)) (C := RX1) (T := TX1) (N := 16) hx hb hts hin0 hown hK hP 0 rfl rfl 3 (by decide) (hts (.fieldLink RX1 20 "MeanLocks$Locks" "row" "[I") (List.mem_of_getElem? (i := 11) rfl)) (fun _ h9 => h9) rfl dX1_become_85 ?_
    refine lv_iconst (v := (0 : Int32)) hx hb dX1_become_88 (by decide) ?_
    refine lv_bipush (v := (8 : Int32)) hx hb dX1_become_89 (by decide) ?_
    obtain ⟨s12, es12, h0⟩ := nm_some h0
    refine x_copy (ws' := (wL cA h ad s12 ++ wL cA h2 ad2 τ)) hC (by rw [hml]; exact hl.1.symm) (hts (.methodLink RX1 63 arraycopyName) (List.mem_of_getElem? (i := 6) rfl)) (hts (.native arraycopyName) (List.mem_of_getElem? (i := 7) rfl)) (hts (.static arraycopyName) (List.mem_of_getElem? (i := 8) rfl)) (hts (.initialized "java/lang/System") (List.mem_of_getElem? (i := 9) rfl)) hK hP hD hS 20 3 0 0 rfl rfl rfl rfl rfl (sp := (0 : Int32)) (dp := (0 : Int32)) (n := (8 : Int32)) (by decide) (by decide) (by decide) (by decide) (by decide) (fun _ _ => rfl) (Nat.le_of_ble_eq_true rfl) (Nat.le_of_ble_eq_true rfl) (by rw [es12]; rfl) dX1_become_91 (fun H locs hP hD hS => ?_)
    refine lv_aload_n hx hb dX1_become_94 rfl (lv_at hl 2 rfl) ?_
    refine va_get (D := (dC, dI)) (ci := 1) (v := .ref (ad2 5)) (C := RX1) (T := TX1) (N := 16) hx hb hts hin0 hown hK hP 17 rfl rfl 5 (by decide) (hts (.fieldLink RX1 23 "MeanLocks$Locks" "wanted" "[I") (List.mem_of_getElem? (i := 12) rfl)) (fun _ h9 => h9) rfl dX1_become_95 ?_
    refine lv_iconst (v := (0 : Int32)) hx hb dX1_become_98 (by decide) ?_
    refine lv_aload_n hx hb dX1_become_99 rfl (lv_at hl 1 rfl) ?_
    refine va_get (D := (dC, dI)) (ci := 1) (v := .ref (ad 5)) (C := RX1) (T := TX1) (N := 16) hx hb hts hin0 hown hK hP 0 rfl rfl 5 (by decide) (hts (.fieldLink RX1 23 "MeanLocks$Locks" "wanted" "[I") (List.mem_of_getElem? (i := 12) rfl)) (fun _ h9 => h9) rfl dX1_become_100 ?_
    refine lv_iconst (v := (0 : Int32)) hx hb dX1_become_103 (by decide) ?_
    refine lv_bipush (v := (8 : Int32)) hx hb dX1_become_104 (by decide) ?_
    obtain ⟨s13, es13, h0⟩ := nm_some h0
    refine x_copy (ws' := (wL cA h ad s13 ++ wL cA h2 ad2 τ)) hC (by rw [hml]; exact hl.1.symm) (hts (.methodLink RX1 63 arraycopyName) (List.mem_of_getElem? (i := 6) rfl)) (hts (.native arraycopyName) (List.mem_of_getElem? (i := 7) rfl)) (hts (.static arraycopyName) (List.mem_of_getElem? (i := 8) rfl)) (hts (.initialized "java/lang/System") (List.mem_of_getElem? (i := 9) rfl)) hK hP hD hS 21 4 0 0 rfl rfl rfl rfl rfl (sp := (0 : Int32)) (dp := (0 : Int32)) (n := (8 : Int32)) (by decide) (by decide) (by decide) (by decide) (by decide) (fun _ _ => rfl) (Nat.le_of_ble_eq_true rfl) (Nat.le_of_ble_eq_true rfl) (by rw [es13]; rfl) dX1_become_106 (fun H locs hP hD hS => ?_)
    refine lv_aload_n hx hb dX1_become_109 rfl (lv_at hl 2 rfl) ?_
    refine va_get (D := (dC, dI)) (ci := 1) (v := .ref (ad2 6)) (C := RX1) (T := TX1) (N := 16) hx hb hts hin0 hown hK hP 17 rfl rfl 6 (by decide) (hts (.fieldLink RX1 26 "MeanLocks$Locks" "from" "[I") (List.mem_of_getElem? (i := 13) rfl)) (fun _ h9 => h9) rfl dX1_become_110 ?_
    refine lv_iconst (v := (0 : Int32)) hx hb dX1_become_113 (by decide) ?_
    refine lv_aload_n hx hb dX1_become_114 rfl (lv_at hl 1 rfl) ?_
    refine va_get (D := (dC, dI)) (ci := 1) (v := .ref (ad 6)) (C := RX1) (T := TX1) (N := 16) hx hb hts hin0 hown hK hP 0 rfl rfl 6 (by decide) (hts (.fieldLink RX1 26 "MeanLocks$Locks" "from" "[I") (List.mem_of_getElem? (i := 13) rfl)) (fun _ h9 => h9) rfl dX1_become_115 ?_
    refine lv_iconst (v := (0 : Int32)) hx hb dX1_become_118 (by decide) ?_
    refine lv_bipush (v := (8 : Int32)) hx hb dX1_become_119 (by decide) ?_
    obtain ⟨s14, es14, h0⟩ := nm_some h0
    refine x_copy (ws' := (wL cA h ad s14 ++ wL cA h2 ad2 τ)) hC (by rw [hml]; exact hl.1.symm) (hts (.methodLink RX1 63 arraycopyName) (List.mem_of_getElem? (i := 6) rfl)) (hts (.native arraycopyName) (List.mem_of_getElem? (i := 7) rfl)) (hts (.static arraycopyName) (List.mem_of_getElem? (i := 8) rfl)) (hts (.initialized "java/lang/System") (List.mem_of_getElem? (i := 9) rfl)) hK hP hD hS 22 5 0 0 rfl rfl rfl rfl rfl (sp := (0 : Int32)) (dp := (0 : Int32)) (n := (8 : Int32)) (by decide) (by decide) (by decide) (by decide) (by decide) (fun _ _ => rfl) (Nat.le_of_ble_eq_true rfl) (Nat.le_of_ble_eq_true rfl) (by rw [es14]; rfl) dX1_become_121 (fun H locs hP hD hS => ?_)
    refine lv_aload_n hx hb dX1_become_124 rfl (lv_at hl 2 rfl) ?_
    refine va_get (D := (dC, dI)) (ci := 1) (v := .ref (ad2 7)) (C := RX1) (T := TX1) (N := 16) hx hb hts hin0 hown hK hP 17 rfl rfl 7 (by decide) (hts (.fieldLink RX1 29 "MeanLocks$Locks" "to" "[I") (List.mem_of_getElem? (i := 14) rfl)) (fun _ h9 => h9) rfl dX1_become_125 ?_
    refine lv_iconst (v := (0 : Int32)) hx hb dX1_become_128 (by decide) ?_
    refine lv_aload_n hx hb dX1_become_129 rfl (lv_at hl 1 rfl) ?_
    refine va_get (D := (dC, dI)) (ci := 1) (v := .ref (ad 7)) (C := RX1) (T := TX1) (N := 16) hx hb hts hin0 hown hK hP 0 rfl rfl 7 (by decide) (hts (.fieldLink RX1 29 "MeanLocks$Locks" "to" "[I") (List.mem_of_getElem? (i := 14) rfl)) (fun _ h9 => h9) rfl dX1_become_130 ?_
    refine lv_iconst (v := (0 : Int32)) hx hb dX1_become_133 (by decide) ?_
    refine lv_bipush (v := (8 : Int32)) hx hb dX1_become_134 (by decide) ?_
    obtain ⟨s15, es15, h0⟩ := nm_some h0
    refine x_copy (ws' := (wL cA h ad s15 ++ wL cA h2 ad2 τ)) hC (by rw [hml]; exact hl.1.symm) (hts (.methodLink RX1 63 arraycopyName) (List.mem_of_getElem? (i := 6) rfl)) (hts (.native arraycopyName) (List.mem_of_getElem? (i := 7) rfl)) (hts (.static arraycopyName) (List.mem_of_getElem? (i := 8) rfl)) (hts (.initialized "java/lang/System") (List.mem_of_getElem? (i := 9) rfl)) hK hP hD hS 23 6 0 0 rfl rfl rfl rfl rfl (sp := (0 : Int32)) (dp := (0 : Int32)) (n := (8 : Int32)) (by decide) (by decide) (by decide) (by decide) (by decide) (fun _ _ => rfl) (Nat.le_of_ble_eq_true rfl) (Nat.le_of_ble_eq_true rfl) (by rw [es15]; rfl) dX1_become_136 (fun H locs hP hD hS => ?_)
    refine lv_aload_n hx hb dX1_become_139 rfl (lv_at hl 2 rfl) ?_
    refine va_get (D := (dC, dI)) (ci := 1) (v := .ref (ad2 8)) (C := RX1) (T := TX1) (N := 16) hx hb hts hin0 hown hK hP 17 rfl rfl 8 (by decide) (hts (.fieldLink RX1 32 "MeanLocks$Locks" "waited" "[I") (List.mem_of_getElem? (i := 15) rfl)) (fun _ h9 => h9) rfl dX1_become_140 ?_
    refine lv_iconst (v := (0 : Int32)) hx hb dX1_become_143 (by decide) ?_
    refine lv_aload_n hx hb dX1_become_144 rfl (lv_at hl 1 rfl) ?_
    refine va_get (D := (dC, dI)) (ci := 1) (v := .ref (ad 8)) (C := RX1) (T := TX1) (N := 16) hx hb hts hin0 hown hK hP 0 rfl rfl 8 (by decide) (hts (.fieldLink RX1 32 "MeanLocks$Locks" "waited" "[I") (List.mem_of_getElem? (i := 15) rfl)) (fun _ h9 => h9) rfl dX1_become_145 ?_
    refine lv_iconst (v := (0 : Int32)) hx hb dX1_become_148 (by decide) ?_
    refine lv_bipush (v := (8 : Int32)) hx hb dX1_become_149 (by decide) ?_
    obtain ⟨s16, es16, h0⟩ := nm_some h0
    refine x_copy (ws' := (wL cA h ad s16 ++ wL cA h2 ad2 τ)) hC (by rw [hml]; exact hl.1.symm) (hts (.methodLink RX1 63 arraycopyName) (List.mem_of_getElem? (i := 6) rfl)) (hts (.native arraycopyName) (List.mem_of_getElem? (i := 7) rfl)) (hts (.static arraycopyName) (List.mem_of_getElem? (i := 8) rfl)) (hts (.initialized "java/lang/System") (List.mem_of_getElem? (i := 9) rfl)) hK hP hD hS 24 7 0 0 rfl rfl rfl rfl rfl (sp := (0 : Int32)) (dp := (0 : Int32)) (n := (8 : Int32)) (by decide) (by decide) (by decide) (by decide) (by decide) (fun _ _ => rfl) (Nat.le_of_ble_eq_true rfl) (Nat.le_of_ble_eq_true rfl) (by rw [es16]; rfl) dX1_become_151 (fun H locs hP hD hS => ?_)
    refine lv_aload_n hx hb dX1_become_154 rfl (lv_at hl 2 rfl) ?_
    refine va_get (D := (dC, dI)) (ci := 1) (v := .ref (ad2 9)) (C := RX1) (T := TX1) (N := 16) hx hb hts hin0 hown hK hP 17 rfl rfl 9 (by decide) (hts (.fieldLink RX1 35 "MeanLocks$Locks" "given" "[I") (List.mem_of_getElem? (i := 16) rfl)) (fun _ h9 => h9) rfl dX1_become_155 ?_
    refine lv_iconst (v := (0 : Int32)) hx hb dX1_become_158 (by decide) ?_
    refine lv_aload_n hx hb dX1_become_159 rfl (lv_at hl 1 rfl) ?_
    refine va_get (D := (dC, dI)) (ci := 1) (v := .ref (ad 9)) (C := RX1) (T := TX1) (N := 16) hx hb hts hin0 hown hK hP 0 rfl rfl 9 (by decide) (hts (.fieldLink RX1 35 "MeanLocks$Locks" "given" "[I") (List.mem_of_getElem? (i := 16) rfl)) (fun _ h9 => h9) rfl dX1_become_160 ?_
    refine lv_iconst (v := (0 : Int32)) hx hb dX1_become_163 (by decide) ?_
    refine lv_bipush (v := (8 : Int32)) hx hb dX1_become_164 (by decide) ?_
    obtain ⟨s17, es17, h0⟩ := nm_some h0
    refine x_copy (ws' := (wL cA h ad s17 ++ wL cA h2 ad2 τ)) hC (by rw [hml]; exact hl.1.symm) (hts (.methodLink RX1 63 arraycopyName) (List.mem_of_getElem? (i := 6) rfl)) (hts (.native arraycopyName) (List.mem_of_getElem? (i := 7) rfl)) (hts (.static arraycopyName) (List.mem_of_getElem? (i := 8) rfl)) (hts (.initialized "java/lang/System") (List.mem_of_getElem? (i := 9) rfl)) hK hP hD hS 25 8 0 0 rfl rfl rfl rfl rfl (sp := (0 : Int32)) (dp := (0 : Int32)) (n := (8 : Int32)) (by decide) (by decide) (by decide) (by decide) (by decide) (fun _ _ => rfl) (Nat.le_of_ble_eq_true rfl) (Nat.le_of_ble_eq_true rfl) (by rw [es17]; rfl) dX1_become_166 (fun H locs hP hD hS => ?_)
    refine lv_aload_n hx hb dX1_become_169 rfl (lv_at hl 2 rfl) ?_
    refine va_get (D := (dC, dI)) (ci := 1) (v := .ref (ad2 10)) (C := RX1) (T := TX1) (N := 16) hx hb hts hin0 hown hK hP 17 rfl rfl 10 (by decide) (hts (.fieldLink RX1 38 "MeanLocks$Locks" "begun" "[I") (List.mem_of_getElem? (i := 17) rfl)) (fun _ h9 => h9) rfl dX1_become_170 ?_
    refine lv_iconst (v := (0 : Int32)) hx hb dX1_become_173 (by decide) ?_
    refine lv_aload_n hx hb dX1_become_174 rfl (lv_at hl 1 rfl) ?_
    refine va_get (D := (dC, dI)) (ci := 1) (v := .ref (ad 10)) (C := RX1) (T := TX1) (N := 16) hx hb hts hin0 hown hK hP 0 rfl rfl 10 (by decide) (hts (.fieldLink RX1 38 "MeanLocks$Locks" "begun" "[I") (List.mem_of_getElem? (i := 17) rfl)) (fun _ h9 => h9) rfl dX1_become_175 ?_
    refine lv_iconst (v := (0 : Int32)) hx hb dX1_become_178 (by decide) ?_
    refine lv_bipush (v := (8 : Int32)) hx hb dX1_become_179 (by decide) ?_
    obtain ⟨s18, es18, h0⟩ := nm_some h0
    refine x_copy (ws' := (wL cA h ad s18 ++ wL cA h2 ad2 τ)) hC (by rw [hml]; exact hl.1.symm) (hts (.methodLink RX1 63 arraycopyName) (List.mem_of_getElem? (i := 6) rfl)) (hts (.native arraycopyName) (List.mem_of_getElem? (i := 7) rfl)) (hts (.static arraycopyName) (List.mem_of_getElem? (i := 8) rfl)) (hts (.initialized "java/lang/System") (List.mem_of_getElem? (i := 9) rfl)) hK hP hD hS 26 9 0 0 rfl rfl rfl rfl rfl (sp := (0 : Int32)) (dp := (0 : Int32)) (n := (8 : Int32)) (by decide) (by decide) (by decide) (by decide) (by decide) (fun _ _ => rfl) (Nat.le_of_ble_eq_true rfl) (Nat.le_of_ble_eq_true rfl) (by rw [es18]; rfl) dX1_become_181 (fun H locs hP hD hS => ?_)
    refine lv_aload_n hx hb dX1_become_184 rfl (lv_at hl 2 rfl) ?_
    refine va_get (D := (dC, dI)) (ci := 1) (v := .ref (ad2 11)) (C := RX1) (T := TX1) (N := 16) hx hb hts hin0 hown hK hP 17 rfl rfl 11 (by decide) (hts (.fieldLink RX1 41 "MeanLocks$Locks" "givenUp" "[I") (List.mem_of_getElem? (i := 18) rfl)) (fun _ h9 => h9) rfl dX1_become_185 ?_
    refine lv_iconst (v := (0 : Int32)) hx hb dX1_become_188 (by decide) ?_
    refine lv_aload_n hx hb dX1_become_189 rfl (lv_at hl 1 rfl) ?_
    refine va_get (D := (dC, dI)) (ci := 1) (v := .ref (ad 11)) (C := RX1) (T := TX1) (N := 16) hx hb hts hin0 hown hK hP 0 rfl rfl 11 (by decide) (hts (.fieldLink RX1 41 "MeanLocks$Locks" "givenUp" "[I") (List.mem_of_getElem? (i := 18) rfl)) (fun _ h9 => h9) rfl dX1_become_190 ?_
    refine lv_iconst (v := (0 : Int32)) hx hb dX1_become_193 (by decide) ?_
    refine lv_bipush (v := (8 : Int32)) hx hb dX1_become_194 (by decide) ?_
    obtain ⟨s19, es19, h0⟩ := nm_some h0
    refine x_copy (ws' := (wL cA h ad s19 ++ wL cA h2 ad2 τ)) hC (by rw [hml]; exact hl.1.symm) (hts (.methodLink RX1 63 arraycopyName) (List.mem_of_getElem? (i := 6) rfl)) (hts (.native arraycopyName) (List.mem_of_getElem? (i := 7) rfl)) (hts (.static arraycopyName) (List.mem_of_getElem? (i := 8) rfl)) (hts (.initialized "java/lang/System") (List.mem_of_getElem? (i := 9) rfl)) hK hP hD hS 27 10 0 0 rfl rfl rfl rfl rfl (sp := (0 : Int32)) (dp := (0 : Int32)) (n := (8 : Int32)) (by decide) (by decide) (by decide) (by decide) (by decide) (fun _ _ => rfl) (Nat.le_of_ble_eq_true rfl) (Nat.le_of_ble_eq_true rfl) (by rw [es19]; rfl) dX1_become_196 (fun H locs hP hD hS => ?_)
    refine lv_aload_n hx hb dX1_become_199 rfl (lv_at hl 2 rfl) ?_
    refine va_get (D := (dC, dI)) (ci := 1) (v := .ref (ad2 12)) (C := RX1) (T := TX1) (N := 16) hx hb hts hin0 hown hK hP 17 rfl rfl 12 (by decide) (hts (.fieldLink RX1 44 "MeanLocks$Locks" "longestWait" "[I") (List.mem_of_getElem? (i := 19) rfl)) (fun _ h9 => h9) rfl dX1_become_200 ?_
    refine lv_iconst (v := (0 : Int32)) hx hb dX1_become_203 (by decide) ?_
    refine lv_aload_n hx hb dX1_become_204 rfl (lv_at hl 1 rfl) ?_
    refine va_get (D := (dC, dI)) (ci := 1) (v := .ref (ad 12)) (C := RX1) (T := TX1) (N := 16) hx hb hts hin0 hown hK hP 0 rfl rfl 12 (by decide) (hts (.fieldLink RX1 44 "MeanLocks$Locks" "longestWait" "[I") (List.mem_of_getElem? (i := 19) rfl)) (fun _ h9 => h9) rfl dX1_become_205 ?_
    refine lv_iconst (v := (0 : Int32)) hx hb dX1_become_208 (by decide) ?_
    refine lv_bipush (v := (8 : Int32)) hx hb dX1_become_209 (by decide) ?_
    obtain ⟨s20, es20, h0⟩ := nm_some h0
    refine x_copy (ws' := (wL cA h ad s20 ++ wL cA h2 ad2 τ)) hC (by rw [hml]; exact hl.1.symm) (hts (.methodLink RX1 63 arraycopyName) (List.mem_of_getElem? (i := 6) rfl)) (hts (.native arraycopyName) (List.mem_of_getElem? (i := 7) rfl)) (hts (.static arraycopyName) (List.mem_of_getElem? (i := 8) rfl)) (hts (.initialized "java/lang/System") (List.mem_of_getElem? (i := 9) rfl)) hK hP hD hS 28 11 0 0 rfl rfl rfl rfl rfl (sp := (0 : Int32)) (dp := (0 : Int32)) (n := (8 : Int32)) (by decide) (by decide) (by decide) (by decide) (by decide) (fun _ _ => rfl) (Nat.le_of_ble_eq_true rfl) (Nat.le_of_ble_eq_true rfl) (by rw [es20]; rfl) dX1_become_211 (fun H locs hP hD hS => ?_)
    have e1 := Option.some.inj h0
    exact x_retV hC hr hlocks hP hD hS dX1_become_214 (by rw [← e1])
  have LP1 : ∀ (n : Nat) (x6 : Int32) (s7 : St), lp (fun t : (Int32 × St) => bX1_become_48 τ t.1 t.2) n (x6, s7) = some ε1 → ∀ (H : Heap) (locs : List Loc), va_P (dC, dI) vwCl ((wL cA h ad s7 ++ wL cA h2 ad2 τ)) H → va_D A ((wL cA h ad s7 ++ wL cA h2 ad2 τ)) → va_S A s.heap H locs → ∀ (ls : Array Slot), lv_has ls 3 [(2, .int x6), (0, .ref h), (1, .ref h2)] → W p l e (headSpec wsX1_become rmX1_become).room s m av below meth c H locs 0 0 (MQ below (qV (dC, dI) A ((wL cA h ad σ' ++ wL cA h2 ad2 τ))) av s 0 0 A) (F0 m 48 ls []) := by
    intro n
    induction n with
    | zero => intro x6 s7 hl0; exact (lp_0 hl0).elim
    | succ n ih1 =>
      intro x6 s7 hl0 H locs hP hD hS ls hl
      obtain ⟨z1, h1, hz1⟩ := lp_s hl0
      have h1 : bX1_become_48 τ x6 s7 = some z1 := h1
      unfold bX1_become_48 at h1
      refine lv_iload_n hx hb dX1_become_48 rfl (lv_at hl 0 rfl) ?_
      refine lv_iconst (v := (3 : Int32)) hx hb dX1_become_49 (by decide) ?_
      refine lv_icmp_gt (tgt := 79) hx hb dX1_become_50 (by decide) (fun hc => ?_) (fun hc => ?_)
      · have h1 := it_t h1 hc
        have he := lp_r h1 hz1
        exact KN1 x6 s7 he _ _ hP hD hS ls (lv_sub hl [0, 1, 2] rfl)
      · have h1 := it_f h1 hc
        refine lv_aload_n hx hb dX1_become_53 rfl (lv_at hl 2 rfl) ?_
        refine va_get (D := (dC, dI)) (ci := 1) (v := .ref (ad2 2)) (C := RX1) (T := TX1) (N := 16) hx hb hts hin0 hown hK hP 17 rfl rfl 2 (by decide) (hts (.fieldLink RX1 17 "MeanLocks$Locks" "atLeast" "[[I") (List.mem_of_getElem? (i := 10) rfl)) (fun _ h9 => h9) rfl dX1_become_54 ?_
        refine lv_iload_n hx hb dX1_become_57 rfl (lv_at hl 0 rfl) ?_
        obtain ⟨hi2, h1⟩ := ax_some h1
        refine x_aldA hx hb hK hP 19 4 rfl rfl hi2 rfl dX1_become_58 ?_
        refine lv_iconst (v := (0 : Int32)) hx hb dX1_become_59 (by decide) ?_
        refine lv_aload_n hx hb dX1_become_60 rfl (lv_at hl 1 rfl) ?_
        refine va_get (D := (dC, dI)) (ci := 1) (v := .ref (ad 2)) (C := RX1) (T := TX1) (N := 16) hx hb hts hin0 hown hK hP 0 rfl rfl 2 (by decide) (hts (.fieldLink RX1 17 "MeanLocks$Locks" "atLeast" "[[I") (List.mem_of_getElem? (i := 10) rfl)) (fun _ h9 => h9) rfl dX1_become_61 ?_
        refine lv_iload_n hx hb dX1_become_64 rfl (lv_at hl 0 rfl) ?_
        obtain ⟨hi3, h1⟩ := ax_some h1
        refine x_aldA hx hb hK hP 2 4 rfl rfl hi3 rfl dX1_become_65 ?_
        refine lv_iconst (v := (0 : Int32)) hx hb dX1_become_66 (by decide) ?_
        refine lv_sipush (v := (300 : Int32)) hx hb dX1_become_67 (by decide) ?_
        obtain ⟨s8, es8, h1⟩ := nm_some h1
        refine x_copy (ws' := (wL cA h ad s8 ++ wL cA h2 ad2 τ)) hC (by rw [hml]; exact hl.1.symm) (hts (.methodLink RX1 63 arraycopyName) (List.mem_of_getElem? (i := 6) rfl)) (hts (.native arraycopyName) (List.mem_of_getElem? (i := 7) rfl)) (hts (.static arraycopyName) (List.mem_of_getElem? (i := 8) rfl)) (hts (.initialized "java/lang/System") (List.mem_of_getElem? (i := 9) rfl)) hK hP hD hS (30 + (x6 : Int32).toNatClampNeg) (13 + (x6 : Int32).toNatClampNeg) 0 0 (wL2_rg cA h ad s7 h2 ad2 τ hi2) (wL2_rg1 cA h ad s7 h2 ad2 τ hi3) rfl rfl rfl (sp := (0 : Int32)) (dp := (0 : Int32)) (n := (300 : Int32)) (by decide) (by decide) (by decide) (by decide) (by decide) (fun _ _ => rfl) (Nat.le_of_ble_eq_true rfl) (Nat.le_of_ble_eq_true rfl) (by rw [es8]; exact wL2_rs cA h ad s7 h2 ad2 τ _ hi3) dX1_become_70 (fun H locs hP hD hS => ?_)
        obtain ⟨v9, ev9, h1⟩ := nm_some h1
        refine lv_iinc (v := v9) (lv' := [(2, .int v9), (0, .ref h), (1, .ref h2)]) hx hb dX1_become_73 hl (k := 0) rfl (by rw [ev9]; rfl) (by decide) rfl (fun ls hl => ?_)
        refine lv_goto (tgt := 48) hx hb dX1_become_76 (by decide) ?_
        have hc := lp_l h1 hz1
        exact ih1 v9 s8 hc _ _ hP hD hS ls (lv_sub hl [0, 1, 2] rfl)
  exact LP1 FU (1 : Int32) s5 hl1 _ _ hP hD hS ls hl
def fX0_settle (a1 : Int32) (σ : St) : Option (Int32 × St) := if (a1 : Int32) < (0 : Int32) then (some (a1, σ)) else (nm (put σ 1 (fun _ => ((σ 1 0) + (1 : Int32)) - ((σ 1 0) + (1 : Int32)) / (7 : Int32) * (7 : Int32))) fun s1 => nm (put s1 2 (fun _ => (if ((6 : Int32) : Int32) < ((s1 2 0) + (1 : Int32)) then (6 : Int32) else ((s1 2 0) + (1 : Int32))))) fun s2 => some (a1, s2))
abbrev rmX0_settle : Room := { frames := 1, cells := 0, slots := 0, locals := 22 }
set_option maxHeartbeats 4000000 in
set_option maxRecDepth 100000 in
theorem kX0_settle (l : Launch) (dC : Nat → ClassId) (dI : Nat → Nat → Nat) (cA : Nat → ClassId) (h : Nat) (ad : Nat → Nat) (a1 : Int32) (σ : St) (R0 : Int32) (σ' : St) (h0 : fX0_settle a1 σ = some (R0, σ')) : CI l yX0_settle wsX0_settle rmX0_settle (dC, dI) vwCl (tysW cA) [.ref h, .int a1] (wH cA h ad σ) R0 (wH cA h ad σ') := by
  refine CGI_of (cc := cX0_settle) (nL := 2) (ret := (some .int)) (by decide) rfl (Nat.le_of_ble_eq_true rfl) ?_
  intro p e s m av below meth c A ls H locs hC hl
  obtain ⟨hC, hr, hlocks, hV, hN, hK, hP, hD, hS, hA⟩ := hC
  have hC : CallFix p m c cX0_settle 2 s _ wsX0_settle RX0 := hC
  obtain ⟨hx, hb, hml, hown, hts⟩ := id hC
  have hin0 : ∀ w ∈ u_ws RX0 TX0 3, w ∈ wsX0_settle := fun _ h => (List.mem_cons_of_mem _ (List.mem_append_right _ h))
  have hl : lv_has ls 2 [(0, .ref h), (1, .int a1)] := hl
  unfold fX0_settle at h0
  refine lv_iload_n hx hb dX0_settle_0 rfl (lv_at hl 1 rfl) ?_
  refine lv_if_lt (tgt := 32) hx hb dX0_settle_1 (by decide) (fun hc => ?_) (fun hc => ?_)
  · have h0 := it_t h0 hc
    refine lv_iload_n hx hb dX0_settle_32 rfl (lv_at hl 1 rfl) ?_
    obtain ⟨e1, e2⟩ := Prod.mk.inj (Option.some.inj h0)
    exact x_retI hC hr hlocks rfl hP hD hS dX0_settle_33 ⟨e1, by rw [← e2]⟩
  · have h0 := it_f h0 hc
    refine lv_aload_n hx hb dX0_settle_4 rfl (lv_at hl 0 rfl) ?_
    refine lv_aload_n hx hb dX0_settle_5 rfl (lv_at hl 0 rfl) ?_
    refine va_get (D := (dC, dI)) (ci := 0) (v := .int (σ 1 0)) (C := RX0) (T := TX0) (N := 3) hx hb hts hin0 hown hK hP 0 rfl rfl 1 (by decide) (hts (.fieldLink RX0 17 "MeanLocks$History" "spare" "I") (List.mem_of_getElem? (i := 1) rfl)) (fun _ h9 => h9) rfl dX0_settle_6 ?_
    refine lv_iconst (v := (1 : Int32)) hx hb dX0_settle_9 (by decide) ?_
    refine lv_iadd hx hb dX0_settle_10 ?_
    refine lv_bipush (v := (7 : Int32)) hx hb dX0_settle_11 (by decide) ?_
    refine lv_irem hx hb dX0_settle_13 (by decide) ?_
    obtain ⟨s1, es1, h0⟩ := nm_some h0
    refine x_put (D := (dC, dI)) (ws' := wH cA h ad s1) (ci := 0) (fs := [.ref (ad 0), .int (σ 1 0), .int (σ 2 0)]) (v := .int (((σ 1 0) + (1 : Int32)) - ((σ 1 0) + (1 : Int32)) / (7 : Int32) * (7 : Int32))) (ty := .int) (C := RX0) (T := TX0) (N := 3) hC hin0 tyX0 tyX0_ok nmX0 hK hP hD hS 0 rfl rfl 1 (by decide) (hts (.fieldLink RX0 17 "MeanLocks$History" "spare" "I") (List.mem_of_getElem? (i := 1) rfl)) rfl rfl rfl rfl (by decide +kernel) (Nat.le_of_ble_eq_true rfl) (by rw [es1]; exact wH_s1 _ _ _ _ _) dX0_settle_14 (fun H locs hP hD hS => ?_)
    refine lv_aload_n hx hb dX0_settle_17 rfl (lv_at hl 0 rfl) ?_
    refine lv_aload_n hx hb dX0_settle_18 rfl (lv_at hl 0 rfl) ?_
    refine va_get (D := (dC, dI)) (ci := 0) (v := .int (s1 2 0)) (C := RX0) (T := TX0) (N := 3) hx hb hts hin0 hown hK hP 0 rfl rfl 2 (by decide) (hts (.fieldLink RX0 26 "MeanLocks$History" "kept" "I") (List.mem_of_getElem? (i := 2) rfl)) (fun _ h9 => h9) rfl dX0_settle_19 ?_
    refine lv_iconst (v := (1 : Int32)) hx hb dX0_settle_22 (by decide) ?_
    refine lv_iadd hx hb dX0_settle_23 ?_
    refine lv_bipush (v := (6 : Int32)) hx hb dX0_settle_24 (by decide) ?_
    refine va_mmin hx hb (by rw [hml]; exact hl.1.symm) hown (hts (.methodLink RX0 29 Lib.Math.min.name) (List.mem_of_getElem? (i := 3) rfl)) (hts (.static Lib.Math.min.name) (List.mem_of_getElem? (i := 4) rfl)) (hts (.initialized "java/lang/Math") (List.mem_of_getElem? (i := 5) rfl)) (hts (.code Lib.Math.min.name Lib.Math.min.code 2 (some .int)) (List.mem_of_getElem? (i := 6) rfl)) (Nat.le_of_ble_eq_true rfl) (Nat.le_of_ble_eq_true rfl) (Nat.zero_le _) (Nat.zero_le _) dX0_settle_26 ?_
    obtain ⟨s2, es2, h0⟩ := nm_some h0
    refine x_put (D := (dC, dI)) (ws' := wH cA h ad s2) (ci := 0) (fs := [.ref (ad 0), .int (s1 1 0), .int (s1 2 0)]) (v := .int (if ((6 : Int32) : Int32) < ((s1 2 0) + (1 : Int32)) then (6 : Int32) else ((s1 2 0) + (1 : Int32)))) (ty := .int) (C := RX0) (T := TX0) (N := 3) hC hin0 tyX0 tyX0_ok nmX0 hK hP hD hS 0 rfl rfl 2 (by decide) (hts (.fieldLink RX0 26 "MeanLocks$History" "kept" "I") (List.mem_of_getElem? (i := 2) rfl)) rfl rfl rfl rfl (by decide +kernel) (Nat.le_of_ble_eq_true rfl) (by rw [es2]; exact wH_s2 _ _ _ _ _) dX0_settle_29 (fun H locs hP hD hS => ?_)
    refine lv_iload_n hx hb dX0_settle_32 rfl (lv_at hl 1 rfl) ?_
    obtain ⟨e1, e2⟩ := Prod.mk.inj (Option.some.inj h0)
    exact x_retI hC hr hlocks rfl hP hD hS dX0_settle_33 ⟨e1, by rw [← e2]⟩
def bX1_allGiven_4 (σ : St) (x2 : Int32) (x1 : Int32) : Option ((Int32 × Int32) ⊕ (Int32 × Int32)) := if (8 : Int32) ≤ x1 then (some (.inr (x2, x1))) else (ax x1 8 (nm (x2 + (σ 9 (x1 : Int32).toNatClampNeg)) fun v3 => nm (x1 + (1 : Int32)) fun v4 => some (.inl (v3, v4))))
def fX1_allGiven (σ : St) : Option Int32 := bnd (lp (fun t : (Int32 × Int32) => bX1_allGiven_4 σ t.1 t.2) FU ((0 : Int32), (0 : Int32))) (fun e : (Int32 × Int32) => nm e.1 fun x5 => nm e.2 fun x6 => some x5)
abbrev rmX1_allGiven : Room := { frames := 0, cells := 0, slots := 0, locals := 0 }
set_option maxHeartbeats 4000000 in
set_option maxRecDepth 100000 in
theorem kX1_allGiven (l : Launch) (dC : Nat → ClassId) (dI : Nat → Nat → Nat) (cA : Nat → ClassId) (h : Nat) (ad : Nat → Nat) (σ : St) (R0 : Int32) (h0 : fX1_allGiven σ = some R0) : CI l yX1_allGiven wsX1_allGiven rmX1_allGiven (dC, dI) vwCl (tysW cA) [.ref h] (wL cA h ad σ) R0 (wL cA h ad σ) := by
  refine CGI_of (cc := cX1_allGiven) (nL := 3) (ret := (some .int)) (by decide) rfl (Nat.le_of_ble_eq_true rfl) ?_
  intro p e s m av below meth c A ls H locs hC hl
  obtain ⟨hC, hr, hlocks, hV, hN, hK, hP, hD, hS, hA⟩ := hC
  have hC : CallFix p m c cX1_allGiven 3 s _ wsX1_allGiven RX1 := hC
  obtain ⟨hx, hb, hml, hown, hts⟩ := id hC
  have hin0 : ∀ w ∈ u_ws RX1 TX1 16, w ∈ wsX1_allGiven := fun _ h => (List.mem_cons_of_mem _ (List.mem_append_right _ h))
  have hl : lv_has ls 3 [(0, .ref h)] := hl
  unfold fX1_allGiven at h0
  refine lv_iconst (v := (0 : Int32)) hx hb dX1_allGiven_0 (by decide) ?_
  refine lv_istore_n (lv' := [(1, .int (0 : Int32)), (0, .ref h)]) hx hb dX1_allGiven_1 rfl hl (by decide) rfl (fun ls hl => ?_)
  refine lv_iconst (v := (0 : Int32)) hx hb dX1_allGiven_2 (by decide) ?_
  refine lv_istore_n (lv' := [(2, .int (0 : Int32)), (1, .int (0 : Int32)), (0, .ref h)]) hx hb dX1_allGiven_3 rfl hl (by decide) rfl (fun ls hl => ?_)
  obtain ⟨ε1, hl1, h0⟩ := bnd_some h0
  have KN1 : ∀ (x5 : Int32) (x6 : Int32), ε1 = (x5, x6) → ∀ (H : Heap) (locs : List Loc), va_P (dC, dI) vwCl (wL cA h ad σ) H → va_D A (wL cA h ad σ) → va_S A s.heap H locs → ∀ (ls : Array Slot), lv_has ls 3 [(2, .int x6), (1, .int x5), (0, .ref h)] → W p l e (headSpec wsX1_allGiven rmX1_allGiven).room s m av below meth c H locs 0 0 (MQ below (qI (dC, dI) A R0 (wL cA h ad σ)) av s 0 0 A) (F0 m 25 ls []) := by
    intro x5 x6 hε H locs hP hD hS ls hl
    rw [hε] at h0
    have h0 := nm_at (z := x5) rfl h0
    have h0 := nm_at (z := x6) rfl h0
    refine lv_iload_n hx hb dX1_allGiven_25 rfl (lv_at hl 1 rfl) ?_
    have e1 := Option.some.inj h0
    exact x_retI hC hr hlocks rfl hP hD hS dX1_allGiven_26 ⟨e1, rfl⟩
  have LP1 : ∀ (n : Nat) (x2 : Int32) (x1 : Int32), lp (fun t : (Int32 × Int32) => bX1_allGiven_4 σ t.1 t.2) n (x2, x1) = some ε1 → ∀ (H : Heap) (locs : List Loc), va_P (dC, dI) vwCl (wL cA h ad σ) H → va_D A (wL cA h ad σ) → va_S A s.heap H locs → ∀ (ls : Array Slot), lv_has ls 3 [(2, .int x1), (1, .int x2), (0, .ref h)] → W p l e (headSpec wsX1_allGiven rmX1_allGiven).room s m av below meth c H locs 0 0 (MQ below (qI (dC, dI) A R0 (wL cA h ad σ)) av s 0 0 A) (F0 m 4 ls []) := by
    intro n
    induction n with
    | zero => intro x2 x1 hl0; exact (lp_0 hl0).elim
    | succ n ih1 =>
      intro x2 x1 hl0 H locs hP hD hS ls hl
      obtain ⟨z1, h1, hz1⟩ := lp_s hl0
      have h1 : bX1_allGiven_4 σ x2 x1 = some z1 := h1
      unfold bX1_allGiven_4 at h1
      refine lv_iload_n hx hb dX1_allGiven_4 rfl (lv_at hl 0 rfl) ?_
      refine lv_bipush (v := (8 : Int32)) hx hb dX1_allGiven_5 (by decide) ?_
      refine lv_icmp_ge (tgt := 25) hx hb dX1_allGiven_7 (by decide) (fun hc => ?_) (fun hc => ?_)
      · have h1 := it_t h1 hc
        have he := lp_r h1 hz1
        exact KN1 x2 x1 he _ _ hP hD hS ls (lv_sub hl [0, 1, 2] rfl)
      · have h1 := it_f h1 hc
        refine lv_iload_n hx hb dX1_allGiven_10 rfl (lv_at hl 1 rfl) ?_
        refine lv_aload_n hx hb dX1_allGiven_11 rfl (lv_at hl 2 rfl) ?_
        refine va_get (D := (dC, dI)) (ci := 1) (v := .ref (ad 9)) (C := RX1) (T := TX1) (N := 16) hx hb hts hin0 hown hK hP 0 rfl rfl 9 (by decide) (hts (.fieldLink RX1 35 "MeanLocks$Locks" "given" "[I") (List.mem_of_getElem? (i := 1) rfl)) (fun _ h9 => h9) rfl dX1_allGiven_12 ?_
        refine lv_iload_n hx hb dX1_allGiven_15 rfl (lv_at hl 0 rfl) ?_
        obtain ⟨hi, h1⟩ := ax_some h1
        refine va_iald hx hb hK hP 8 0 rfl rfl hi dX1_allGiven_16 ?_
        refine lv_iadd hx hb dX1_allGiven_17 ?_
        refine lv_topi (fun v3 ev3 => ?_)
        have h1 := nm_at ev3 h1
        refine lv_istore_n (lv' := [(1, .int v3), (2, .int x1), (0, .ref h)]) hx hb dX1_allGiven_18 rfl hl (by decide) rfl (fun ls hl => ?_)
        obtain ⟨v4, ev4, h1⟩ := nm_some h1
        refine lv_iinc (v := v4) (lv' := [(2, .int v4), (1, .int v3), (0, .ref h)]) hx hb dX1_allGiven_19 hl (k := 1) rfl (by rw [ev4]; rfl) (by decide) rfl (fun ls hl => ?_)
        refine lv_goto (tgt := 4) hx hb dX1_allGiven_22 (by decide) ?_
        have hc := lp_l h1 hz1
        exact ih1 v3 v4 hc _ _ hP hD hS ls (lv_sub hl [0, 1, 2] rfl)
  exact LP1 FU (0 : Int32) (0 : Int32) hl1 _ _ hP hD hS ls hl
def bX1_isWeaker_16 (a2 : Int32) (a4 : Int32) (σ : St) (v1 : Int32) (x2 : Int32) : Option (Int32 ⊕ (Int32 ⊕ Int32)) := if a4 ≤ x2 then (some (.inr (.inl x2))) else (ax x2 300 (if (((σ (16 + (a2 : Int32).toNatClampNeg) (x2 : Int32).toNatClampNeg) &&& v1) : Int32) = (0 : Int32) then (some (.inr (.inr (1 : Int32)))) else (nm (x2 + (1 : Int32)) fun v3 => some (.inl v3))))
def fX1_isWeaker (a1 : Int32) (a2 : Int32) (a3 : Int32) (a4 : Int32) (σ : St) : Option Int32 := nm ((1 : Int32) <<< (a1 &&& 31)) fun v1 => ax a2 4 (bnd (lp (fun t : Int32 => bX1_isWeaker_16 a2 a4 σ v1 t) FU a3) (fun e0 : (Int32 ⊕ Int32) => el e0 (fun e : Int32 => nm e fun x4 => some (0 : Int32)) (fun r : Int32 => some r)))
abbrev rmX1_isWeaker : Room := { frames := 0, cells := 0, slots := 0, locals := 0 }
set_option maxHeartbeats 4000000 in
set_option maxRecDepth 100000 in
theorem kX1_isWeaker (l : Launch) (dC : Nat → ClassId) (dI : Nat → Nat → Nat) (cA : Nat → ClassId) (h : Nat) (ad : Nat → Nat) (a1 : Int32) (a2 : Int32) (a3 : Int32) (a4 : Int32) (σ : St) (R0 : Int32) (h0 : fX1_isWeaker a1 a2 a3 a4 σ = some R0) : CI l yX1_isWeaker wsX1_isWeaker rmX1_isWeaker (dC, dI) vwCl (tysW cA) [.ref h, .int a1, .int a2, .int a3, .int a4] (wL cA h ad σ) R0 (wL cA h ad σ) := by
  refine CGI_of (cc := cX1_isWeaker) (nL := 8) (ret := (some .boolean)) (by decide) rfl (Nat.le_of_ble_eq_true rfl) ?_
  intro p e s m av below meth c A ls H locs hC hl
  obtain ⟨hC, hr, hlocks, hV, hN, hK, hP, hD, hS, hA⟩ := hC
  have hC : CallFix p m c cX1_isWeaker 8 s _ wsX1_isWeaker RX1 := hC
  obtain ⟨hx, hb, hml, hown, hts⟩ := id hC
  have hin0 : ∀ w ∈ u_ws RX1 TX1 16, w ∈ wsX1_isWeaker := fun _ h => (List.mem_cons_of_mem _ (List.mem_append_right _ h))
  have hl : lv_has ls 8 [(0, .ref h), (1, .int a1), (2, .int a2), (3, .int a3), (4, .int a4)] := hl
  unfold fX1_isWeaker at h0
  refine lv_iconst (v := (1 : Int32)) hx hb dX1_isWeaker_0 (by decide) ?_
  refine lv_iload_n hx hb dX1_isWeaker_1 rfl (lv_at hl 1 rfl) ?_
  refine lv_ishl hx hb dX1_isWeaker_2 ?_
  refine lv_topi (fun v1 ev1 => ?_)
  have h0 := nm_at ev1 h0
  refine lv_istore (lv' := [(5, .int v1), (0, .ref h), (1, .int a1), (2, .int a2), (3, .int a3), (4, .int a4)]) hx hb dX1_isWeaker_3 hl (by decide) rfl (fun ls hl => ?_)
  refine lv_aload_n hx hb dX1_isWeaker_5 rfl (lv_at hl 1 rfl) ?_
  refine va_get (D := (dC, dI)) (ci := 1) (v := .ref (ad 2)) (C := RX1) (T := TX1) (N := 16) hx hb hts hin0 hown hK hP 0 rfl rfl 2 (by decide) (hts (.fieldLink RX1 17 "MeanLocks$Locks" "atLeast" "[[I") (List.mem_of_getElem? (i := 1) rfl)) (fun _ h9 => h9) rfl dX1_isWeaker_6 ?_
  refine lv_iload_n hx hb dX1_isWeaker_9 rfl (lv_at hl 3 rfl) ?_
  obtain ⟨hi1, h0⟩ := ax_some h0
  refine x_aldA hx hb hK hP 2 4 rfl rfl hi1 rfl dX1_isWeaker_10 ?_
  refine lv_astore (lv' := [(6, .ref (ad (16 + (a2 : Int32).toNatClampNeg))), (5, .int v1), (0, .ref h), (1, .int a1), (2, .int a2), (3, .int a3), (4, .int a4)]) hx hb dX1_isWeaker_11 hl (by decide) rfl (fun ls hl => ?_)
  refine lv_iload_n hx hb dX1_isWeaker_13 rfl (lv_at hl 5 rfl) ?_
  refine lv_istore (lv' := [(7, .int a3), (6, .ref (ad (16 + (a2 : Int32).toNatClampNeg))), (5, .int v1), (0, .ref h), (1, .int a1), (2, .int a2), (3, .int a3), (4, .int a4)]) hx hb dX1_isWeaker_14 hl (by decide) rfl (fun ls hl => ?_)
  obtain ⟨ε2, hl2, h0⟩ := bnd_some h0
  have KN2 : ∀ (x4 : Int32), ε2 = .inl x4 → ∀ (H : Heap) (locs : List Loc), va_P (dC, dI) vwCl (wL cA h ad σ) H → va_D A (wL cA h ad σ) → va_S A s.heap H locs → ∀ (ls : Array Slot), lv_has ls 8 [(7, .int x4), (6, .ref (ad (16 + (a2 : Int32).toNatClampNeg))), (5, .int v1), (0, .ref h), (1, .int a1), (2, .int a2), (3, .int a3), (4, .int a4)] → W p l e (headSpec wsX1_isWeaker rmX1_isWeaker).room s m av below meth c H locs 0 0 (MQ below (qI (dC, dI) A R0 (wL cA h ad σ)) av s 0 0 A) (F0 m 42 ls []) := by
    intro x4 hε H locs hP hD hS ls hl
    rw [hε] at h0
    have h0 := el_l h0
    have h0 := nm_at (z := x4) rfl h0
    refine lv_iconst (v := (0 : Int32)) hx hb dX1_isWeaker_42 (by decide) ?_
    have e1 := Option.some.inj h0
    exact x_retI hC hr hlocks rfl hP hD hS dX1_isWeaker_43 ⟨e1, rfl⟩
  have LP2 : ∀ (n : Nat) (x2 : Int32), lp (fun t : Int32 => bX1_isWeaker_16 a2 a4 σ v1 t) n x2 = some ε2 → ∀ (H : Heap) (locs : List Loc), va_P (dC, dI) vwCl (wL cA h ad σ) H → va_D A (wL cA h ad σ) → va_S A s.heap H locs → ∀ (ls : Array Slot), lv_has ls 8 [(7, .int x2), (6, .ref (ad (16 + (a2 : Int32).toNatClampNeg))), (5, .int v1), (0, .ref h), (1, .int a1), (2, .int a2), (3, .int a3), (4, .int a4)] → W p l e (headSpec wsX1_isWeaker rmX1_isWeaker).room s m av below meth c H locs 0 0 (MQ below (qI (dC, dI) A R0 (wL cA h ad σ)) av s 0 0 A) (F0 m 16 ls []) := by
    intro n
    induction n with
    | zero => intro x2 hl0; exact (lp_0 hl0).elim
    | succ n ih2 =>
      intro x2 hl0 H locs hP hD hS ls hl
      obtain ⟨z2, h1, hz2⟩ := lp_s hl0
      have h1 : bX1_isWeaker_16 a2 a4 σ v1 x2 = some z2 := h1
      unfold bX1_isWeaker_16 at h1
      refine lv_iload hx hb dX1_isWeaker_16 (lv_at hl 0 rfl) ?_
      refine lv_iload hx hb dX1_isWeaker_18 (lv_at hl 7 rfl) ?_
      refine lv_icmp_ge (tgt := 42) hx hb dX1_isWeaker_20 (by decide) (fun hc => ?_) (fun hc => ?_)
      · have h1 := it_t h1 hc
        have he := lp_r h1 hz2
        exact KN2 x2 he _ _ hP hD hS ls (lv_sub hl [0, 1, 2, 3, 4, 5, 6, 7] rfl)
      · have h1 := it_f h1 hc
        refine lv_aload hx hb dX1_isWeaker_23 (lv_at hl 1 rfl) ?_
        refine lv_iload hx hb dX1_isWeaker_25 (lv_at hl 0 rfl) ?_
        obtain ⟨hi, h1⟩ := ax_some h1
        refine va_iald hx hb hK hP (13 + (a2 : Int32).toNatClampNeg) 0 (wL_rg cA h ad σ hi1) rfl hi dX1_isWeaker_27 ?_
        refine lv_iload hx hb dX1_isWeaker_28 (lv_at hl 2 rfl) ?_
        refine lv_iand hx hb dX1_isWeaker_30 ?_
        refine lv_if_ne (tgt := 36) hx hb dX1_isWeaker_31 (by decide) (fun hc => ?_) (fun hc => ?_)
        · have h1 := it_f h1 hc
          obtain ⟨v3, ev3, h1⟩ := nm_some h1
          refine lv_iinc (v := v3) (lv' := [(7, .int v3), (6, .ref (ad (16 + (a2 : Int32).toNatClampNeg))), (5, .int v1), (0, .ref h), (1, .int a1), (2, .int a2), (3, .int a3), (4, .int a4)]) hx hb dX1_isWeaker_36 hl (k := 0) rfl (by rw [ev3]; rfl) (by decide) rfl (fun ls hl => ?_)
          refine lv_goto (tgt := 16) hx hb dX1_isWeaker_39 (by decide) ?_
          have hc := lp_l h1 hz2
          exact ih2 v3 hc _ _ hP hD hS ls (lv_sub hl [0, 1, 2, 3, 4, 5, 6, 7] rfl)
        · have h1 := it_t h1 hc
          refine lv_iconst (v := (1 : Int32)) hx hb dX1_isWeaker_34 (by decide) ?_
          have he := lp_r h1 hz2
          rw [he] at h0
          have h0 := el_r h0
          have e1 := Option.some.inj h0
          exact x_retI hC hr hlocks rfl hP hD hS dX1_isWeaker_35 ⟨e1, rfl⟩
  exact LP2 FU a3 hl2 _ _ hP hD hS ls hl
def bX1_inWay_29 (a2 : Int32) (a4 : Int32) (σ : St) (v1 : Int32) (x3 : Int32) (x2 : Int32) : Option ((Int32 × Int32) ⊕ (Int32 × Int32)) := if a4 ≤ x2 then (some (.inr (x3, x2))) else (ax x2 300 (if (((σ (16 + (a2 : Int32).toNatClampNeg) (x2 : Int32).toNatClampNeg) &&& v1) : Int32) = (0 : Int32) then (ax x2 300 (nm (x3 ||| (σ (16 + ((4 : Int32) - a2 : Int32).toNatClampNeg) (x2 : Int32).toNatClampNeg)) fun v5 => nm (x2 + (1 : Int32)) fun v6 => some (.inl (v5, v6)))) else (nm (x2 + (1 : Int32)) fun v4 => some (.inl (x3, v4)))))
def bX1_inWay_66 (a1 : Int32) (a2 : Int32) (a3 : Int32) (a4 : Int32) (a5 : Int32) (σ : St) (x10 : Int32) (x9 : Int32) : Option ((Int32 × Int32) ⊕ (Int32 × Int32)) := if a5 ≤ x9 then (some (.inr (x10, x9))) else (ax (0 : Int32) 3 (if ((σ 0 ((0 : Int32) : Int32).toNatClampNeg) : Int32) = (1 : Int32) then (ax x9 8 (nm (σ 3 (x9 : Int32).toNatClampNeg) fun v11 => ax v11 8 (if (((σ 5 (v11 : Int32).toNatClampNeg) + a2) : Int32) < (4 : Int32) then (nm (x9 + (1 : Int32)) fun v12 => some (.inl (x10, v12))) else (bnd (fX3_holds x10 v11) fun r13 => if (r13 : Int32) = (0 : Int32) then (ax v11 8 (nm ((if (a3 : Int32) < (σ 6 (v11 : Int32).toNatClampNeg) then (σ 6 (v11 : Int32).toNatClampNeg) else a3)) fun v15 => ax v11 8 (nm ((if ((σ 7 (v11 : Int32).toNatClampNeg) : Int32) < a4 then (σ 7 (v11 : Int32).toNatClampNeg) else a4)) fun v16 => bnd (fX1_isWeaker a1 a2 v15 v16 σ) fun r17 => if (r17 : Int32) = (0 : Int32) then (nm (x9 + (1 : Int32)) fun v18 => some (.inl (x10, v18))) else (nm (x10 ||| ((1 : Int32) <<< (v11 &&& 31))) fun v19 => nm (x9 + (1 : Int32)) fun v20 => some (.inl (v19, v20)))))) else (nm (x9 + (1 : Int32)) fun v14 => some (.inl (x10, v14))))))) else (some (.inr (x10, x9)))))
def fX1_inWay (a1 : Int32) (a2 : Int32) (a3 : Int32) (a4 : Int32) (a5 : Int32) (σ : St) : Option Int32 := nm ((1 : Int32) <<< (a1 &&& 31)) fun v1 => ax a2 4 (ax ((4 : Int32) - a2) 4 (bnd (lp (fun t : (Int32 × Int32) => bX1_inWay_29 a2 a4 σ v1 t.1 t.2) FU ((0 : Int32), a3)) (fun e : (Int32 × Int32) => nm e.1 fun x7 => nm e.2 fun x8 => bnd (lp (fun t : (Int32 × Int32) => bX1_inWay_66 a1 a2 a3 a4 a5 σ t.1 t.2) FU (x7, (0 : Int32))) (fun e : (Int32 × Int32) => nm e.1 fun x21 => nm e.2 fun x22 => some (x21 &&& (v1 ^^^ (-1 : Int32)))))))
abbrev rmX1_inWay : Room := { frames := 1, cells := 0, slots := 0, locals := 27 }
set_option maxHeartbeats 4000000 in
set_option maxRecDepth 100000 in
theorem kX1_inWay (l : Launch) (dC : Nat → ClassId) (dI : Nat → Nat → Nat) (cA : Nat → ClassId) (h : Nat) (ad : Nat → Nat) (a1 : Int32) (a2 : Int32) (a3 : Int32) (a4 : Int32) (a5 : Int32) (σ : St) (R0 : Int32) (h0 : fX1_inWay a1 a2 a3 a4 a5 σ = some R0) : CI l yX1_inWay wsX1_inWay rmX1_inWay (dC, dI) vwCl (tysW cA) [.ref h, .int a1, .int a2, .int a3, .int a4, .int a5] (wL cA h ad σ) R0 (wL cA h ad σ) := by
  refine CGI_of (cc := cX1_inWay) (nL := 14) (ret := (some .int)) (by decide) rfl (Nat.le_of_ble_eq_true rfl) ?_
  intro p e s m av below meth c A ls H locs hC hl
  obtain ⟨hC, hr, hlocks, hV, hN, hK, hP, hD, hS, hA⟩ := hC
  have hC : CallFix p m c cX1_inWay 14 s _ wsX1_inWay RX1 := hC
  obtain ⟨hx, hb, hml, hown, hts⟩ := id hC
  have hin0 : ∀ w ∈ u_ws RX1 TX1 16, w ∈ wsX1_inWay := fun _ h => (List.mem_cons_of_mem _ (List.mem_append_right _ h))
  have hl : lv_has ls 14 [(0, .ref h), (1, .int a1), (2, .int a2), (3, .int a3), (4, .int a4), (5, .int a5)] := hl
  unfold fX1_inWay at h0
  refine lv_iconst (v := (1 : Int32)) hx hb dX1_inWay_0 (by decide) ?_
  refine lv_iload_n hx hb dX1_inWay_1 rfl (lv_at hl 1 rfl) ?_
  refine lv_ishl hx hb dX1_inWay_2 ?_
  refine lv_topi (fun v1 ev1 => ?_)
  have h0 := nm_at ev1 h0
  refine lv_istore (lv' := [(6, .int v1), (0, .ref h), (1, .int a1), (2, .int a2), (3, .int a3), (4, .int a4), (5, .int a5)]) hx hb dX1_inWay_3 hl (by decide) rfl (fun ls hl => ?_)
  refine lv_aload_n hx hb dX1_inWay_5 rfl (lv_at hl 1 rfl) ?_
  refine va_get (D := (dC, dI)) (ci := 1) (v := .ref (ad 2)) (C := RX1) (T := TX1) (N := 16) hx hb hts hin0 hown hK hP 0 rfl rfl 2 (by decide) (hts (.fieldLink RX1 17 "MeanLocks$Locks" "atLeast" "[[I") (List.mem_of_getElem? (i := 1) rfl)) (fun _ h9 => h9) rfl dX1_inWay_6 ?_
  refine lv_iload_n hx hb dX1_inWay_9 rfl (lv_at hl 3 rfl) ?_
  obtain ⟨hi1, h0⟩ := ax_some h0
  refine x_aldA hx hb hK hP 2 4 rfl rfl hi1 rfl dX1_inWay_10 ?_
  refine lv_astore (lv' := [(7, .ref (ad (16 + (a2 : Int32).toNatClampNeg))), (6, .int v1), (0, .ref h), (1, .int a1), (2, .int a2), (3, .int a3), (4, .int a4), (5, .int a5)]) hx hb dX1_inWay_11 hl (by decide) rfl (fun ls hl => ?_)
  refine lv_aload_n hx hb dX1_inWay_13 rfl (lv_at hl 2 rfl) ?_
  refine va_get (D := (dC, dI)) (ci := 1) (v := .ref (ad 2)) (C := RX1) (T := TX1) (N := 16) hx hb hts hin0 hown hK hP 0 rfl rfl 2 (by decide) (hts (.fieldLink RX1 17 "MeanLocks$Locks" "atLeast" "[[I") (List.mem_of_getElem? (i := 1) rfl)) (fun _ h9 => h9) rfl dX1_inWay_14 ?_
  refine lv_iconst (v := (4 : Int32)) hx hb dX1_inWay_17 (by decide) ?_
  refine lv_iload_n hx hb dX1_inWay_18 rfl (lv_at hl 4 rfl) ?_
  refine lv_isub hx hb dX1_inWay_19 ?_
  obtain ⟨hi2, h0⟩ := ax_some h0
  refine x_aldA hx hb hK hP 2 4 rfl rfl hi2 rfl dX1_inWay_20 ?_
  refine lv_astore (lv' := [(8, .ref (ad (16 + ((4 : Int32) - a2 : Int32).toNatClampNeg))), (7, .ref (ad (16 + (a2 : Int32).toNatClampNeg))), (6, .int v1), (0, .ref h), (1, .int a1), (2, .int a2), (3, .int a3), (4, .int a4), (5, .int a5)]) hx hb dX1_inWay_21 hl (by decide) rfl (fun ls hl => ?_)
  refine lv_iconst (v := (0 : Int32)) hx hb dX1_inWay_23 (by decide) ?_
  refine lv_istore (lv' := [(9, .int (0 : Int32)), (8, .ref (ad (16 + ((4 : Int32) - a2 : Int32).toNatClampNeg))), (7, .ref (ad (16 + (a2 : Int32).toNatClampNeg))), (6, .int v1), (0, .ref h), (1, .int a1), (2, .int a2), (3, .int a3), (4, .int a4), (5, .int a5)]) hx hb dX1_inWay_24 hl (by decide) rfl (fun ls hl => ?_)
  refine lv_iload_n hx hb dX1_inWay_26 rfl (lv_at hl 7 rfl) ?_
  refine lv_istore (lv' := [(10, .int a3), (9, .int (0 : Int32)), (8, .ref (ad (16 + ((4 : Int32) - a2 : Int32).toNatClampNeg))), (7, .ref (ad (16 + (a2 : Int32).toNatClampNeg))), (6, .int v1), (0, .ref h), (1, .int a1), (2, .int a2), (3, .int a3), (4, .int a4), (5, .int a5)]) hx hb dX1_inWay_27 hl (by decide) rfl (fun ls hl => ?_)
  obtain ⟨ε3, hl3, h0⟩ := bnd_some h0
  have KN3 : ∀ (x7 : Int32) (x8 : Int32), ε3 = (x7, x8) → ∀ (H : Heap) (locs : List Loc), va_P (dC, dI) vwCl (wL cA h ad σ) H → va_D A (wL cA h ad σ) → va_S A s.heap H locs → ∀ (ls : Array Slot), lv_has ls 14 [(10, .int x8), (9, .int x7), (8, .ref (ad (16 + ((4 : Int32) - a2 : Int32).toNatClampNeg))), (7, .ref (ad (16 + (a2 : Int32).toNatClampNeg))), (6, .int v1), (0, .ref h), (1, .int a1), (2, .int a2), (3, .int a3), (4, .int a4), (5, .int a5)] → W p l e (headSpec wsX1_inWay rmX1_inWay).room s m av below meth c H locs 0 0 (MQ below (qI (dC, dI) A R0 (wL cA h ad σ)) av s 0 0 A) (F0 m 63 ls []) := by
    intro x7 x8 hε H locs hP hD hS ls hl
    rw [hε] at h0
    have h0 := nm_at (z := x7) rfl h0
    have h0 := nm_at (z := x8) rfl h0
    refine lv_iconst (v := (0 : Int32)) hx hb dX1_inWay_63 (by decide) ?_
    refine lv_istore (lv' := [(10, .int (0 : Int32)), (9, .int x7), (8, .ref (ad (16 + ((4 : Int32) - a2 : Int32).toNatClampNeg))), (7, .ref (ad (16 + (a2 : Int32).toNatClampNeg))), (6, .int v1), (0, .ref h), (1, .int a1), (2, .int a2), (3, .int a3), (4, .int a4), (5, .int a5)]) hx hb dX1_inWay_64 hl (by decide) rfl (fun ls hl => ?_)
    obtain ⟨ε4, hl4, h0⟩ := bnd_some h0
    have KN4 : ∀ (x21 : Int32) (x22 : Int32), ε4 = (x21, x22) → ∀ (H : Heap) (locs : List Loc), va_P (dC, dI) vwCl (wL cA h ad σ) H → va_D A (wL cA h ad σ) → va_S A s.heap H locs → ∀ (ls : Array Slot), lv_has ls 14 [(10, .int x22), (9, .int x21), (8, .ref (ad (16 + ((4 : Int32) - a2 : Int32).toNatClampNeg))), (7, .ref (ad (16 + (a2 : Int32).toNatClampNeg))), (6, .int v1), (0, .ref h), (1, .int a1), (2, .int a2), (3, .int a3), (4, .int a4), (5, .int a5)] → W p l e (headSpec wsX1_inWay rmX1_inWay).room s m av below meth c H locs 0 0 (MQ below (qI (dC, dI) A R0 (wL cA h ad σ)) av s 0 0 A) (F0 m 170 ls []) := by
      intro x21 x22 hε H locs hP hD hS ls hl
      rw [hε] at h0
      have h0 := nm_at (z := x21) rfl h0
      have h0 := nm_at (z := x22) rfl h0
      refine lv_iload hx hb dX1_inWay_170 (lv_at hl 1 rfl) ?_
      refine lv_iload hx hb dX1_inWay_172 (lv_at hl 4 rfl) ?_
      refine lv_iconst (v := (-1 : Int32)) hx hb dX1_inWay_174 (by decide) ?_
      refine lv_ixor hx hb dX1_inWay_175 ?_
      refine lv_iand hx hb dX1_inWay_176 ?_
      have e1 := Option.some.inj h0
      exact x_retI hC hr hlocks rfl hP hD hS dX1_inWay_177 ⟨e1, rfl⟩
    have LP4 : ∀ (n : Nat) (x10 : Int32) (x9 : Int32), lp (fun t : (Int32 × Int32) => bX1_inWay_66 a1 a2 a3 a4 a5 σ t.1 t.2) n (x10, x9) = some ε4 → ∀ (H : Heap) (locs : List Loc), va_P (dC, dI) vwCl (wL cA h ad σ) H → va_D A (wL cA h ad σ) → va_S A s.heap H locs → ∀ (ls : Array Slot), lv_has ls 14 [(10, .int x9), (9, .int x10), (8, .ref (ad (16 + ((4 : Int32) - a2 : Int32).toNatClampNeg))), (7, .ref (ad (16 + (a2 : Int32).toNatClampNeg))), (6, .int v1), (0, .ref h), (1, .int a1), (2, .int a2), (3, .int a3), (4, .int a4), (5, .int a5)] → W p l e (headSpec wsX1_inWay rmX1_inWay).room s m av below meth c H locs 0 0 (MQ below (qI (dC, dI) A R0 (wL cA h ad σ)) av s 0 0 A) (F0 m 66 ls []) := by
      intro n
      induction n with
      | zero => intro x10 x9 hl0; exact (lp_0 hl0).elim
      | succ n ih4 =>
        intro x10 x9 hl0 H locs hP hD hS ls hl
        obtain ⟨z4, h1, hz4⟩ := lp_s hl0
        have h1 : bX1_inWay_66 a1 a2 a3 a4 a5 σ x10 x9 = some z4 := h1
        unfold bX1_inWay_66 at h1
        refine lv_iload hx hb dX1_inWay_66 (lv_at hl 0 rfl) ?_
        refine lv_iload hx hb dX1_inWay_68 (lv_at hl 10 rfl) ?_
        refine lv_icmp_ge (tgt := 170) hx hb dX1_inWay_70 (by decide) (fun hc => ?_) (fun hc => ?_)
        · have h1 := it_t h1 hc
          have he := lp_r h1 hz4
          exact KN4 x10 x9 he _ _ hP hD hS ls (lv_sub hl [0, 1, 2, 3, 4, 5, 6, 7, 8, 9, 10] rfl)
        · have h1 := it_f h1 hc
          refine lv_aload_n hx hb dX1_inWay_73 rfl (lv_at hl 5 rfl) ?_
          refine va_get (D := (dC, dI)) (ci := 1) (v := .ref (ad 0)) (C := RX1) (T := TX1) (N := 16) hx hb hts hin0 hown hK hP 0 rfl rfl 0 (by decide) (hts (.fieldLink RX1 9 "MeanLocks$Locks" "settings" "[I") (List.mem_of_getElem? (i := 2) rfl)) (fun _ h9 => h9) rfl dX1_inWay_74 ?_
          refine lv_iconst (v := (0 : Int32)) hx hb dX1_inWay_77 (by decide) ?_
          obtain ⟨hi, h1⟩ := ax_some h1
          refine va_iald hx hb hK hP 1 0 rfl rfl hi dX1_inWay_78 ?_
          refine lv_iconst (v := (1 : Int32)) hx hb dX1_inWay_79 (by decide) ?_
          refine lv_icmp_ne (tgt := 170) hx hb dX1_inWay_80 (by decide) (fun hc => ?_) (fun hc => ?_)
          · have h1 := it_f h1 hc
            have he := lp_r h1 hz4
            exact KN4 x10 x9 he _ _ hP hD hS ls (lv_sub hl [0, 1, 2, 3, 4, 5, 6, 7, 8, 9, 10] rfl)
          · have h1 := it_t h1 hc
            refine lv_aload_n hx hb dX1_inWay_83 rfl (lv_at hl 5 rfl) ?_
            refine va_get (D := (dC, dI)) (ci := 1) (v := .ref (ad 3)) (C := RX1) (T := TX1) (N := 16) hx hb hts hin0 hown hK hP 0 rfl rfl 3 (by decide) (hts (.fieldLink RX1 20 "MeanLocks$Locks" "row" "[I") (List.mem_of_getElem? (i := 3) rfl)) (fun _ h9 => h9) rfl dX1_inWay_84 ?_
            refine lv_iload hx hb dX1_inWay_87 (lv_at hl 0 rfl) ?_
            obtain ⟨hi, h1⟩ := ax_some h1
            refine va_iald hx hb hK hP 3 0 rfl rfl hi dX1_inWay_89 ?_
            refine lv_topi (fun v11 ev11 => ?_)
            have h1 := nm_at ev11 h1
            refine lv_istore (lv' := [(11, .int v11), (10, .int x9), (9, .int x10), (8, .ref (ad (16 + ((4 : Int32) - a2 : Int32).toNatClampNeg))), (7, .ref (ad (16 + (a2 : Int32).toNatClampNeg))), (6, .int v1), (0, .ref h), (1, .int a1), (2, .int a2), (3, .int a3), (4, .int a4), (5, .int a5)]) hx hb dX1_inWay_90 hl (by decide) rfl (fun ls hl => ?_)
            refine lv_aload_n hx hb dX1_inWay_92 rfl (lv_at hl 6 rfl) ?_
            refine va_get (D := (dC, dI)) (ci := 1) (v := .ref (ad 5)) (C := RX1) (T := TX1) (N := 16) hx hb hts hin0 hown hK hP 0 rfl rfl 5 (by decide) (hts (.fieldLink RX1 23 "MeanLocks$Locks" "wanted" "[I") (List.mem_of_getElem? (i := 4) rfl)) (fun _ h9 => h9) rfl dX1_inWay_93 ?_
            refine lv_iload hx hb dX1_inWay_96 (lv_at hl 0 rfl) ?_
            obtain ⟨hi, h1⟩ := ax_some h1
            refine va_iald hx hb hK hP 4 0 rfl rfl hi dX1_inWay_98 ?_
            refine lv_iload_n hx hb dX1_inWay_99 rfl (lv_at hl 8 rfl) ?_
            refine lv_iadd hx hb dX1_inWay_100 ?_
            refine lv_iconst (v := (4 : Int32)) hx hb dX1_inWay_101 (by decide) ?_
            refine lv_icmp_lt (tgt := 164) hx hb dX1_inWay_102 (by decide) (fun hc => ?_) (fun hc => ?_)
            · have h1 := it_t h1 hc
              obtain ⟨v12, ev12, h1⟩ := nm_some h1
              refine lv_iinc (v := v12) (lv' := [(10, .int v12), (11, .int v11), (9, .int x10), (8, .ref (ad (16 + ((4 : Int32) - a2 : Int32).toNatClampNeg))), (7, .ref (ad (16 + (a2 : Int32).toNatClampNeg))), (6, .int v1), (0, .ref h), (1, .int a1), (2, .int a2), (3, .int a3), (4, .int a4), (5, .int a5)]) hx hb dX1_inWay_164 hl (k := 1) rfl (by rw [ev12]; rfl) (by decide) rfl (fun ls hl => ?_)
              refine lv_goto (tgt := 66) hx hb dX1_inWay_167 (by decide) ?_
              have hc := lp_l h1 hz4
              exact ih4 x10 v12 hc _ _ hP hD hS ls (lv_sub hl [0, 2, 3, 4, 5, 6, 7, 8, 9, 10, 11] rfl)
            · have h1 := it_f h1 hc
              refine lv_iload hx hb dX1_inWay_105 (lv_at hl 2 rfl) ?_
              refine lv_iload hx hb dX1_inWay_107 (lv_at hl 0 rfl) ?_
              obtain ⟨r13, hf5, h1⟩ := bnd_some h1
              refine x_SNI (As := [.int x10, .int v11]) (rest := []) hC (kX3_holds l dC dI cA x10 v11 r13 hf5) ⟨va_cnB 2 hts gX1_inWay_X3_holds_n140 rfl rfl rfl (hN _ (List.mem_of_getElem? (i := 4) rfl)) (hts (.initialized RX3) (List.mem_of_getElem? (i := 15) rfl)) ⟨by decide +kernel, by decide +kernel, by decide +kernel⟩ ⟨Nat.le_of_ble_eq_true rfl, Nat.le_of_ble_eq_true rfl⟩, (hts (.static yX3_holds) (List.mem_of_getElem? (i := 14) rfl)), trivial⟩ hV hN hK hP hD hS hA rfl hl.1 rfl (Nat.le_of_ble_eq_true rfl) ⟨Nat.zero_le _, Nat.zero_le _⟩ dX1_inWay_109 (fun H locs hP hD hS => ?_)
              refine lv_if_ne (tgt := 164) hx hb dX1_inWay_112 (by decide) (fun hc => ?_) (fun hc => ?_)
              · have h1 := it_f h1 hc
                obtain ⟨v14, ev14, h1⟩ := nm_some h1
                refine lv_iinc (v := v14) (lv' := [(10, .int v14), (11, .int v11), (9, .int x10), (8, .ref (ad (16 + ((4 : Int32) - a2 : Int32).toNatClampNeg))), (7, .ref (ad (16 + (a2 : Int32).toNatClampNeg))), (6, .int v1), (0, .ref h), (1, .int a1), (2, .int a2), (3, .int a3), (4, .int a4), (5, .int a5)]) hx hb dX1_inWay_164 hl (k := 1) rfl (by rw [ev14]; rfl) (by decide) rfl (fun ls hl => ?_)
                refine lv_goto (tgt := 66) hx hb dX1_inWay_167 (by decide) ?_
                have hc := lp_l h1 hz4
                exact ih4 x10 v14 hc _ _ hP hD hS ls (lv_sub hl [0, 2, 3, 4, 5, 6, 7, 8, 9, 10, 11] rfl)
              · have h1 := it_t h1 hc
                refine lv_iload_n hx hb dX1_inWay_115 rfl (lv_at hl 9 rfl) ?_
                refine lv_aload_n hx hb dX1_inWay_116 rfl (lv_at hl 6 rfl) ?_
                refine va_get (D := (dC, dI)) (ci := 1) (v := .ref (ad 6)) (C := RX1) (T := TX1) (N := 16) hx hb hts hin0 hown hK hP 0 rfl rfl 6 (by decide) (hts (.fieldLink RX1 26 "MeanLocks$Locks" "from" "[I") (List.mem_of_getElem? (i := 5) rfl)) (fun _ h9 => h9) rfl dX1_inWay_117 ?_
                refine lv_iload hx hb dX1_inWay_120 (lv_at hl 0 rfl) ?_
                obtain ⟨hi, h1⟩ := ax_some h1
                refine va_iald hx hb hK hP 5 0 rfl rfl hi dX1_inWay_122 ?_
                refine va_mmax hx hb (by rw [hml]; exact hl.1.symm) hown (hts (.methodLink RX1 135 Lib.Math.max.name) (List.mem_of_getElem? (i := 6) rfl)) (hts (.static Lib.Math.max.name) (List.mem_of_getElem? (i := 7) rfl)) (hts (.initialized "java/lang/Math") (List.mem_of_getElem? (i := 8) rfl)) (hts (.code Lib.Math.max.name Lib.Math.max.code 2 (some .int)) (List.mem_of_getElem? (i := 9) rfl)) (Nat.le_of_ble_eq_true rfl) (Nat.le_of_ble_eq_true rfl) (Nat.zero_le _) (Nat.zero_le _) dX1_inWay_123 ?_
                refine lv_topi (fun v15 ev15 => ?_)
                have h1 := nm_at ev15 h1
                refine lv_istore (lv' := [(12, .int v15), (11, .int v11), (10, .int x9), (9, .int x10), (8, .ref (ad (16 + ((4 : Int32) - a2 : Int32).toNatClampNeg))), (7, .ref (ad (16 + (a2 : Int32).toNatClampNeg))), (6, .int v1), (0, .ref h), (1, .int a1), (2, .int a2), (3, .int a3), (4, .int a4), (5, .int a5)]) hx hb dX1_inWay_126 hl (by decide) rfl (fun ls hl => ?_)
                refine lv_iload hx hb dX1_inWay_128 (lv_at hl 11 rfl) ?_
                refine lv_aload_n hx hb dX1_inWay_130 rfl (lv_at hl 7 rfl) ?_
                refine va_get (D := (dC, dI)) (ci := 1) (v := .ref (ad 7)) (C := RX1) (T := TX1) (N := 16) hx hb hts hin0 hown hK hP 0 rfl rfl 7 (by decide) (hts (.fieldLink RX1 29 "MeanLocks$Locks" "to" "[I") (List.mem_of_getElem? (i := 10) rfl)) (fun _ h9 => h9) rfl dX1_inWay_131 ?_
                refine lv_iload hx hb dX1_inWay_134 (lv_at hl 1 rfl) ?_
                obtain ⟨hi, h1⟩ := ax_some h1
                refine va_iald hx hb hK hP 6 0 rfl rfl hi dX1_inWay_136 ?_
                refine va_mmin hx hb (by rw [hml]; exact hl.1.symm) hown (hts (.methodLink RX1 143 Lib.Math.min.name) (List.mem_of_getElem? (i := 11) rfl)) (hts (.static Lib.Math.min.name) (List.mem_of_getElem? (i := 12) rfl)) (hts (.initialized "java/lang/Math") (List.mem_of_getElem? (i := 8) rfl)) (hts (.code Lib.Math.min.name Lib.Math.min.code 2 (some .int)) (List.mem_of_getElem? (i := 13) rfl)) (Nat.le_of_ble_eq_true rfl) (Nat.le_of_ble_eq_true rfl) (Nat.zero_le _) (Nat.zero_le _) dX1_inWay_137 ?_
                refine lv_topi (fun v16 ev16 => ?_)
                have h1 := nm_at ev16 h1
                refine lv_istore (lv' := [(13, .int v16), (12, .int v15), (11, .int v11), (10, .int x9), (9, .int x10), (8, .ref (ad (16 + ((4 : Int32) - a2 : Int32).toNatClampNeg))), (7, .ref (ad (16 + (a2 : Int32).toNatClampNeg))), (6, .int v1), (0, .ref h), (1, .int a1), (2, .int a2), (3, .int a3), (4, .int a4), (5, .int a5)]) hx hb dX1_inWay_140 hl (by decide) rfl (fun ls hl => ?_)
                refine lv_aload_n hx hb dX1_inWay_142 rfl (lv_at hl 8 rfl) ?_
                refine lv_iload_n hx hb dX1_inWay_143 rfl (lv_at hl 9 rfl) ?_
                refine lv_iload_n hx hb dX1_inWay_144 rfl (lv_at hl 10 rfl) ?_
                refine lv_iload hx hb dX1_inWay_145 (lv_at hl 1 rfl) ?_
                refine lv_iload hx hb dX1_inWay_147 (lv_at hl 0 rfl) ?_
                obtain ⟨r17, hf6, h1⟩ := bnd_some h1
                refine x_VI (As := [.int a1, .int a2, .int v15, .int v16]) (rest := []) hC (kX1_isWeaker l dC dI cA h ad a1 a2 v15 v16 σ r17  hf6) (cwV 4 hts gX1_inWay_X1_isWeaker rfl rfl rfl (by decide +kernel) ⟨Nat.le_of_ble_eq_true rfl, Nat.le_of_ble_eq_true rfl⟩) 0 1 hV hN hK hP hD hS hA rfl rfl rfl rfl hl.1 rfl (Nat.le_of_ble_eq_true rfl) ⟨Nat.zero_le _, Nat.zero_le _⟩ dX1_inWay_149 (fun H locs hP hD hS => ?_)
                refine lv_if_eq (tgt := 164) hx hb dX1_inWay_152 (by decide) (fun hc => ?_) (fun hc => ?_)
                · have h1 := it_t h1 hc
                  obtain ⟨v18, ev18, h1⟩ := nm_some h1
                  refine lv_iinc (v := v18) (lv' := [(10, .int v18), (13, .int v16), (12, .int v15), (11, .int v11), (9, .int x10), (8, .ref (ad (16 + ((4 : Int32) - a2 : Int32).toNatClampNeg))), (7, .ref (ad (16 + (a2 : Int32).toNatClampNeg))), (6, .int v1), (0, .ref h), (1, .int a1), (2, .int a2), (3, .int a3), (4, .int a4), (5, .int a5)]) hx hb dX1_inWay_164 hl (k := 3) rfl (by rw [ev18]; rfl) (by decide) rfl (fun ls hl => ?_)
                  refine lv_goto (tgt := 66) hx hb dX1_inWay_167 (by decide) ?_
                  have hc := lp_l h1 hz4
                  exact ih4 x10 v18 hc _ _ hP hD hS ls (lv_sub hl [0, 4, 5, 6, 7, 8, 9, 10, 11, 12, 13] rfl)
                · have h1 := it_f h1 hc
                  refine lv_iload hx hb dX1_inWay_155 (lv_at hl 4 rfl) ?_
                  refine lv_iconst (v := (1 : Int32)) hx hb dX1_inWay_157 (by decide) ?_
                  refine lv_iload hx hb dX1_inWay_158 (lv_at hl 2 rfl) ?_
                  refine lv_ishl hx hb dX1_inWay_160 ?_
                  refine lv_ior hx hb dX1_inWay_161 ?_
                  refine lv_topi (fun v19 ev19 => ?_)
                  have h1 := nm_at ev19 h1
                  refine lv_istore (lv' := [(9, .int v19), (13, .int v16), (12, .int v15), (11, .int v11), (10, .int x9), (8, .ref (ad (16 + ((4 : Int32) - a2 : Int32).toNatClampNeg))), (7, .ref (ad (16 + (a2 : Int32).toNatClampNeg))), (6, .int v1), (0, .ref h), (1, .int a1), (2, .int a2), (3, .int a3), (4, .int a4), (5, .int a5)]) hx hb dX1_inWay_162 hl (by decide) rfl (fun ls hl => ?_)
                  obtain ⟨v20, ev20, h1⟩ := nm_some h1
                  refine lv_iinc (v := v20) (lv' := [(10, .int v20), (9, .int v19), (13, .int v16), (12, .int v15), (11, .int v11), (8, .ref (ad (16 + ((4 : Int32) - a2 : Int32).toNatClampNeg))), (7, .ref (ad (16 + (a2 : Int32).toNatClampNeg))), (6, .int v1), (0, .ref h), (1, .int a1), (2, .int a2), (3, .int a3), (4, .int a4), (5, .int a5)]) hx hb dX1_inWay_164 hl (k := 4) rfl (by rw [ev20]; rfl) (by decide) rfl (fun ls hl => ?_)
                  refine lv_goto (tgt := 66) hx hb dX1_inWay_167 (by decide) ?_
                  have hc := lp_l h1 hz4
                  exact ih4 v19 v20 hc _ _ hP hD hS ls (lv_sub hl [0, 1, 5, 6, 7, 8, 9, 10, 11, 12, 13] rfl)
    exact LP4 FU x7 (0 : Int32) hl4 _ _ hP hD hS ls hl
  have LP3 : ∀ (n : Nat) (x3 : Int32) (x2 : Int32), lp (fun t : (Int32 × Int32) => bX1_inWay_29 a2 a4 σ v1 t.1 t.2) n (x3, x2) = some ε3 → ∀ (H : Heap) (locs : List Loc), va_P (dC, dI) vwCl (wL cA h ad σ) H → va_D A (wL cA h ad σ) → va_S A s.heap H locs → ∀ (ls : Array Slot), lv_has ls 14 [(10, .int x2), (9, .int x3), (8, .ref (ad (16 + ((4 : Int32) - a2 : Int32).toNatClampNeg))), (7, .ref (ad (16 + (a2 : Int32).toNatClampNeg))), (6, .int v1), (0, .ref h), (1, .int a1), (2, .int a2), (3, .int a3), (4, .int a4), (5, .int a5)] → W p l e (headSpec wsX1_inWay rmX1_inWay).room s m av below meth c H locs 0 0 (MQ below (qI (dC, dI) A R0 (wL cA h ad σ)) av s 0 0 A) (F0 m 29 ls []) := by
    intro n
    induction n with
    | zero => intro x3 x2 hl0; exact (lp_0 hl0).elim
    | succ n ih3 =>
      intro x3 x2 hl0 H locs hP hD hS ls hl
      obtain ⟨z3, h1, hz3⟩ := lp_s hl0
      have h1 : bX1_inWay_29 a2 a4 σ v1 x3 x2 = some z3 := h1
      unfold bX1_inWay_29 at h1
      refine lv_iload hx hb dX1_inWay_29 (lv_at hl 0 rfl) ?_
      refine lv_iload hx hb dX1_inWay_31 (lv_at hl 9 rfl) ?_
      refine lv_icmp_ge (tgt := 63) hx hb dX1_inWay_33 (by decide) (fun hc => ?_) (fun hc => ?_)
      · have h1 := it_t h1 hc
        have he := lp_r h1 hz3
        exact KN3 x3 x2 he _ _ hP hD hS ls (lv_sub hl [0, 1, 2, 3, 4, 5, 6, 7, 8, 9, 10] rfl)
      · have h1 := it_f h1 hc
        refine lv_aload hx hb dX1_inWay_36 (lv_at hl 3 rfl) ?_
        refine lv_iload hx hb dX1_inWay_38 (lv_at hl 0 rfl) ?_
        obtain ⟨hi, h1⟩ := ax_some h1
        refine va_iald hx hb hK hP (13 + (a2 : Int32).toNatClampNeg) 0 (wL_rg cA h ad σ hi1) rfl hi dX1_inWay_40 ?_
        refine lv_iload hx hb dX1_inWay_41 (lv_at hl 4 rfl) ?_
        refine lv_iand hx hb dX1_inWay_43 ?_
        refine lv_if_ne (tgt := 57) hx hb dX1_inWay_44 (by decide) (fun hc => ?_) (fun hc => ?_)
        · have h1 := it_f h1 hc
          obtain ⟨v4, ev4, h1⟩ := nm_some h1
          refine lv_iinc (v := v4) (lv' := [(10, .int v4), (9, .int x3), (8, .ref (ad (16 + ((4 : Int32) - a2 : Int32).toNatClampNeg))), (7, .ref (ad (16 + (a2 : Int32).toNatClampNeg))), (6, .int v1), (0, .ref h), (1, .int a1), (2, .int a2), (3, .int a3), (4, .int a4), (5, .int a5)]) hx hb dX1_inWay_57 hl (k := 0) rfl (by rw [ev4]; rfl) (by decide) rfl (fun ls hl => ?_)
          refine lv_goto (tgt := 29) hx hb dX1_inWay_60 (by decide) ?_
          have hc := lp_l h1 hz3
          exact ih3 x3 v4 hc _ _ hP hD hS ls (lv_sub hl [0, 1, 2, 3, 4, 5, 6, 7, 8, 9, 10] rfl)
        · have h1 := it_t h1 hc
          refine lv_iload hx hb dX1_inWay_47 (lv_at hl 1 rfl) ?_
          refine lv_aload hx hb dX1_inWay_49 (lv_at hl 2 rfl) ?_
          refine lv_iload hx hb dX1_inWay_51 (lv_at hl 0 rfl) ?_
          obtain ⟨hi, h1⟩ := ax_some h1
          refine va_iald hx hb hK hP (13 + ((4 : Int32) - a2 : Int32).toNatClampNeg) 0 (wL_rg cA h ad σ hi2) rfl hi dX1_inWay_53 ?_
          refine lv_ior hx hb dX1_inWay_54 ?_
          refine lv_topi (fun v5 ev5 => ?_)
          have h1 := nm_at ev5 h1
          refine lv_istore (lv' := [(9, .int v5), (10, .int x2), (8, .ref (ad (16 + ((4 : Int32) - a2 : Int32).toNatClampNeg))), (7, .ref (ad (16 + (a2 : Int32).toNatClampNeg))), (6, .int v1), (0, .ref h), (1, .int a1), (2, .int a2), (3, .int a3), (4, .int a4), (5, .int a5)]) hx hb dX1_inWay_55 hl (by decide) rfl (fun ls hl => ?_)
          obtain ⟨v6, ev6, h1⟩ := nm_some h1
          refine lv_iinc (v := v6) (lv' := [(10, .int v6), (9, .int v5), (8, .ref (ad (16 + ((4 : Int32) - a2 : Int32).toNatClampNeg))), (7, .ref (ad (16 + (a2 : Int32).toNatClampNeg))), (6, .int v1), (0, .ref h), (1, .int a1), (2, .int a2), (3, .int a3), (4, .int a4), (5, .int a5)]) hx hb dX1_inWay_57 hl (k := 1) rfl (by rw [ev6]; rfl) (by decide) rfl (fun ls hl => ?_)
          refine lv_goto (tgt := 29) hx hb dX1_inWay_60 (by decide) ?_
          have hc := lp_l h1 hz3
          exact ih3 v5 v6 hc _ _ hP hD hS ls (lv_sub hl [0, 1, 2, 3, 4, 5, 6, 7, 8, 9, 10] rfl)
  exact LP3 FU (0 : Int32) a3 hl3 _ _ hP hD hS ls hl
def bX1_lock_8 (a2 : Int32) (a3 : Int32) (v1 : Int32) (x2 : Int32) (s3 : St) : Option ((Int32 × St) ⊕ (Int32 × St)) := if a3 < x2 then (some (.inr (x2, s3))) else (ax x2 4 (ax a2 300 (ax a2 300 (nm (put s3 (16 + (x2 : Int32).toNatClampNeg) (upd (s3 (16 + (x2 : Int32).toNatClampNeg)) (a2 : Int32).toNatClampNeg ((s3 (16 + (x2 : Int32).toNatClampNeg) (a2 : Int32).toNatClampNeg) ||| v1))) fun s4 => nm (x2 + (1 : Int32)) fun v5 => some (.inl (v5, s4))))))
def bX1_lock_39 (a2 : Int32) (v1 : Int32) (x9 : Int32) (s10 : St) : Option ((Int32 × St) ⊕ (Int32 × St)) := if (3 : Int32) < x9 then (some (.inr (x9, s10))) else (ax x9 4 (ax a2 300 (ax a2 300 (nm (put s10 (16 + (x9 : Int32).toNatClampNeg) (upd (s10 (16 + (x9 : Int32).toNatClampNeg)) (a2 : Int32).toNatClampNeg ((s10 (16 + (x9 : Int32).toNatClampNeg) (a2 : Int32).toNatClampNeg) &&& (v1 ^^^ (-1 : Int32))))) fun s11 => nm (x9 + (1 : Int32)) fun v12 => some (.inl (v12, s11))))))
def fX1_lock (a1 : Int32) (a2 : Int32) (a3 : Int32) (σ : St) : Option St := nm ((1 : Int32) <<< (a1 &&& 31)) fun v1 => bnd (lp (fun t : (Int32 × St) => bX1_lock_8 a2 a3 v1 t.1 t.2) FU ((1 : Int32), σ)) (fun e : (Int32 × St) => nm e.1 fun x6 => nm e.2 fun s7 => nm (a3 + (1 : Int32)) fun v8 => bnd (lp (fun t : (Int32 × St) => bX1_lock_39 a2 v1 t.1 t.2) FU (v8, s7)) (fun e : (Int32 × St) => nm e.1 fun x13 => nm e.2 fun s14 => some s14))
abbrev rmX1_lock : Room := { frames := 0, cells := 0, slots := 0, locals := 0 }
set_option maxHeartbeats 4000000 in
set_option maxRecDepth 100000 in
theorem kX1_lock (l : Launch) (dC : Nat → ClassId) (dI : Nat → Nat → Nat) (cA : Nat → ClassId) (h : Nat) (ad : Nat → Nat) (a1 : Int32) (a2 : Int32) (a3 : Int32) (σ : St) (σ' : St) (h0 : fX1_lock a1 a2 a3 σ = some σ') : CV l yX1_lock wsX1_lock rmX1_lock (dC, dI) vwCl (tysW cA) [.ref h, .int a1, .int a2, .int a3] (wL cA h ad σ) (wL cA h ad σ') := by
  refine CGV_of (cc := cX1_lock) (nL := 6) (ret := none) (by decide) rfl (Nat.le_of_ble_eq_true rfl) ?_
  intro p e s m av below meth c A ls H locs hC hl
  obtain ⟨hC, hr, hlocks, hV, hN, hK, hP, hD, hS, hA⟩ := hC
  have hC : CallFix p m c cX1_lock 6 s _ wsX1_lock RX1 := hC
  obtain ⟨hx, hb, hml, hown, hts⟩ := id hC
  have hin0 : ∀ w ∈ u_ws RX1 TX1 16, w ∈ wsX1_lock := fun _ h => (List.mem_cons_of_mem _ (List.mem_append_right _ h))
  have hl : lv_has ls 6 [(0, .ref h), (1, .int a1), (2, .int a2), (3, .int a3)] := hl
  unfold fX1_lock at h0
  refine lv_iconst (v := (1 : Int32)) hx hb dX1_lock_0 (by decide) ?_
  refine lv_iload_n hx hb dX1_lock_1 rfl (lv_at hl 1 rfl) ?_
  refine lv_ishl hx hb dX1_lock_2 ?_
  refine lv_topi (fun v1 ev1 => ?_)
  have h0 := nm_at ev1 h0
  refine lv_istore (lv' := [(4, .int v1), (0, .ref h), (1, .int a1), (2, .int a2), (3, .int a3)]) hx hb dX1_lock_3 hl (by decide) rfl (fun ls hl => ?_)
  refine lv_iconst (v := (1 : Int32)) hx hb dX1_lock_5 (by decide) ?_
  refine lv_istore (lv' := [(5, .int (1 : Int32)), (4, .int v1), (0, .ref h), (1, .int a1), (2, .int a2), (3, .int a3)]) hx hb dX1_lock_6 hl (by decide) rfl (fun ls hl => ?_)
  obtain ⟨ε1, hl1, h0⟩ := bnd_some h0
  have KN1 : ∀ (x6 : Int32) (s7 : St), ε1 = (x6, s7) → ∀ (H : Heap) (locs : List Loc), va_P (dC, dI) vwCl (wL cA h ad s7) H → va_D A (wL cA h ad s7) → va_S A s.heap H locs → ∀ (ls : Array Slot), lv_has ls 6 [(5, .int x6), (4, .int v1), (0, .ref h), (1, .int a1), (2, .int a2), (3, .int a3)] → W p l e (headSpec wsX1_lock rmX1_lock).room s m av below meth c H locs 0 0 (MQ below (qV (dC, dI) A (wL cA h ad σ')) av s 0 0 A) (F0 m 34 ls []) := by
    intro x6 s7 hε H locs hP hD hS ls hl
    rw [hε] at h0
    have h0 := nm_at (z := x6) rfl h0
    have h0 := nm_at (z := s7) rfl h0
    refine lv_iload_n hx hb dX1_lock_34 rfl (lv_at hl 5 rfl) ?_
    refine lv_iconst (v := (1 : Int32)) hx hb dX1_lock_35 (by decide) ?_
    refine lv_iadd hx hb dX1_lock_36 ?_
    refine lv_topi (fun v8 ev8 => ?_)
    have h0 := nm_at ev8 h0
    refine lv_istore (lv' := [(5, .int v8), (4, .int v1), (0, .ref h), (1, .int a1), (2, .int a2), (3, .int a3)]) hx hb dX1_lock_37 hl (by decide) rfl (fun ls hl => ?_)
    obtain ⟨ε3, hl3, h0⟩ := bnd_some h0
    have KN3 : ∀ (x13 : Int32) (s14 : St), ε3 = (x13, s14) → ∀ (H : Heap) (locs : List Loc), va_P (dC, dI) vwCl (wL cA h ad s14) H → va_D A (wL cA h ad s14) → va_S A s.heap H locs → ∀ (ls : Array Slot), lv_has ls 6 [(5, .int x13), (4, .int v1), (0, .ref h), (1, .int a1), (2, .int a2), (3, .int a3)] → W p l e (headSpec wsX1_lock rmX1_lock).room s m av below meth c H locs 0 0 (MQ below (qV (dC, dI) A (wL cA h ad σ')) av s 0 0 A) (F0 m 67 ls []) := by
      intro x13 s14 hε H locs hP hD hS ls hl
      rw [hε] at h0
      have h0 := nm_at (z := x13) rfl h0
      have h0 := nm_at (z := s14) rfl h0
      have e1 := Option.some.inj h0
      exact x_retV hC hr hlocks hP hD hS dX1_lock_67 (by rw [← e1])
    have LP3 : ∀ (n : Nat) (x9 : Int32) (s10 : St), lp (fun t : (Int32 × St) => bX1_lock_39 a2 v1 t.1 t.2) n (x9, s10) = some ε3 → ∀ (H : Heap) (locs : List Loc), va_P (dC, dI) vwCl (wL cA h ad s10) H → va_D A (wL cA h ad s10) → va_S A s.heap H locs → ∀ (ls : Array Slot), lv_has ls 6 [(5, .int x9), (4, .int v1), (0, .ref h), (1, .int a1), (2, .int a2), (3, .int a3)] → W p l e (headSpec wsX1_lock rmX1_lock).room s m av below meth c H locs 0 0 (MQ below (qV (dC, dI) A (wL cA h ad σ')) av s 0 0 A) (F0 m 39 ls []) := by
      intro n
      induction n with
      | zero => intro x9 s10 hl0; exact (lp_0 hl0).elim
      | succ n ih3 =>
        intro x9 s10 hl0 H locs hP hD hS ls hl
        obtain ⟨z3, h1, hz3⟩ := lp_s hl0
        have h1 : bX1_lock_39 a2 v1 x9 s10 = some z3 := h1
        unfold bX1_lock_39 at h1
        refine lv_iload hx hb dX1_lock_39 (lv_at hl 0 rfl) ?_
        refine lv_iconst (v := (3 : Int32)) hx hb dX1_lock_41 (by decide) ?_
        refine lv_icmp_gt (tgt := 67) hx hb dX1_lock_42 (by decide) (fun hc => ?_) (fun hc => ?_)
        · have h1 := it_t h1 hc
          have he := lp_r h1 hz3
          exact KN3 x9 s10 he _ _ hP hD hS ls (lv_sub hl [0, 1, 2, 3, 4, 5] rfl)
        · have h1 := it_f h1 hc
          refine lv_aload_n hx hb dX1_lock_45 rfl (lv_at hl 2 rfl) ?_
          refine va_get (D := (dC, dI)) (ci := 1) (v := .ref (ad 2)) (C := RX1) (T := TX1) (N := 16) hx hb hts hin0 hown hK hP 0 rfl rfl 2 (by decide) (hts (.fieldLink RX1 17 "MeanLocks$Locks" "atLeast" "[[I") (List.mem_of_getElem? (i := 1) rfl)) (fun _ h9 => h9) rfl dX1_lock_46 ?_
          refine lv_iload hx hb dX1_lock_49 (lv_at hl 0 rfl) ?_
          obtain ⟨hi4, h1⟩ := ax_some h1
          refine x_aldA hx hb hK hP 2 4 rfl rfl hi4 rfl dX1_lock_51 ?_
          refine lv_iload_n hx hb dX1_lock_52 rfl (lv_at hl 4 rfl) ?_
          refine lv_dup2_11 hx hb dX1_lock_53 rfl rfl ?_
          obtain ⟨hi, h1⟩ := ax_some h1
          refine va_iald hx hb hK hP (13 + (x9 : Int32).toNatClampNeg) 0 (wL_rg cA h ad s10 hi4) rfl hi dX1_lock_54 ?_
          refine lv_iload hx hb dX1_lock_55 (lv_at hl 1 rfl) ?_
          refine lv_iconst (v := (-1 : Int32)) hx hb dX1_lock_57 (by decide) ?_
          refine lv_ixor hx hb dX1_lock_58 ?_
          refine lv_iand hx hb dX1_lock_59 ?_
          obtain ⟨hi, h1⟩ := ax_some h1
          obtain ⟨s11, es11, h1⟩ := nm_some h1
          refine x_iast (ws' := wL cA h ad s11) hC hK hP hD hS (13 + (x9 : Int32).toNatClampNeg) 0 (wL_rg cA h ad s10 hi4) rfl (by rw [es11]; exact wL_rs cA h ad s10 _ hi4) hi dX1_lock_60 (fun H locs hP hD hS => ?_)
          obtain ⟨v12, ev12, h1⟩ := nm_some h1
          refine lv_iinc (v := v12) (lv' := [(5, .int v12), (4, .int v1), (0, .ref h), (1, .int a1), (2, .int a2), (3, .int a3)]) hx hb dX1_lock_61 hl (k := 0) rfl (by rw [ev12]; rfl) (by decide) rfl (fun ls hl => ?_)
          refine lv_goto (tgt := 39) hx hb dX1_lock_64 (by decide) ?_
          have hc := lp_l h1 hz3
          exact ih3 v12 s11 hc _ _ hP hD hS ls (lv_sub hl [0, 1, 2, 3, 4, 5] rfl)
    exact LP3 FU v8 s7 hl3 _ _ hP hD hS ls hl
  have LP1 : ∀ (n : Nat) (x2 : Int32) (s3 : St), lp (fun t : (Int32 × St) => bX1_lock_8 a2 a3 v1 t.1 t.2) n (x2, s3) = some ε1 → ∀ (H : Heap) (locs : List Loc), va_P (dC, dI) vwCl (wL cA h ad s3) H → va_D A (wL cA h ad s3) → va_S A s.heap H locs → ∀ (ls : Array Slot), lv_has ls 6 [(5, .int x2), (4, .int v1), (0, .ref h), (1, .int a1), (2, .int a2), (3, .int a3)] → W p l e (headSpec wsX1_lock rmX1_lock).room s m av below meth c H locs 0 0 (MQ below (qV (dC, dI) A (wL cA h ad σ')) av s 0 0 A) (F0 m 8 ls []) := by
    intro n
    induction n with
    | zero => intro x2 s3 hl0; exact (lp_0 hl0).elim
    | succ n ih1 =>
      intro x2 s3 hl0 H locs hP hD hS ls hl
      obtain ⟨z1, h1, hz1⟩ := lp_s hl0
      have h1 : bX1_lock_8 a2 a3 v1 x2 s3 = some z1 := h1
      unfold bX1_lock_8 at h1
      refine lv_iload hx hb dX1_lock_8 (lv_at hl 0 rfl) ?_
      refine lv_iload_n hx hb dX1_lock_10 rfl (lv_at hl 5 rfl) ?_
      refine lv_icmp_gt (tgt := 34) hx hb dX1_lock_11 (by decide) (fun hc => ?_) (fun hc => ?_)
      · have h1 := it_t h1 hc
        have he := lp_r h1 hz1
        exact KN1 x2 s3 he _ _ hP hD hS ls (lv_sub hl [0, 1, 2, 3, 4, 5] rfl)
      · have h1 := it_f h1 hc
        refine lv_aload_n hx hb dX1_lock_14 rfl (lv_at hl 2 rfl) ?_
        refine va_get (D := (dC, dI)) (ci := 1) (v := .ref (ad 2)) (C := RX1) (T := TX1) (N := 16) hx hb hts hin0 hown hK hP 0 rfl rfl 2 (by decide) (hts (.fieldLink RX1 17 "MeanLocks$Locks" "atLeast" "[[I") (List.mem_of_getElem? (i := 1) rfl)) (fun _ h9 => h9) rfl dX1_lock_15 ?_
        refine lv_iload hx hb dX1_lock_18 (lv_at hl 0 rfl) ?_
        obtain ⟨hi2, h1⟩ := ax_some h1
        refine x_aldA hx hb hK hP 2 4 rfl rfl hi2 rfl dX1_lock_20 ?_
        refine lv_iload_n hx hb dX1_lock_21 rfl (lv_at hl 4 rfl) ?_
        refine lv_dup2_11 hx hb dX1_lock_22 rfl rfl ?_
        obtain ⟨hi, h1⟩ := ax_some h1
        refine va_iald hx hb hK hP (13 + (x2 : Int32).toNatClampNeg) 0 (wL_rg cA h ad s3 hi2) rfl hi dX1_lock_23 ?_
        refine lv_iload hx hb dX1_lock_24 (lv_at hl 1 rfl) ?_
        refine lv_ior hx hb dX1_lock_26 ?_
        obtain ⟨hi, h1⟩ := ax_some h1
        obtain ⟨s4, es4, h1⟩ := nm_some h1
        refine x_iast (ws' := wL cA h ad s4) hC hK hP hD hS (13 + (x2 : Int32).toNatClampNeg) 0 (wL_rg cA h ad s3 hi2) rfl (by rw [es4]; exact wL_rs cA h ad s3 _ hi2) hi dX1_lock_27 (fun H locs hP hD hS => ?_)
        obtain ⟨v5, ev5, h1⟩ := nm_some h1
        refine lv_iinc (v := v5) (lv' := [(5, .int v5), (4, .int v1), (0, .ref h), (1, .int a1), (2, .int a2), (3, .int a3)]) hx hb dX1_lock_28 hl (k := 0) rfl (by rw [ev5]; rfl) (by decide) rfl (fun ls hl => ?_)
        refine lv_goto (tgt := 8) hx hb dX1_lock_31 (by decide) ?_
        have hc := lp_l h1 hz1
        exact ih1 v5 s4 hc _ _ hP hD hS ls (lv_sub hl [0, 1, 2, 3, 4, 5] rfl)
  exact LP1 FU (1 : Int32) σ hl1 _ _ hP hD hS ls hl
def bX1_give_3 (a1 : Int32) (a2 : Int32) (a4 : Int32) (x1 : Int32) (s2 : St) : Option ((Int32 × St) ⊕ (Int32 × St)) := if a4 ≤ x1 then (some (.inr (x1, s2))) else (bnd (fX1_lock a1 x1 a2 s2) fun s4 => nm (x1 + (1 : Int32)) fun v5 => some (.inl (v5, s4)))
def fX1_give (a1 : Int32) (a2 : Int32) (a3 : Int32) (a4 : Int32) (σ : St) : Option St := bnd (lp (fun t : (Int32 × St) => bX1_give_3 a1 a2 a4 t.1 t.2) FU (a3, σ)) (fun e : (Int32 × St) => nm e.1 fun x6 => nm e.2 fun s7 => ax a1 8 (ax a1 8 (nm (put s7 9 (upd (s7 9) (a1 : Int32).toNatClampNeg ((s7 9 (a1 : Int32).toNatClampNeg) + (1 : Int32)))) fun s8 => some s8)))
abbrev rmX1_give : Room := { frames := 1, cells := 0, slots := 0, locals := 25 }
set_option maxHeartbeats 4000000 in
set_option maxRecDepth 100000 in
theorem kX1_give (l : Launch) (dC : Nat → ClassId) (dI : Nat → Nat → Nat) (cA : Nat → ClassId) (h : Nat) (ad : Nat → Nat) (a1 : Int32) (a2 : Int32) (a3 : Int32) (a4 : Int32) (σ : St) (σ' : St) (h0 : fX1_give a1 a2 a3 a4 σ = some σ') : CV l yX1_give wsX1_give rmX1_give (dC, dI) vwCl (tysW cA) [.ref h, .int a1, .int a2, .int a3, .int a4] (wL cA h ad σ) (wL cA h ad σ') := by
  refine CGV_of (cc := cX1_give) (nL := 6) (ret := none) (by decide) rfl (Nat.le_of_ble_eq_true rfl) ?_
  intro p e s m av below meth c A ls H locs hC hl
  obtain ⟨hC, hr, hlocks, hV, hN, hK, hP, hD, hS, hA⟩ := hC
  have hC : CallFix p m c cX1_give 6 s _ wsX1_give RX1 := hC
  obtain ⟨hx, hb, hml, hown, hts⟩ := id hC
  have hin0 : ∀ w ∈ u_ws RX1 TX1 16, w ∈ wsX1_give := fun _ h => (List.mem_cons_of_mem _ (List.mem_append_right _ h))
  have hl : lv_has ls 6 [(0, .ref h), (1, .int a1), (2, .int a2), (3, .int a3), (4, .int a4)] := hl
  unfold fX1_give at h0
  refine lv_iload_n hx hb dX1_give_0 rfl (lv_at hl 3 rfl) ?_
  refine lv_istore (lv' := [(5, .int a3), (0, .ref h), (1, .int a1), (2, .int a2), (3, .int a3), (4, .int a4)]) hx hb dX1_give_1 hl (by decide) rfl (fun ls hl => ?_)
  obtain ⟨ε1, hl1, h0⟩ := bnd_some h0
  have KN1 : ∀ (x6 : Int32) (s7 : St), ε1 = (x6, s7) → ∀ (H : Heap) (locs : List Loc), va_P (dC, dI) vwCl (wL cA h ad s7) H → va_D A (wL cA h ad s7) → va_S A s.heap H locs → ∀ (ls : Array Slot), lv_has ls 6 [(5, .int x6), (0, .ref h), (1, .int a1), (2, .int a2), (3, .int a3), (4, .int a4)] → W p l e (headSpec wsX1_give rmX1_give).room s m av below meth c H locs 0 0 (MQ below (qV (dC, dI) A (wL cA h ad σ')) av s 0 0 A) (F0 m 24 ls []) := by
    intro x6 s7 hε H locs hP hD hS ls hl
    rw [hε] at h0
    have h0 := nm_at (z := x6) rfl h0
    have h0 := nm_at (z := s7) rfl h0
    refine lv_aload_n hx hb dX1_give_24 rfl (lv_at hl 1 rfl) ?_
    refine va_get (D := (dC, dI)) (ci := 1) (v := .ref (ad 9)) (C := RX1) (T := TX1) (N := 16) hx hb hts hin0 hown hK hP 0 rfl rfl 9 (by decide) (hts (.fieldLink RX1 35 "MeanLocks$Locks" "given" "[I") (List.mem_of_getElem? (i := 1) rfl)) (fun _ h9 => h9) rfl dX1_give_25 ?_
    refine lv_iload_n hx hb dX1_give_28 rfl (lv_at hl 2 rfl) ?_
    refine lv_dup2_11 hx hb dX1_give_29 rfl rfl ?_
    obtain ⟨hi, h0⟩ := ax_some h0
    refine va_iald hx hb hK hP 8 0 rfl rfl hi dX1_give_30 ?_
    refine lv_iconst (v := (1 : Int32)) hx hb dX1_give_31 (by decide) ?_
    refine lv_iadd hx hb dX1_give_32 ?_
    obtain ⟨hi, h0⟩ := ax_some h0
    obtain ⟨s8, es8, h0⟩ := nm_some h0
    refine x_iast (ws' := wL cA h ad s8) hC hK hP hD hS 8 0 rfl rfl (by rw [es8]; exact wL_s9 _ _ _ _ _) hi dX1_give_33 (fun H locs hP hD hS => ?_)
    have e1 := Option.some.inj h0
    exact x_retV hC hr hlocks hP hD hS dX1_give_34 (by rw [← e1])
  have LP1 : ∀ (n : Nat) (x1 : Int32) (s2 : St), lp (fun t : (Int32 × St) => bX1_give_3 a1 a2 a4 t.1 t.2) n (x1, s2) = some ε1 → ∀ (H : Heap) (locs : List Loc), va_P (dC, dI) vwCl (wL cA h ad s2) H → va_D A (wL cA h ad s2) → va_S A s.heap H locs → ∀ (ls : Array Slot), lv_has ls 6 [(5, .int x1), (0, .ref h), (1, .int a1), (2, .int a2), (3, .int a3), (4, .int a4)] → W p l e (headSpec wsX1_give rmX1_give).room s m av below meth c H locs 0 0 (MQ below (qV (dC, dI) A (wL cA h ad σ')) av s 0 0 A) (F0 m 3 ls []) := by
    intro n
    induction n with
    | zero => intro x1 s2 hl0; exact (lp_0 hl0).elim
    | succ n ih1 =>
      intro x1 s2 hl0 H locs hP hD hS ls hl
      obtain ⟨z1, h1, hz1⟩ := lp_s hl0
      have h1 : bX1_give_3 a1 a2 a4 x1 s2 = some z1 := h1
      unfold bX1_give_3 at h1
      refine lv_iload hx hb dX1_give_3 (lv_at hl 0 rfl) ?_
      refine lv_iload hx hb dX1_give_5 (lv_at hl 5 rfl) ?_
      refine lv_icmp_ge (tgt := 24) hx hb dX1_give_7 (by decide) (fun hc => ?_) (fun hc => ?_)
      · have h1 := it_t h1 hc
        have he := lp_r h1 hz1
        exact KN1 x1 s2 he _ _ hP hD hS ls (lv_sub hl [0, 1, 2, 3, 4, 5] rfl)
      · have h1 := it_f h1 hc
        refine lv_aload_n hx hb dX1_give_10 rfl (lv_at hl 1 rfl) ?_
        refine lv_iload_n hx hb dX1_give_11 rfl (lv_at hl 2 rfl) ?_
        refine lv_iload hx hb dX1_give_12 (lv_at hl 0 rfl) ?_
        refine lv_iload_n hx hb dX1_give_14 rfl (lv_at hl 3 rfl) ?_
        obtain ⟨s4, hf2, h1⟩ := bnd_some h1
        refine x_VV (As := [.int a1, .int x1, .int a2]) (rest := []) hC (kX1_lock l dC dI cA h ad a1 x1 a2 s2 s4 hf2) (cwV 3 hts gX1_give_X1_lock rfl rfl rfl (by decide +kernel) ⟨Nat.le_of_ble_eq_true rfl, Nat.le_of_ble_eq_true rfl⟩) 0 1 hV hN hK hP hD hS hA rfl rfl rfl rfl hl.1 rfl (Nat.le_of_ble_eq_true rfl) ⟨Nat.zero_le _, Nat.zero_le _⟩ dX1_give_15 (fun H locs hP hD hS => ?_)
        obtain ⟨v5, ev5, h1⟩ := nm_some h1
        refine lv_iinc (v := v5) (lv' := [(5, .int v5), (0, .ref h), (1, .int a1), (2, .int a2), (3, .int a3), (4, .int a4)]) hx hb dX1_give_18 hl (k := 0) rfl (by rw [ev5]; rfl) (by decide) rfl (fun ls hl => ?_)
        refine lv_goto (tgt := 3) hx hb dX1_give_21 (by decide) ?_
        have hc := lp_l h1 hz1
        exact ih1 v5 s4 hc _ _ hP hD hS ls (lv_sub hl [0, 1, 2, 3, 4, 5] rfl)
  exact LP1 FU a3 σ hl1 _ _ hP hD hS ls hl
def fX1_waitedForAt (a1 : Int32) (σ : St) : Option Int32 := ax a1 8 (nm (σ 3 (a1 : Int32).toNatClampNeg) fun v1 => ax v1 8 (ax v1 8 (ax v1 8 (bnd (fX1_inWay v1 (σ 5 (v1 : Int32).toNatClampNeg) (σ 6 (v1 : Int32).toNatClampNeg) (σ 7 (v1 : Int32).toNatClampNeg) a1 σ) fun r2 => some r2))))
abbrev rmX1_waitedForAt : Room := { frames := 2, cells := 0, slots := 0, locals := 60 }
set_option maxHeartbeats 4000000 in
set_option maxRecDepth 100000 in
theorem kX1_waitedForAt (l : Launch) (dC : Nat → ClassId) (dI : Nat → Nat → Nat) (cA : Nat → ClassId) (h : Nat) (ad : Nat → Nat) (a1 : Int32) (σ : St) (R0 : Int32) (h0 : fX1_waitedForAt a1 σ = some R0) : CI l yX1_waitedForAt wsX1_waitedForAt rmX1_waitedForAt (dC, dI) vwCl (tysW cA) [.ref h, .int a1] (wL cA h ad σ) R0 (wL cA h ad σ) := by
  refine CGI_of (cc := cX1_waitedForAt) (nL := 3) (ret := (some .int)) (by decide) rfl (Nat.le_of_ble_eq_true rfl) ?_
  intro p e s m av below meth c A ls H locs hC hl
  obtain ⟨hC, hr, hlocks, hV, hN, hK, hP, hD, hS, hA⟩ := hC
  have hC : CallFix p m c cX1_waitedForAt 3 s _ wsX1_waitedForAt RX1 := hC
  obtain ⟨hx, hb, hml, hown, hts⟩ := id hC
  have hin0 : ∀ w ∈ u_ws RX1 TX1 16, w ∈ wsX1_waitedForAt := fun _ h => (List.mem_cons_of_mem _ (List.mem_append_right _ h))
  have hl : lv_has ls 3 [(0, .ref h), (1, .int a1)] := hl
  unfold fX1_waitedForAt at h0
  refine lv_aload_n hx hb dX1_waitedForAt_0 rfl (lv_at hl 0 rfl) ?_
  refine va_get (D := (dC, dI)) (ci := 1) (v := .ref (ad 3)) (C := RX1) (T := TX1) (N := 16) hx hb hts hin0 hown hK hP 0 rfl rfl 3 (by decide) (hts (.fieldLink RX1 20 "MeanLocks$Locks" "row" "[I") (List.mem_of_getElem? (i := 1) rfl)) (fun _ h9 => h9) rfl dX1_waitedForAt_1 ?_
  refine lv_iload_n hx hb dX1_waitedForAt_4 rfl (lv_at hl 1 rfl) ?_
  obtain ⟨hi, h0⟩ := ax_some h0
  refine va_iald hx hb hK hP 3 0 rfl rfl hi dX1_waitedForAt_5 ?_
  refine lv_topi (fun v1 ev1 => ?_)
  have h0 := nm_at ev1 h0
  refine lv_istore_n (lv' := [(2, .int v1), (0, .ref h), (1, .int a1)]) hx hb dX1_waitedForAt_6 rfl hl (by decide) rfl (fun ls hl => ?_)
  refine lv_aload_n hx hb dX1_waitedForAt_7 rfl (lv_at hl 1 rfl) ?_
  refine lv_iload_n hx hb dX1_waitedForAt_8 rfl (lv_at hl 0 rfl) ?_
  refine lv_aload_n hx hb dX1_waitedForAt_9 rfl (lv_at hl 1 rfl) ?_
  refine va_get (D := (dC, dI)) (ci := 1) (v := .ref (ad 5)) (C := RX1) (T := TX1) (N := 16) hx hb hts hin0 hown hK hP 0 rfl rfl 5 (by decide) (hts (.fieldLink RX1 23 "MeanLocks$Locks" "wanted" "[I") (List.mem_of_getElem? (i := 2) rfl)) (fun _ h9 => h9) rfl dX1_waitedForAt_10 ?_
  refine lv_iload_n hx hb dX1_waitedForAt_13 rfl (lv_at hl 0 rfl) ?_
  obtain ⟨hi, h0⟩ := ax_some h0
  refine va_iald hx hb hK hP 4 0 rfl rfl hi dX1_waitedForAt_14 ?_
  refine lv_aload_n hx hb dX1_waitedForAt_15 rfl (lv_at hl 1 rfl) ?_
  refine va_get (D := (dC, dI)) (ci := 1) (v := .ref (ad 6)) (C := RX1) (T := TX1) (N := 16) hx hb hts hin0 hown hK hP 0 rfl rfl 6 (by decide) (hts (.fieldLink RX1 26 "MeanLocks$Locks" "from" "[I") (List.mem_of_getElem? (i := 3) rfl)) (fun _ h9 => h9) rfl dX1_waitedForAt_16 ?_
  refine lv_iload_n hx hb dX1_waitedForAt_19 rfl (lv_at hl 0 rfl) ?_
  obtain ⟨hi, h0⟩ := ax_some h0
  refine va_iald hx hb hK hP 5 0 rfl rfl hi dX1_waitedForAt_20 ?_
  refine lv_aload_n hx hb dX1_waitedForAt_21 rfl (lv_at hl 1 rfl) ?_
  refine va_get (D := (dC, dI)) (ci := 1) (v := .ref (ad 7)) (C := RX1) (T := TX1) (N := 16) hx hb hts hin0 hown hK hP 0 rfl rfl 7 (by decide) (hts (.fieldLink RX1 29 "MeanLocks$Locks" "to" "[I") (List.mem_of_getElem? (i := 4) rfl)) (fun _ h9 => h9) rfl dX1_waitedForAt_22 ?_
  refine lv_iload_n hx hb dX1_waitedForAt_25 rfl (lv_at hl 0 rfl) ?_
  obtain ⟨hi, h0⟩ := ax_some h0
  refine va_iald hx hb hK hP 6 0 rfl rfl hi dX1_waitedForAt_26 ?_
  refine lv_iload_n hx hb dX1_waitedForAt_27 rfl (lv_at hl 2 rfl) ?_
  obtain ⟨r2, hf1, h0⟩ := bnd_some h0
  refine x_VI (As := [.int v1, .int (σ 5 (v1 : Int32).toNatClampNeg), .int (σ 6 (v1 : Int32).toNatClampNeg), .int (σ 7 (v1 : Int32).toNatClampNeg), .int a1]) (rest := []) hC (kX1_inWay l dC dI cA h ad v1 (σ 5 (v1 : Int32).toNatClampNeg) (σ 6 (v1 : Int32).toNatClampNeg) (σ 7 (v1 : Int32).toNatClampNeg) a1 σ r2  hf1) (cwV 5 hts gX1_waitedForAt_X1_inWay rfl rfl rfl (by decide +kernel) ⟨Nat.le_of_ble_eq_true rfl, Nat.le_of_ble_eq_true rfl⟩) 0 1 hV hN hK hP hD hS hA rfl rfl rfl rfl hl.1 rfl (Nat.le_of_ble_eq_true rfl) ⟨Nat.zero_le _, Nat.zero_le _⟩ dX1_waitedForAt_28 (fun H locs hP hD hS => ?_)
  have e1 := Option.some.inj h0
  exact x_retI hC hr hlocks rfl hP hD hS dX1_waitedForAt_31 ⟨e1, rfl⟩
def bX1_placeInRow_2 (a1 : Int32) (σ : St) (x1 : Int32) : Option (Int32 ⊕ (Int32 ⊕ Int32)) := if (σ 4 0) ≤ x1 then (some (.inr (.inl x1))) else (ax x1 8 (if ((σ 3 (x1 : Int32).toNatClampNeg) : Int32) = a1 then (some (.inr (.inr x1))) else (nm (x1 + (1 : Int32)) fun v2 => some (.inl v2))))
def fX1_placeInRow (a1 : Int32) (σ : St) : Option Int32 := bnd (lp (fun t : Int32 => bX1_placeInRow_2 a1 σ t) FU (0 : Int32)) (fun e0 : (Int32 ⊕ Int32) => el e0 (fun e : Int32 => nm e fun x3 => some (-1 : Int32)) (fun r : Int32 => some r))
abbrev rmX1_placeInRow : Room := { frames := 0, cells := 0, slots := 0, locals := 0 }
set_option maxHeartbeats 4000000 in
set_option maxRecDepth 100000 in
theorem kX1_placeInRow (l : Launch) (dC : Nat → ClassId) (dI : Nat → Nat → Nat) (cA : Nat → ClassId) (h : Nat) (ad : Nat → Nat) (a1 : Int32) (σ : St) (R0 : Int32) (h0 : fX1_placeInRow a1 σ = some R0) : CI l yX1_placeInRow wsX1_placeInRow rmX1_placeInRow (dC, dI) vwCl (tysW cA) [.ref h, .int a1] (wL cA h ad σ) R0 (wL cA h ad σ) := by
  refine CGI_of (cc := cX1_placeInRow) (nL := 3) (ret := (some .int)) (by decide) rfl (Nat.le_of_ble_eq_true rfl) ?_
  intro p e s m av below meth c A ls H locs hC hl
  obtain ⟨hC, hr, hlocks, hV, hN, hK, hP, hD, hS, hA⟩ := hC
  have hC : CallFix p m c cX1_placeInRow 3 s _ wsX1_placeInRow RX1 := hC
  obtain ⟨hx, hb, hml, hown, hts⟩ := id hC
  have hin0 : ∀ w ∈ u_ws RX1 TX1 16, w ∈ wsX1_placeInRow := fun _ h => (List.mem_cons_of_mem _ (List.mem_append_right _ h))
  have hl : lv_has ls 3 [(0, .ref h), (1, .int a1)] := hl
  unfold fX1_placeInRow at h0
  refine lv_iconst (v := (0 : Int32)) hx hb dX1_placeInRow_0 (by decide) ?_
  refine lv_istore_n (lv' := [(2, .int (0 : Int32)), (0, .ref h), (1, .int a1)]) hx hb dX1_placeInRow_1 rfl hl (by decide) rfl (fun ls hl => ?_)
  obtain ⟨ε1, hl1, h0⟩ := bnd_some h0
  have KN1 : ∀ (x3 : Int32), ε1 = .inl x3 → ∀ (H : Heap) (locs : List Loc), va_P (dC, dI) vwCl (wL cA h ad σ) H → va_D A (wL cA h ad σ) → va_S A s.heap H locs → ∀ (ls : Array Slot), lv_has ls 3 [(2, .int x3), (0, .ref h), (1, .int a1)] → W p l e (headSpec wsX1_placeInRow rmX1_placeInRow).room s m av below meth c H locs 0 0 (MQ below (qI (dC, dI) A R0 (wL cA h ad σ)) av s 0 0 A) (F0 m 28 ls []) := by
    intro x3 hε H locs hP hD hS ls hl
    rw [hε] at h0
    have h0 := el_l h0
    have h0 := nm_at (z := x3) rfl h0
    refine lv_iconst (v := (-1 : Int32)) hx hb dX1_placeInRow_28 (by decide) ?_
    have e1 := Option.some.inj h0
    exact x_retI hC hr hlocks rfl hP hD hS dX1_placeInRow_29 ⟨e1, rfl⟩
  have LP1 : ∀ (n : Nat) (x1 : Int32), lp (fun t : Int32 => bX1_placeInRow_2 a1 σ t) n x1 = some ε1 → ∀ (H : Heap) (locs : List Loc), va_P (dC, dI) vwCl (wL cA h ad σ) H → va_D A (wL cA h ad σ) → va_S A s.heap H locs → ∀ (ls : Array Slot), lv_has ls 3 [(2, .int x1), (0, .ref h), (1, .int a1)] → W p l e (headSpec wsX1_placeInRow rmX1_placeInRow).room s m av below meth c H locs 0 0 (MQ below (qI (dC, dI) A R0 (wL cA h ad σ)) av s 0 0 A) (F0 m 2 ls []) := by
    intro n
    induction n with
    | zero => intro x1 hl0; exact (lp_0 hl0).elim
    | succ n ih1 =>
      intro x1 hl0 H locs hP hD hS ls hl
      obtain ⟨z1, h1, hz1⟩ := lp_s hl0
      have h1 : bX1_placeInRow_2 a1 σ x1 = some z1 := h1
      unfold bX1_placeInRow_2 at h1
      refine lv_iload_n hx hb dX1_placeInRow_2 rfl (lv_at hl 0 rfl) ?_
      refine lv_aload_n hx hb dX1_placeInRow_3 rfl (lv_at hl 1 rfl) ?_
      refine va_get (D := (dC, dI)) (ci := 1) (v := .int (σ 4 0)) (C := RX1) (T := TX1) (N := 16) hx hb hts hin0 hown hK hP 0 rfl rfl 4 (by decide) (hts (.fieldLink RX1 54 "MeanLocks$Locks" "waiting" "I") (List.mem_of_getElem? (i := 1) rfl)) (fun _ h9 => h9) rfl dX1_placeInRow_4 ?_
      refine lv_icmp_ge (tgt := 28) hx hb dX1_placeInRow_7 (by decide) (fun hc => ?_) (fun hc => ?_)
      · have h1 := it_t h1 hc
        have he := lp_r h1 hz1
        exact KN1 x1 he _ _ hP hD hS ls (lv_sub hl [0, 1, 2] rfl)
      · have h1 := it_f h1 hc
        refine lv_aload_n hx hb dX1_placeInRow_10 rfl (lv_at hl 1 rfl) ?_
        refine va_get (D := (dC, dI)) (ci := 1) (v := .ref (ad 3)) (C := RX1) (T := TX1) (N := 16) hx hb hts hin0 hown hK hP 0 rfl rfl 3 (by decide) (hts (.fieldLink RX1 20 "MeanLocks$Locks" "row" "[I") (List.mem_of_getElem? (i := 2) rfl)) (fun _ h9 => h9) rfl dX1_placeInRow_11 ?_
        refine lv_iload_n hx hb dX1_placeInRow_14 rfl (lv_at hl 0 rfl) ?_
        obtain ⟨hi, h1⟩ := ax_some h1
        refine va_iald hx hb hK hP 3 0 rfl rfl hi dX1_placeInRow_15 ?_
        refine lv_iload_n hx hb dX1_placeInRow_16 rfl (lv_at hl 2 rfl) ?_
        refine lv_icmp_ne (tgt := 22) hx hb dX1_placeInRow_17 (by decide) (fun hc => ?_) (fun hc => ?_)
        · have h1 := it_f h1 hc
          obtain ⟨v2, ev2, h1⟩ := nm_some h1
          refine lv_iinc (v := v2) (lv' := [(2, .int v2), (0, .ref h), (1, .int a1)]) hx hb dX1_placeInRow_22 hl (k := 0) rfl (by rw [ev2]; rfl) (by decide) rfl (fun ls hl => ?_)
          refine lv_goto (tgt := 2) hx hb dX1_placeInRow_25 (by decide) ?_
          have hc := lp_l h1 hz1
          exact ih1 v2 hc _ _ hP hD hS ls (lv_sub hl [0, 1, 2] rfl)
        · have h1 := it_t h1 hc
          refine lv_iload_n hx hb dX1_placeInRow_20 rfl (lv_at hl 0 rfl) ?_
          have he := lp_r h1 hz1
          rw [he] at h0
          have h0 := el_r h0
          have e1 := Option.some.inj h0
          exact x_retI hC hr hlocks rfl hP hD hS dX1_placeInRow_21 ⟨e1, rfl⟩
  exact LP1 FU (0 : Int32) hl1 _ _ hP hD hS ls hl
def bX1_quitRow_23  (x3 : Int32) (s4 : St) : Option ((Int32 × St) ⊕ (Int32 × St)) := if (s4 4 0) ≤ x3 then (some (.inr (x3, s4))) else (ax (x3 + (1 : Int32)) 8 (ax x3 8 (nm (put s4 3 (upd (s4 3) (x3 : Int32).toNatClampNeg (s4 3 (x3 + (1 : Int32) : Int32).toNatClampNeg))) fun s5 => nm (x3 + (1 : Int32)) fun v6 => some (.inl (v6, s5)))))
def fX1_quitRow (a1 : Int32) (σ : St) : Option St := bnd (fX1_placeInRow a1 σ) fun r1 => if (0 : Int32) ≤ r1 then (nm (put σ 4 (fun _ => (σ 4 0) - (1 : Int32))) fun s2 => bnd (lp (fun t : (Int32 × St) => bX1_quitRow_23  t.1 t.2) FU (r1, s2)) (fun e : (Int32 × St) => nm e.1 fun x7 => nm e.2 fun s8 => ax a1 8 (nm (put s8 5 (upd (s8 5) (a1 : Int32).toNatClampNeg ((0 : Int32)))) fun s9 => some s9))) else (some σ)
abbrev rmX1_quitRow : Room := { frames := 1, cells := 0, slots := 0, locals := 22 }
set_option maxHeartbeats 4000000 in
set_option maxRecDepth 100000 in
theorem kX1_quitRow (l : Launch) (dC : Nat → ClassId) (dI : Nat → Nat → Nat) (cA : Nat → ClassId) (h : Nat) (ad : Nat → Nat) (a1 : Int32) (σ : St) (σ' : St) (h0 : fX1_quitRow a1 σ = some σ') : CV l yX1_quitRow wsX1_quitRow rmX1_quitRow (dC, dI) vwCl (tysW cA) [.ref h, .int a1] (wL cA h ad σ) (wL cA h ad σ') := by
  refine CGV_of (cc := cX1_quitRow) (nL := 4) (ret := none) (by decide) rfl (Nat.le_of_ble_eq_true rfl) ?_
  intro p e s m av below meth c A ls H locs hC hl
  obtain ⟨hC, hr, hlocks, hV, hN, hK, hP, hD, hS, hA⟩ := hC
  have hC : CallFix p m c cX1_quitRow 4 s _ wsX1_quitRow RX1 := hC
  obtain ⟨hx, hb, hml, hown, hts⟩ := id hC
  have hin0 : ∀ w ∈ u_ws RX1 TX1 16, w ∈ wsX1_quitRow := fun _ h => (List.mem_cons_of_mem _ (List.mem_append_right _ h))
  have hl : lv_has ls 4 [(0, .ref h), (1, .int a1)] := hl
  unfold fX1_quitRow at h0
  refine lv_aload_n hx hb dX1_quitRow_0 rfl (lv_at hl 0 rfl) ?_
  refine lv_iload_n hx hb dX1_quitRow_1 rfl (lv_at hl 1 rfl) ?_
  obtain ⟨r1, hf1, h0⟩ := bnd_some h0
  refine x_VI (As := [.int a1]) (rest := []) hC (kX1_placeInRow l dC dI cA h ad a1 σ r1  hf1) (cwV 1 hts gX1_quitRow_X1_placeInRow rfl rfl rfl (by decide +kernel) ⟨Nat.le_of_ble_eq_true rfl, Nat.le_of_ble_eq_true rfl⟩) 0 1 hV hN hK hP hD hS hA rfl rfl rfl rfl hl.1 rfl (Nat.le_of_ble_eq_true rfl) ⟨Nat.zero_le _, Nat.zero_le _⟩ dX1_quitRow_2 (fun H locs hP hD hS => ?_)
  refine lv_istore_n (lv' := [(2, .int r1), (0, .ref h), (1, .int a1)]) hx hb dX1_quitRow_5 rfl hl (by decide) rfl (fun ls hl => ?_)
  refine lv_iload_n hx hb dX1_quitRow_6 rfl (lv_at hl 0 rfl) ?_
  refine lv_if_ge (tgt := 11) hx hb dX1_quitRow_7 (by decide) (fun hc => ?_) (fun hc => ?_)
  · have h0 := it_t h0 hc
    refine lv_aload_n hx hb dX1_quitRow_11 rfl (lv_at hl 1 rfl) ?_
    refine lv_dup hx hb dX1_quitRow_12 rfl ?_
    refine va_get (D := (dC, dI)) (ci := 1) (v := .int (σ 4 0)) (C := RX1) (T := TX1) (N := 16) hx hb hts hin0 hown hK hP 0 rfl rfl 4 (by decide) (hts (.fieldLink RX1 54 "MeanLocks$Locks" "waiting" "I") (List.mem_of_getElem? (i := 1) rfl)) (fun _ h9 => h9) rfl dX1_quitRow_13 ?_
    refine lv_iconst (v := (1 : Int32)) hx hb dX1_quitRow_16 (by decide) ?_
    refine lv_isub hx hb dX1_quitRow_17 ?_
    obtain ⟨s2, es2, h0⟩ := nm_some h0
    refine x_put (D := (dC, dI)) (ws' := wL cA h ad s2) (ci := 1) (fs := [.ref (ad 0), .int (σ 1 0), .ref (ad 2), .ref (ad 3), .int (σ 4 0), .ref (ad 5), .ref (ad 6), .ref (ad 7), .ref (ad 8), .ref (ad 9), .ref (ad 10), .ref (ad 11), .ref (ad 12), .int (σ 13 0), .int (σ 14 0), .ref (ad 15)]) (v := .int ((σ 4 0) - (1 : Int32))) (ty := .int) (C := RX1) (T := TX1) (N := 16) hC hin0 tyX1 tyX1_ok nmX1 hK hP hD hS 0 rfl rfl 4 (by decide) (hts (.fieldLink RX1 54 "MeanLocks$Locks" "waiting" "I") (List.mem_of_getElem? (i := 1) rfl)) rfl rfl rfl rfl (by decide +kernel) (Nat.le_of_ble_eq_true rfl) (by rw [es2]; exact wL_s4 _ _ _ _ _) dX1_quitRow_18 (fun H locs hP hD hS => ?_)
    refine lv_iload_n hx hb dX1_quitRow_21 rfl (lv_at hl 0 rfl) ?_
    refine lv_istore_n (lv' := [(3, .int r1), (2, .int r1), (0, .ref h), (1, .int a1)]) hx hb dX1_quitRow_22 rfl hl (by decide) rfl (fun ls hl => ?_)
    obtain ⟨ε2, hl2, h0⟩ := bnd_some h0
    have KN2 : ∀ (x7 : Int32) (s8 : St), ε2 = (x7, s8) → ∀ (H : Heap) (locs : List Loc), va_P (dC, dI) vwCl (wL cA h ad s8) H → va_D A (wL cA h ad s8) → va_S A s.heap H locs → ∀ (ls : Array Slot), lv_has ls 4 [(3, .int x7), (2, .int r1), (0, .ref h), (1, .int a1)] → W p l e (headSpec wsX1_quitRow rmX1_quitRow).room s m av below meth c H locs 0 0 (MQ below (qV (dC, dI) A (wL cA h ad σ')) av s 0 0 A) (F0 m 51 ls []) := by
      intro x7 s8 hε H locs hP hD hS ls hl
      rw [hε] at h0
      have h0 := nm_at (z := x7) rfl h0
      have h0 := nm_at (z := s8) rfl h0
      refine lv_aload_n hx hb dX1_quitRow_51 rfl (lv_at hl 2 rfl) ?_
      refine va_get (D := (dC, dI)) (ci := 1) (v := .ref (ad 5)) (C := RX1) (T := TX1) (N := 16) hx hb hts hin0 hown hK hP 0 rfl rfl 5 (by decide) (hts (.fieldLink RX1 23 "MeanLocks$Locks" "wanted" "[I") (List.mem_of_getElem? (i := 3) rfl)) (fun _ h9 => h9) rfl dX1_quitRow_52 ?_
      refine lv_iload_n hx hb dX1_quitRow_55 rfl (lv_at hl 3 rfl) ?_
      refine lv_iconst (v := (0 : Int32)) hx hb dX1_quitRow_56 (by decide) ?_
      obtain ⟨hi, h0⟩ := ax_some h0
      obtain ⟨s9, es9, h0⟩ := nm_some h0
      refine x_iast (ws' := wL cA h ad s9) hC hK hP hD hS 4 0 rfl rfl (by rw [es9]; exact wL_s5 _ _ _ _ _) hi dX1_quitRow_57 (fun H locs hP hD hS => ?_)
      have e1 := Option.some.inj h0
      exact x_retV hC hr hlocks hP hD hS dX1_quitRow_58 (by rw [← e1])
    have LP2 : ∀ (n : Nat) (x3 : Int32) (s4 : St), lp (fun t : (Int32 × St) => bX1_quitRow_23  t.1 t.2) n (x3, s4) = some ε2 → ∀ (H : Heap) (locs : List Loc), va_P (dC, dI) vwCl (wL cA h ad s4) H → va_D A (wL cA h ad s4) → va_S A s.heap H locs → ∀ (ls : Array Slot), lv_has ls 4 [(3, .int x3), (2, .int r1), (0, .ref h), (1, .int a1)] → W p l e (headSpec wsX1_quitRow rmX1_quitRow).room s m av below meth c H locs 0 0 (MQ below (qV (dC, dI) A (wL cA h ad σ')) av s 0 0 A) (F0 m 23 ls []) := by
      intro n
      induction n with
      | zero => intro x3 s4 hl0; exact (lp_0 hl0).elim
      | succ n ih2 =>
        intro x3 s4 hl0 H locs hP hD hS ls hl
        obtain ⟨z2, h1, hz2⟩ := lp_s hl0
        have h1 : bX1_quitRow_23  x3 s4 = some z2 := h1
        unfold bX1_quitRow_23 at h1
        refine lv_iload_n hx hb dX1_quitRow_23 rfl (lv_at hl 0 rfl) ?_
        refine lv_aload_n hx hb dX1_quitRow_24 rfl (lv_at hl 2 rfl) ?_
        refine va_get (D := (dC, dI)) (ci := 1) (v := .int (s4 4 0)) (C := RX1) (T := TX1) (N := 16) hx hb hts hin0 hown hK hP 0 rfl rfl 4 (by decide) (hts (.fieldLink RX1 54 "MeanLocks$Locks" "waiting" "I") (List.mem_of_getElem? (i := 1) rfl)) (fun _ h9 => h9) rfl dX1_quitRow_25 ?_
        refine lv_icmp_ge (tgt := 51) hx hb dX1_quitRow_28 (by decide) (fun hc => ?_) (fun hc => ?_)
        · have h1 := it_t h1 hc
          have he := lp_r h1 hz2
          exact KN2 x3 s4 he _ _ hP hD hS ls (lv_sub hl [0, 1, 2, 3] rfl)
        · have h1 := it_f h1 hc
          refine lv_aload_n hx hb dX1_quitRow_31 rfl (lv_at hl 2 rfl) ?_
          refine va_get (D := (dC, dI)) (ci := 1) (v := .ref (ad 3)) (C := RX1) (T := TX1) (N := 16) hx hb hts hin0 hown hK hP 0 rfl rfl 3 (by decide) (hts (.fieldLink RX1 20 "MeanLocks$Locks" "row" "[I") (List.mem_of_getElem? (i := 2) rfl)) (fun _ h9 => h9) rfl dX1_quitRow_32 ?_
          refine lv_iload_n hx hb dX1_quitRow_35 rfl (lv_at hl 0 rfl) ?_
          refine lv_aload_n hx hb dX1_quitRow_36 rfl (lv_at hl 2 rfl) ?_
          refine va_get (D := (dC, dI)) (ci := 1) (v := .ref (ad 3)) (C := RX1) (T := TX1) (N := 16) hx hb hts hin0 hown hK hP 0 rfl rfl 3 (by decide) (hts (.fieldLink RX1 20 "MeanLocks$Locks" "row" "[I") (List.mem_of_getElem? (i := 2) rfl)) (fun _ h9 => h9) rfl dX1_quitRow_37 ?_
          refine lv_iload_n hx hb dX1_quitRow_40 rfl (lv_at hl 0 rfl) ?_
          refine lv_iconst (v := (1 : Int32)) hx hb dX1_quitRow_41 (by decide) ?_
          refine lv_iadd hx hb dX1_quitRow_42 ?_
          obtain ⟨hi, h1⟩ := ax_some h1
          refine va_iald hx hb hK hP 3 0 rfl rfl hi dX1_quitRow_43 ?_
          obtain ⟨hi, h1⟩ := ax_some h1
          obtain ⟨s5, es5, h1⟩ := nm_some h1
          refine x_iast (ws' := wL cA h ad s5) hC hK hP hD hS 3 0 rfl rfl (by rw [es5]; exact wL_s3 _ _ _ _ _) hi dX1_quitRow_44 (fun H locs hP hD hS => ?_)
          obtain ⟨v6, ev6, h1⟩ := nm_some h1
          refine lv_iinc (v := v6) (lv' := [(3, .int v6), (2, .int r1), (0, .ref h), (1, .int a1)]) hx hb dX1_quitRow_45 hl (k := 0) rfl (by rw [ev6]; rfl) (by decide) rfl (fun ls hl => ?_)
          refine lv_goto (tgt := 23) hx hb dX1_quitRow_48 (by decide) ?_
          have hc := lp_l h1 hz2
          exact ih2 v6 s5 hc _ _ hP hD hS ls (lv_sub hl [0, 1, 2, 3] rfl)
    exact LP2 FU r1 s2 hl2 _ _ hP hD hS ls hl
  · have h0 := it_f h0 hc
    have e1 := Option.some.inj h0
    exact x_retV hC hr hlocks hP hD hS dX1_quitRow_10 (by rw [← e1])
def bX1_goThroughRow_6  (x3 : Int32) (x2 : Int32) (x1 : Int32) (s4 : St) : Option ((Int32 × Int32 × Int32 × St) ⊕ (Int32 × Int32 × Int32 × St)) := if (64 : Int32) ≤ x1 then (some (.inr (x3, x2, x1, s4))) else (if (s4 4 0) ≤ x2 then (some (.inr (x3, x2, x1, s4))) else (bnd (fX1_waitedForAt x2 s4) fun r5 => if (r5 : Int32) = (0 : Int32) then (ax x2 8 (nm (s4 3 (x2 : Int32).toNatClampNeg) fun v6 => ax v6 8 (ax v6 8 (ax v6 8 (bnd (fX1_give v6 (s4 5 (v6 : Int32).toNatClampNeg) (s4 6 (v6 : Int32).toNatClampNeg) (s4 7 (v6 : Int32).toNatClampNeg) s4) fun s8 => ax v6 8 (ax v6 8 (ax v6 8 (nm (put s8 12 (upd (s8 12) (v6 : Int32).toNatClampNeg ((if ((s8 12 (v6 : Int32).toNatClampNeg) : Int32) < (s8 8 (v6 : Int32).toNatClampNeg) then (s8 8 (v6 : Int32).toNatClampNeg) else (s8 12 (v6 : Int32).toNatClampNeg))))) fun s9 => bnd (fX1_quitRow v6 s9) fun s11 => nm (x3 ||| ((1 : Int32) <<< (v6 &&& 31))) fun v12 => nm (x1 + (1 : Int32)) fun v13 => some (.inl (v12, (0 : Int32), v13, s11)))))))))) else (nm (x2 + (1 : Int32)) fun v14 => nm (x1 + (1 : Int32)) fun v15 => some (.inl (x3, v14, v15, s4)))))
def fX1_goThroughRow (σ : St) : Option (Int32 × St) := bnd (lp (fun t : (Int32 × Int32 × Int32 × St) => bX1_goThroughRow_6  t.1 t.2.1 t.2.2.1 t.2.2.2) FU ((0 : Int32), (0 : Int32), (0 : Int32), σ)) (fun e : (Int32 × Int32 × Int32 × St) => nm e.1 fun x16 => nm e.2.1 fun x17 => nm e.2.2.1 fun x18 => nm e.2.2.2 fun s19 => some (x16, s19))
abbrev rmX1_goThroughRow : Room := { frames := 3, cells := 0, slots := 0, locals := 82 }
set_option maxHeartbeats 4000000 in
set_option maxRecDepth 100000 in
theorem kX1_goThroughRow (l : Launch) (dC : Nat → ClassId) (dI : Nat → Nat → Nat) (cA : Nat → ClassId) (h : Nat) (ad : Nat → Nat) (σ : St) (R0 : Int32) (σ' : St) (h0 : fX1_goThroughRow σ = some (R0, σ')) : CI l yX1_goThroughRow wsX1_goThroughRow rmX1_goThroughRow (dC, dI) vwCl (tysW cA) [.ref h] (wL cA h ad σ) R0 (wL cA h ad σ') := by
  refine CGI_of (cc := cX1_goThroughRow) (nL := 5) (ret := (some .int)) (by decide) rfl (Nat.le_of_ble_eq_true rfl) ?_
  intro p e s m av below meth c A ls H locs hC hl
  obtain ⟨hC, hr, hlocks, hV, hN, hK, hP, hD, hS, hA⟩ := hC
  have hC : CallFix p m c cX1_goThroughRow 5 s _ wsX1_goThroughRow RX1 := hC
  obtain ⟨hx, hb, hml, hown, hts⟩ := id hC
  have hin0 : ∀ w ∈ u_ws RX1 TX1 16, w ∈ wsX1_goThroughRow := fun _ h => (List.mem_cons_of_mem _ (List.mem_append_right _ h))
  have hl : lv_has ls 5 [(0, .ref h)] := hl
  unfold fX1_goThroughRow at h0
  refine lv_iconst (v := (0 : Int32)) hx hb dX1_goThroughRow_0 (by decide) ?_
  refine lv_istore_n (lv' := [(1, .int (0 : Int32)), (0, .ref h)]) hx hb dX1_goThroughRow_1 rfl hl (by decide) rfl (fun ls hl => ?_)
  refine lv_iconst (v := (0 : Int32)) hx hb dX1_goThroughRow_2 (by decide) ?_
  refine lv_istore_n (lv' := [(2, .int (0 : Int32)), (1, .int (0 : Int32)), (0, .ref h)]) hx hb dX1_goThroughRow_3 rfl hl (by decide) rfl (fun ls hl => ?_)
  refine lv_iconst (v := (0 : Int32)) hx hb dX1_goThroughRow_4 (by decide) ?_
  refine lv_istore_n (lv' := [(3, .int (0 : Int32)), (2, .int (0 : Int32)), (1, .int (0 : Int32)), (0, .ref h)]) hx hb dX1_goThroughRow_5 rfl hl (by decide) rfl (fun ls hl => ?_)
  obtain ⟨ε1, hl1, h0⟩ := bnd_some h0
  have KN1 : ∀ (x16 : Int32) (x17 : Int32) (x18 : Int32) (s19 : St), ε1 = (x16, x17, x18, s19) → ∀ (H : Heap) (locs : List Loc), va_P (dC, dI) vwCl (wL cA h ad s19) H → va_D A (wL cA h ad s19) → va_S A s.heap H locs → ∀ (ls : Array Slot), lv_has ls 5 [(3, .int x18), (2, .int x17), (1, .int x16), (0, .ref h)] → W p l e (headSpec wsX1_goThroughRow rmX1_goThroughRow).room s m av below meth c H locs 0 0 (MQ below (qI (dC, dI) A R0 (wL cA h ad σ')) av s 0 0 A) (F0 m 114 ls []) := by
    intro x16 x17 x18 s19 hε H locs hP hD hS ls hl
    rw [hε] at h0
    have h0 := nm_at (z := x16) rfl h0
    have h0 := nm_at (z := x17) rfl h0
    have h0 := nm_at (z := x18) rfl h0
    have h0 := nm_at (z := s19) rfl h0
    refine lv_iload_n hx hb dX1_goThroughRow_114 rfl (lv_at hl 2 rfl) ?_
    obtain ⟨e1, e2⟩ := Prod.mk.inj (Option.some.inj h0)
    exact x_retI hC hr hlocks rfl hP hD hS dX1_goThroughRow_115 ⟨e1, by rw [← e2]⟩
  have LP1 : ∀ (n : Nat) (x3 : Int32) (x2 : Int32) (x1 : Int32) (s4 : St), lp (fun t : (Int32 × Int32 × Int32 × St) => bX1_goThroughRow_6  t.1 t.2.1 t.2.2.1 t.2.2.2) n (x3, x2, x1, s4) = some ε1 → ∀ (H : Heap) (locs : List Loc), va_P (dC, dI) vwCl (wL cA h ad s4) H → va_D A (wL cA h ad s4) → va_S A s.heap H locs → ∀ (ls : Array Slot), lv_has ls 5 [(3, .int x1), (2, .int x2), (1, .int x3), (0, .ref h)] → W p l e (headSpec wsX1_goThroughRow rmX1_goThroughRow).room s m av below meth c H locs 0 0 (MQ below (qI (dC, dI) A R0 (wL cA h ad σ')) av s 0 0 A) (F0 m 6 ls []) := by
    intro n
    induction n with
    | zero => intro x3 x2 x1 s4 hl0; exact (lp_0 hl0).elim
    | succ n ih1 =>
      intro x3 x2 x1 s4 hl0 H locs hP hD hS ls hl
      obtain ⟨z1, h1, hz1⟩ := lp_s hl0
      have h1 : bX1_goThroughRow_6  x3 x2 x1 s4 = some z1 := h1
      unfold bX1_goThroughRow_6 at h1
      refine lv_iload_n hx hb dX1_goThroughRow_6 rfl (lv_at hl 0 rfl) ?_
      refine lv_bipush (v := (64 : Int32)) hx hb dX1_goThroughRow_7 (by decide) ?_
      refine lv_icmp_ge (tgt := 114) hx hb dX1_goThroughRow_9 (by decide) (fun hc => ?_) (fun hc => ?_)
      · have h1 := it_t h1 hc
        have he := lp_r h1 hz1
        exact KN1 x3 x2 x1 s4 he _ _ hP hD hS ls (lv_sub hl [0, 1, 2, 3] rfl)
      · have h1 := it_f h1 hc
        refine lv_iload_n hx hb dX1_goThroughRow_12 rfl (lv_at hl 1 rfl) ?_
        refine lv_aload_n hx hb dX1_goThroughRow_13 rfl (lv_at hl 3 rfl) ?_
        refine va_get (D := (dC, dI)) (ci := 1) (v := .int (s4 4 0)) (C := RX1) (T := TX1) (N := 16) hx hb hts hin0 hown hK hP 0 rfl rfl 4 (by decide) (hts (.fieldLink RX1 54 "MeanLocks$Locks" "waiting" "I") (List.mem_of_getElem? (i := 1) rfl)) (fun _ h9 => h9) rfl dX1_goThroughRow_14 ?_
        refine lv_icmp_ge (tgt := 114) hx hb dX1_goThroughRow_17 (by decide) (fun hc => ?_) (fun hc => ?_)
        · have h1 := it_t h1 hc
          have he := lp_r h1 hz1
          exact KN1 x3 x2 x1 s4 he _ _ hP hD hS ls (lv_sub hl [0, 1, 2, 3] rfl)
        · have h1 := it_f h1 hc
          refine lv_aload_n hx hb dX1_goThroughRow_20 rfl (lv_at hl 3 rfl) ?_
          refine lv_iload_n hx hb dX1_goThroughRow_21 rfl (lv_at hl 1 rfl) ?_
          obtain ⟨r5, hf2, h1⟩ := bnd_some h1
          refine x_VI (As := [.int x2]) (rest := []) hC (kX1_waitedForAt l dC dI cA h ad x2 s4 r5  hf2) (cwV 1 hts gX1_goThroughRow_X1_waitedForAt rfl rfl rfl (by decide +kernel) ⟨Nat.le_of_ble_eq_true rfl, Nat.le_of_ble_eq_true rfl⟩) 0 1 hV hN hK hP hD hS hA rfl rfl rfl rfl hl.1 rfl (Nat.le_of_ble_eq_true rfl) ⟨Nat.zero_le _, Nat.zero_le _⟩ dX1_goThroughRow_22 (fun H locs hP hD hS => ?_)
          refine lv_if_eq (tgt := 34) hx hb dX1_goThroughRow_25 (by decide) (fun hc => ?_) (fun hc => ?_)
          · have h1 := it_t h1 hc
            refine lv_aload_n hx hb dX1_goThroughRow_34 rfl (lv_at hl 3 rfl) ?_
            refine va_get (D := (dC, dI)) (ci := 1) (v := .ref (ad 3)) (C := RX1) (T := TX1) (N := 16) hx hb hts hin0 hown hK hP 0 rfl rfl 3 (by decide) (hts (.fieldLink RX1 20 "MeanLocks$Locks" "row" "[I") (List.mem_of_getElem? (i := 2) rfl)) (fun _ h9 => h9) rfl dX1_goThroughRow_35 ?_
            refine lv_iload_n hx hb dX1_goThroughRow_38 rfl (lv_at hl 1 rfl) ?_
            obtain ⟨hi, h1⟩ := ax_some h1
            refine va_iald hx hb hK hP 3 0 rfl rfl hi dX1_goThroughRow_39 ?_
            refine lv_topi (fun v6 ev6 => ?_)
            have h1 := nm_at ev6 h1
            refine lv_istore (lv' := [(4, .int v6), (3, .int x1), (2, .int x2), (1, .int x3), (0, .ref h)]) hx hb dX1_goThroughRow_40 hl (by decide) rfl (fun ls hl => ?_)
            refine lv_aload_n hx hb dX1_goThroughRow_42 rfl (lv_at hl 4 rfl) ?_
            refine lv_iload hx hb dX1_goThroughRow_43 (lv_at hl 0 rfl) ?_
            refine lv_aload_n hx hb dX1_goThroughRow_45 rfl (lv_at hl 4 rfl) ?_
            refine va_get (D := (dC, dI)) (ci := 1) (v := .ref (ad 5)) (C := RX1) (T := TX1) (N := 16) hx hb hts hin0 hown hK hP 0 rfl rfl 5 (by decide) (hts (.fieldLink RX1 23 "MeanLocks$Locks" "wanted" "[I") (List.mem_of_getElem? (i := 3) rfl)) (fun _ h9 => h9) rfl dX1_goThroughRow_46 ?_
            refine lv_iload hx hb dX1_goThroughRow_49 (lv_at hl 0 rfl) ?_
            obtain ⟨hi, h1⟩ := ax_some h1
            refine va_iald hx hb hK hP 4 0 rfl rfl hi dX1_goThroughRow_51 ?_
            refine lv_aload_n hx hb dX1_goThroughRow_52 rfl (lv_at hl 4 rfl) ?_
            refine va_get (D := (dC, dI)) (ci := 1) (v := .ref (ad 6)) (C := RX1) (T := TX1) (N := 16) hx hb hts hin0 hown hK hP 0 rfl rfl 6 (by decide) (hts (.fieldLink RX1 26 "MeanLocks$Locks" "from" "[I") (List.mem_of_getElem? (i := 4) rfl)) (fun _ h9 => h9) rfl dX1_goThroughRow_53 ?_
            refine lv_iload hx hb dX1_goThroughRow_56 (lv_at hl 0 rfl) ?_
            obtain ⟨hi, h1⟩ := ax_some h1
            refine va_iald hx hb hK hP 5 0 rfl rfl hi dX1_goThroughRow_58 ?_
            refine lv_aload_n hx hb dX1_goThroughRow_59 rfl (lv_at hl 4 rfl) ?_
            refine va_get (D := (dC, dI)) (ci := 1) (v := .ref (ad 7)) (C := RX1) (T := TX1) (N := 16) hx hb hts hin0 hown hK hP 0 rfl rfl 7 (by decide) (hts (.fieldLink RX1 29 "MeanLocks$Locks" "to" "[I") (List.mem_of_getElem? (i := 5) rfl)) (fun _ h9 => h9) rfl dX1_goThroughRow_60 ?_
            refine lv_iload hx hb dX1_goThroughRow_63 (lv_at hl 0 rfl) ?_
            obtain ⟨hi, h1⟩ := ax_some h1
            refine va_iald hx hb hK hP 6 0 rfl rfl hi dX1_goThroughRow_65 ?_
            obtain ⟨s8, hf3, h1⟩ := bnd_some h1
            refine x_VV (As := [.int v6, .int (s4 5 (v6 : Int32).toNatClampNeg), .int (s4 6 (v6 : Int32).toNatClampNeg), .int (s4 7 (v6 : Int32).toNatClampNeg)]) (rest := []) hC (kX1_give l dC dI cA h ad v6 (s4 5 (v6 : Int32).toNatClampNeg) (s4 6 (v6 : Int32).toNatClampNeg) (s4 7 (v6 : Int32).toNatClampNeg) s4 s8 hf3) (cwV 4 hts gX1_goThroughRow_X1_give rfl rfl rfl (by decide +kernel) ⟨Nat.le_of_ble_eq_true rfl, Nat.le_of_ble_eq_true rfl⟩) 0 1 hV hN hK hP hD hS hA rfl rfl rfl rfl hl.1 rfl (Nat.le_of_ble_eq_true rfl) ⟨Nat.zero_le _, Nat.zero_le _⟩ dX1_goThroughRow_66 (fun H locs hP hD hS => ?_)
            refine lv_aload_n hx hb dX1_goThroughRow_69 rfl (lv_at hl 4 rfl) ?_
            refine va_get (D := (dC, dI)) (ci := 1) (v := .ref (ad 12)) (C := RX1) (T := TX1) (N := 16) hx hb hts hin0 hown hK hP 0 rfl rfl 12 (by decide) (hts (.fieldLink RX1 44 "MeanLocks$Locks" "longestWait" "[I") (List.mem_of_getElem? (i := 6) rfl)) (fun _ h9 => h9) rfl dX1_goThroughRow_70 ?_
            refine lv_iload hx hb dX1_goThroughRow_73 (lv_at hl 0 rfl) ?_
            refine lv_aload_n hx hb dX1_goThroughRow_75 rfl (lv_at hl 4 rfl) ?_
            refine va_get (D := (dC, dI)) (ci := 1) (v := .ref (ad 12)) (C := RX1) (T := TX1) (N := 16) hx hb hts hin0 hown hK hP 0 rfl rfl 12 (by decide) (hts (.fieldLink RX1 44 "MeanLocks$Locks" "longestWait" "[I") (List.mem_of_getElem? (i := 6) rfl)) (fun _ h9 => h9) rfl dX1_goThroughRow_76 ?_
            refine lv_iload hx hb dX1_goThroughRow_79 (lv_at hl 0 rfl) ?_
            obtain ⟨hi, h1⟩ := ax_some h1
            refine va_iald hx hb hK hP 11 0 rfl rfl hi dX1_goThroughRow_81 ?_
            refine lv_aload_n hx hb dX1_goThroughRow_82 rfl (lv_at hl 4 rfl) ?_
            refine va_get (D := (dC, dI)) (ci := 1) (v := .ref (ad 8)) (C := RX1) (T := TX1) (N := 16) hx hb hts hin0 hown hK hP 0 rfl rfl 8 (by decide) (hts (.fieldLink RX1 32 "MeanLocks$Locks" "waited" "[I") (List.mem_of_getElem? (i := 7) rfl)) (fun _ h9 => h9) rfl dX1_goThroughRow_83 ?_
            refine lv_iload hx hb dX1_goThroughRow_86 (lv_at hl 0 rfl) ?_
            obtain ⟨hi, h1⟩ := ax_some h1
            refine va_iald hx hb hK hP 7 0 rfl rfl hi dX1_goThroughRow_88 ?_
            refine va_mmax hx hb (by rw [hml]; exact hl.1.symm) hown (hts (.methodLink RX1 135 Lib.Math.max.name) (List.mem_of_getElem? (i := 8) rfl)) (hts (.static Lib.Math.max.name) (List.mem_of_getElem? (i := 9) rfl)) (hts (.initialized "java/lang/Math") (List.mem_of_getElem? (i := 10) rfl)) (hts (.code Lib.Math.max.name Lib.Math.max.code 2 (some .int)) (List.mem_of_getElem? (i := 11) rfl)) (Nat.le_of_ble_eq_true rfl) (Nat.le_of_ble_eq_true rfl) (Nat.zero_le _) (Nat.zero_le _) dX1_goThroughRow_89 ?_
            obtain ⟨hi, h1⟩ := ax_some h1
            obtain ⟨s9, es9, h1⟩ := nm_some h1
            refine x_iast (ws' := wL cA h ad s9) hC hK hP hD hS 11 0 rfl rfl (by rw [es9]; exact wL_s12 _ _ _ _ _) hi dX1_goThroughRow_92 (fun H locs hP hD hS => ?_)
            refine lv_aload_n hx hb dX1_goThroughRow_93 rfl (lv_at hl 4 rfl) ?_
            refine lv_iload hx hb dX1_goThroughRow_94 (lv_at hl 0 rfl) ?_
            obtain ⟨s11, hf4, h1⟩ := bnd_some h1
            refine x_VV (As := [.int v6]) (rest := []) hC (kX1_quitRow l dC dI cA h ad v6 s9 s11 hf4) (cwV 1 hts gX1_goThroughRow_X1_quitRow rfl rfl rfl (by decide +kernel) ⟨Nat.le_of_ble_eq_true rfl, Nat.le_of_ble_eq_true rfl⟩) 0 1 hV hN hK hP hD hS hA rfl rfl rfl rfl hl.1 rfl (Nat.le_of_ble_eq_true rfl) ⟨Nat.zero_le _, Nat.zero_le _⟩ dX1_goThroughRow_96 (fun H locs hP hD hS => ?_)
            refine lv_iload_n hx hb dX1_goThroughRow_99 rfl (lv_at hl 3 rfl) ?_
            refine lv_iconst (v := (1 : Int32)) hx hb dX1_goThroughRow_100 (by decide) ?_
            refine lv_iload hx hb dX1_goThroughRow_101 (lv_at hl 0 rfl) ?_
            refine lv_ishl hx hb dX1_goThroughRow_103 ?_
            refine lv_ior hx hb dX1_goThroughRow_104 ?_
            refine lv_topi (fun v12 ev12 => ?_)
            have h1 := nm_at ev12 h1
            refine lv_istore_n (lv' := [(1, .int v12), (4, .int v6), (3, .int x1), (2, .int x2), (0, .ref h)]) hx hb dX1_goThroughRow_105 rfl hl (by decide) rfl (fun ls hl => ?_)
            refine lv_iconst (v := (0 : Int32)) hx hb dX1_goThroughRow_106 (by decide) ?_
            refine lv_istore_n (lv' := [(2, .int (0 : Int32)), (1, .int v12), (4, .int v6), (3, .int x1), (0, .ref h)]) hx hb dX1_goThroughRow_107 rfl hl (by decide) rfl (fun ls hl => ?_)
            obtain ⟨v13, ev13, h1⟩ := nm_some h1
            refine lv_iinc (v := v13) (lv' := [(3, .int v13), (2, .int (0 : Int32)), (1, .int v12), (4, .int v6), (0, .ref h)]) hx hb dX1_goThroughRow_108 hl (k := 3) rfl (by rw [ev13]; rfl) (by decide) rfl (fun ls hl => ?_)
            refine lv_goto (tgt := 6) hx hb dX1_goThroughRow_111 (by decide) ?_
            have hc := lp_l h1 hz1
            exact ih1 v12 (0 : Int32) v13 s11 hc _ _ hP hD hS ls (lv_sub hl [0, 1, 2, 4] rfl)
          · have h1 := it_f h1 hc
            obtain ⟨v14, ev14, h1⟩ := nm_some h1
            refine lv_iinc (v := v14) (lv' := [(2, .int v14), (3, .int x1), (1, .int x3), (0, .ref h)]) hx hb dX1_goThroughRow_28 hl (k := 1) rfl (by rw [ev14]; rfl) (by decide) rfl (fun ls hl => ?_)
            refine lv_goto (tgt := 108) hx hb dX1_goThroughRow_31 (by decide) ?_
            obtain ⟨v15, ev15, h1⟩ := nm_some h1
            refine lv_iinc (v := v15) (lv' := [(3, .int v15), (2, .int v14), (1, .int x3), (0, .ref h)]) hx hb dX1_goThroughRow_108 hl (k := 1) rfl (by rw [ev15]; rfl) (by decide) rfl (fun ls hl => ?_)
            refine lv_goto (tgt := 6) hx hb dX1_goThroughRow_111 (by decide) ?_
            have hc := lp_l h1 hz1
            exact ih1 x3 v14 v15 s4 hc _ _ hP hD hS ls (lv_sub hl [0, 1, 2, 3] rfl)
  exact LP1 FU (0 : Int32) (0 : Int32) (0 : Int32) σ hl1 _ _ hP hD hS ls hl
def fX1_join (a1 : Int32) (a2 : Int32) (a3 : Int32) (a4 : Int32) (σ : St) : Option St := if ((σ 4 0) : Int32) < (8 : Int32) then (ax (σ 4 0) 8 (nm (put σ 3 (upd (σ 3) (σ 4 0 : Int32).toNatClampNeg (a1))) fun s1 => nm (put s1 4 (fun _ => (s1 4 0) + (1 : Int32))) fun s2 => ax a1 8 (nm (put s2 5 (upd (s2 5) (a1 : Int32).toNatClampNeg (a2))) fun s3 => ax a1 8 (nm (put s3 6 (upd (s3 6) (a1 : Int32).toNatClampNeg (a3))) fun s4 => ax a1 8 (nm (put s4 7 (upd (s4 7) (a1 : Int32).toNatClampNeg (a4))) fun s5 => ax a1 8 (nm (put s5 8 (upd (s5 8) (a1 : Int32).toNatClampNeg ((0 : Int32)))) fun s6 => some s6)))))) else (some σ)
abbrev rmX1_join : Room := { frames := 0, cells := 0, slots := 0, locals := 0 }
set_option maxHeartbeats 4000000 in
set_option maxRecDepth 100000 in
theorem kX1_join (l : Launch) (dC : Nat → ClassId) (dI : Nat → Nat → Nat) (cA : Nat → ClassId) (h : Nat) (ad : Nat → Nat) (a1 : Int32) (a2 : Int32) (a3 : Int32) (a4 : Int32) (σ : St) (σ' : St) (h0 : fX1_join a1 a2 a3 a4 σ = some σ') : CV l yX1_join wsX1_join rmX1_join (dC, dI) vwCl (tysW cA) [.ref h, .int a1, .int a2, .int a3, .int a4] (wL cA h ad σ) (wL cA h ad σ') := by
  refine CGV_of (cc := cX1_join) (nL := 5) (ret := none) (by decide) rfl (Nat.le_of_ble_eq_true rfl) ?_
  intro p e s m av below meth c A ls H locs hC hl
  obtain ⟨hC, hr, hlocks, hV, hN, hK, hP, hD, hS, hA⟩ := hC
  have hC : CallFix p m c cX1_join 5 s _ wsX1_join RX1 := hC
  obtain ⟨hx, hb, hml, hown, hts⟩ := id hC
  have hin0 : ∀ w ∈ u_ws RX1 TX1 16, w ∈ wsX1_join := fun _ h => (List.mem_cons_of_mem _ (List.mem_append_right _ h))
  have hl : lv_has ls 5 [(0, .ref h), (1, .int a1), (2, .int a2), (3, .int a3), (4, .int a4)] := hl
  unfold fX1_join at h0
  refine lv_aload_n hx hb dX1_join_0 rfl (lv_at hl 0 rfl) ?_
  refine va_get (D := (dC, dI)) (ci := 1) (v := .int (σ 4 0)) (C := RX1) (T := TX1) (N := 16) hx hb hts hin0 hown hK hP 0 rfl rfl 4 (by decide) (hts (.fieldLink RX1 54 "MeanLocks$Locks" "waiting" "I") (List.mem_of_getElem? (i := 1) rfl)) (fun _ h9 => h9) rfl dX1_join_1 ?_
  refine lv_bipush (v := (8 : Int32)) hx hb dX1_join_4 (by decide) ?_
  refine lv_icmp_lt (tgt := 10) hx hb dX1_join_6 (by decide) (fun hc => ?_) (fun hc => ?_)
  · have h0 := it_t h0 hc
    refine lv_aload_n hx hb dX1_join_10 rfl (lv_at hl 0 rfl) ?_
    refine va_get (D := (dC, dI)) (ci := 1) (v := .ref (ad 3)) (C := RX1) (T := TX1) (N := 16) hx hb hts hin0 hown hK hP 0 rfl rfl 3 (by decide) (hts (.fieldLink RX1 20 "MeanLocks$Locks" "row" "[I") (List.mem_of_getElem? (i := 2) rfl)) (fun _ h9 => h9) rfl dX1_join_11 ?_
    refine lv_aload_n hx hb dX1_join_14 rfl (lv_at hl 0 rfl) ?_
    refine va_get (D := (dC, dI)) (ci := 1) (v := .int (σ 4 0)) (C := RX1) (T := TX1) (N := 16) hx hb hts hin0 hown hK hP 0 rfl rfl 4 (by decide) (hts (.fieldLink RX1 54 "MeanLocks$Locks" "waiting" "I") (List.mem_of_getElem? (i := 1) rfl)) (fun _ h9 => h9) rfl dX1_join_15 ?_
    refine lv_iload_n hx hb dX1_join_18 rfl (lv_at hl 1 rfl) ?_
    obtain ⟨hi, h0⟩ := ax_some h0
    obtain ⟨s1, es1, h0⟩ := nm_some h0
    refine x_iast (ws' := wL cA h ad s1) hC hK hP hD hS 3 0 rfl rfl (by rw [es1]; exact wL_s3 _ _ _ _ _) hi dX1_join_19 (fun H locs hP hD hS => ?_)
    refine lv_aload_n hx hb dX1_join_20 rfl (lv_at hl 0 rfl) ?_
    refine lv_dup hx hb dX1_join_21 rfl ?_
    refine va_get (D := (dC, dI)) (ci := 1) (v := .int (s1 4 0)) (C := RX1) (T := TX1) (N := 16) hx hb hts hin0 hown hK hP 0 rfl rfl 4 (by decide) (hts (.fieldLink RX1 54 "MeanLocks$Locks" "waiting" "I") (List.mem_of_getElem? (i := 1) rfl)) (fun _ h9 => h9) rfl dX1_join_22 ?_
    refine lv_iconst (v := (1 : Int32)) hx hb dX1_join_25 (by decide) ?_
    refine lv_iadd hx hb dX1_join_26 ?_
    obtain ⟨s2, es2, h0⟩ := nm_some h0
    refine x_put (D := (dC, dI)) (ws' := wL cA h ad s2) (ci := 1) (fs := [.ref (ad 0), .int (s1 1 0), .ref (ad 2), .ref (ad 3), .int (s1 4 0), .ref (ad 5), .ref (ad 6), .ref (ad 7), .ref (ad 8), .ref (ad 9), .ref (ad 10), .ref (ad 11), .ref (ad 12), .int (s1 13 0), .int (s1 14 0), .ref (ad 15)]) (v := .int ((s1 4 0) + (1 : Int32))) (ty := .int) (C := RX1) (T := TX1) (N := 16) hC hin0 tyX1 tyX1_ok nmX1 hK hP hD hS 0 rfl rfl 4 (by decide) (hts (.fieldLink RX1 54 "MeanLocks$Locks" "waiting" "I") (List.mem_of_getElem? (i := 1) rfl)) rfl rfl rfl rfl (by decide +kernel) (Nat.le_of_ble_eq_true rfl) (by rw [es2]; exact wL_s4 _ _ _ _ _) dX1_join_27 (fun H locs hP hD hS => ?_)
    refine lv_aload_n hx hb dX1_join_30 rfl (lv_at hl 0 rfl) ?_
    refine va_get (D := (dC, dI)) (ci := 1) (v := .ref (ad 5)) (C := RX1) (T := TX1) (N := 16) hx hb hts hin0 hown hK hP 0 rfl rfl 5 (by decide) (hts (.fieldLink RX1 23 "MeanLocks$Locks" "wanted" "[I") (List.mem_of_getElem? (i := 3) rfl)) (fun _ h9 => h9) rfl dX1_join_31 ?_
    refine lv_iload_n hx hb dX1_join_34 rfl (lv_at hl 1 rfl) ?_
    refine lv_iload_n hx hb dX1_join_35 rfl (lv_at hl 2 rfl) ?_
    obtain ⟨hi, h0⟩ := ax_some h0
    obtain ⟨s3, es3, h0⟩ := nm_some h0
    refine x_iast (ws' := wL cA h ad s3) hC hK hP hD hS 4 0 rfl rfl (by rw [es3]; exact wL_s5 _ _ _ _ _) hi dX1_join_36 (fun H locs hP hD hS => ?_)
    refine lv_aload_n hx hb dX1_join_37 rfl (lv_at hl 0 rfl) ?_
    refine va_get (D := (dC, dI)) (ci := 1) (v := .ref (ad 6)) (C := RX1) (T := TX1) (N := 16) hx hb hts hin0 hown hK hP 0 rfl rfl 6 (by decide) (hts (.fieldLink RX1 26 "MeanLocks$Locks" "from" "[I") (List.mem_of_getElem? (i := 4) rfl)) (fun _ h9 => h9) rfl dX1_join_38 ?_
    refine lv_iload_n hx hb dX1_join_41 rfl (lv_at hl 1 rfl) ?_
    refine lv_iload_n hx hb dX1_join_42 rfl (lv_at hl 3 rfl) ?_
    obtain ⟨hi, h0⟩ := ax_some h0
    obtain ⟨s4, es4, h0⟩ := nm_some h0
    refine x_iast (ws' := wL cA h ad s4) hC hK hP hD hS 5 0 rfl rfl (by rw [es4]; exact wL_s6 _ _ _ _ _) hi dX1_join_43 (fun H locs hP hD hS => ?_)
    refine lv_aload_n hx hb dX1_join_44 rfl (lv_at hl 0 rfl) ?_
    refine va_get (D := (dC, dI)) (ci := 1) (v := .ref (ad 7)) (C := RX1) (T := TX1) (N := 16) hx hb hts hin0 hown hK hP 0 rfl rfl 7 (by decide) (hts (.fieldLink RX1 29 "MeanLocks$Locks" "to" "[I") (List.mem_of_getElem? (i := 5) rfl)) (fun _ h9 => h9) rfl dX1_join_45 ?_
    refine lv_iload_n hx hb dX1_join_48 rfl (lv_at hl 1 rfl) ?_
    refine lv_iload hx hb dX1_join_49 (lv_at hl 4 rfl) ?_
    obtain ⟨hi, h0⟩ := ax_some h0
    obtain ⟨s5, es5, h0⟩ := nm_some h0
    refine x_iast (ws' := wL cA h ad s5) hC hK hP hD hS 6 0 rfl rfl (by rw [es5]; exact wL_s7 _ _ _ _ _) hi dX1_join_51 (fun H locs hP hD hS => ?_)
    refine lv_aload_n hx hb dX1_join_52 rfl (lv_at hl 0 rfl) ?_
    refine va_get (D := (dC, dI)) (ci := 1) (v := .ref (ad 8)) (C := RX1) (T := TX1) (N := 16) hx hb hts hin0 hown hK hP 0 rfl rfl 8 (by decide) (hts (.fieldLink RX1 32 "MeanLocks$Locks" "waited" "[I") (List.mem_of_getElem? (i := 6) rfl)) (fun _ h9 => h9) rfl dX1_join_53 ?_
    refine lv_iload_n hx hb dX1_join_56 rfl (lv_at hl 1 rfl) ?_
    refine lv_iconst (v := (0 : Int32)) hx hb dX1_join_57 (by decide) ?_
    obtain ⟨hi, h0⟩ := ax_some h0
    obtain ⟨s6, es6, h0⟩ := nm_some h0
    refine x_iast (ws' := wL cA h ad s6) hC hK hP hD hS 7 0 rfl rfl (by rw [es6]; exact wL_s8 _ _ _ _ _) hi dX1_join_58 (fun H locs hP hD hS => ?_)
    have e1 := Option.some.inj h0
    exact x_retV hC hr hlocks hP hD hS dX1_join_59 (by rw [← e1])
  · have h0 := it_f h0 hc
    have e1 := Option.some.inj h0
    exact x_retV hC hr hlocks hP hD hS dX1_join_9 (by rw [← e1])
def bX1_ringOf_2  (x1 : Int32) (s2 : St) : Option ((Int32 × St) ⊕ (Int32 × St)) := if (8 : Int32) ≤ x1 then (some (.inr (x1, s2))) else (ax x1 8 (nm (put s2 15 (upd (s2 15) (x1 : Int32).toNatClampNeg ((0 : Int32)))) fun s3 => nm (x1 + (1 : Int32)) fun v4 => some (.inl (v4, s3))))
def bX1_ringOf_23  (x7 : Int32) (s8 : St) : Option ((Int32 × St) ⊕ (Int32 × St)) := if (s8 4 0) ≤ x7 then (some (.inr (x7, s8))) else (ax x7 8 (bnd (fX1_waitedForAt x7 s8) fun r9 => ax (s8 3 (x7 : Int32).toNatClampNeg) 8 (nm (put s8 15 (upd (s8 15) (s8 3 (x7 : Int32).toNatClampNeg : Int32).toNatClampNeg (r9))) fun s10 => nm (x7 + (1 : Int32)) fun v11 => some (.inl (v11, s10)))))
def bX1_ringOf_63 (x14 : Int32) (x16 : Int32) (s17 : St) : Option ((Int32 × St) ⊕ (Int32 × St)) := if (8 : Int32) ≤ x16 then (some (.inr (x16, s17))) else (ax x16 8 (bnd (fX3_holds (s17 15 (x16 : Int32).toNatClampNeg) x14) fun r18 => if (r18 : Int32) = (0 : Int32) then (nm (x16 + (1 : Int32)) fun v19 => some (.inl (v19, s17))) else (ax x16 8 (ax x14 8 (ax x16 8 (nm (put s17 15 (upd (s17 15) (x16 : Int32).toNatClampNeg ((s17 15 (x16 : Int32).toNatClampNeg) ||| (s17 15 (x14 : Int32).toNatClampNeg)))) fun s20 => nm (x16 + (1 : Int32)) fun v21 => some (.inl (v21, s20))))))))
def bX1_ringOf_55  (x14 : Int32) (s15 : St) : Option ((Int32 × St) ⊕ (Int32 × St)) := if (8 : Int32) ≤ x14 then (some (.inr (x14, s15))) else (bnd (lp (fun t : (Int32 × St) => bX1_ringOf_63 x14 t.1 t.2) FU ((0 : Int32), s15)) (fun e : (Int32 × St) => nm e.1 fun x22 => nm e.2 fun s23 => nm (x14 + (1 : Int32)) fun v24 => some (.inl (v24, s23))))
def bX1_ringOf_113 (a1 : Int32) (s26 : St) (x28 : Int32) (x27 : Int32) : Option ((Int32 × Int32) ⊕ (Int32 × Int32)) := if (8 : Int32) ≤ x27 then (some (.inr (x28, x27))) else (ax a1 8 (bnd (fX3_holds (s26 15 (a1 : Int32).toNatClampNeg) x27) fun r29 => if (r29 : Int32) = (0 : Int32) then (nm (x27 + (1 : Int32)) fun v30 => some (.inl (x28, v30))) else (ax x27 8 (bnd (fX3_holds (s26 15 (x27 : Int32).toNatClampNeg) a1) fun r31 => if (r31 : Int32) = (0 : Int32) then (nm (x27 + (1 : Int32)) fun v32 => some (.inl (x28, v32))) else (nm (x28 ||| ((1 : Int32) <<< (x27 &&& 31))) fun v33 => nm (x27 + (1 : Int32)) fun v34 => some (.inl (v33, v34)))))))
def fX1_ringOf (a1 : Int32) (σ : St) : Option (Int32 × St) := bnd (lp (fun t : (Int32 × St) => bX1_ringOf_2  t.1 t.2) FU ((0 : Int32), σ)) (fun e : (Int32 × St) => nm e.1 fun x5 => nm e.2 fun s6 => bnd (lp (fun t : (Int32 × St) => bX1_ringOf_23  t.1 t.2) FU ((0 : Int32), s6)) (fun e : (Int32 × St) => nm e.1 fun x12 => nm e.2 fun s13 => bnd (lp (fun t : (Int32 × St) => bX1_ringOf_55  t.1 t.2) FU ((0 : Int32), s13)) (fun e : (Int32 × St) => nm e.1 fun x25 => nm e.2 fun s26 => bnd (lp (fun t : (Int32 × Int32) => bX1_ringOf_113 a1 s26 t.1 t.2) FU ((0 : Int32), (0 : Int32))) (fun e : (Int32 × Int32) => nm e.1 fun x35 => nm e.2 fun x36 => some (x35, s26)))))
abbrev rmX1_ringOf : Room := { frames := 3, cells := 0, slots := 0, locals := 82 }
set_option maxHeartbeats 4000000 in
set_option maxRecDepth 100000 in
theorem kX1_ringOf (l : Launch) (dC : Nat → ClassId) (dI : Nat → Nat → Nat) (cA : Nat → ClassId) (h : Nat) (ad : Nat → Nat) (a1 : Int32) (σ : St) (R0 : Int32) (σ' : St) (h0 : fX1_ringOf a1 σ = some (R0, σ')) : CI l yX1_ringOf wsX1_ringOf rmX1_ringOf (dC, dI) vwCl (tysW cA) [.ref h, .int a1] (wL cA h ad σ) R0 (wL cA h ad σ') := by
  refine CGI_of (cc := cX1_ringOf) (nL := 4) (ret := (some .int)) (by decide) rfl (Nat.le_of_ble_eq_true rfl) ?_
  intro p e s m av below meth c A ls H locs hC hl
  obtain ⟨hC, hr, hlocks, hV, hN, hK, hP, hD, hS, hA⟩ := hC
  have hC : CallFix p m c cX1_ringOf 4 s _ wsX1_ringOf RX1 := hC
  obtain ⟨hx, hb, hml, hown, hts⟩ := id hC
  have hin0 : ∀ w ∈ u_ws RX1 TX1 16, w ∈ wsX1_ringOf := fun _ h => (List.mem_cons_of_mem _ (List.mem_append_right _ h))
  have hl : lv_has ls 4 [(0, .ref h), (1, .int a1)] := hl
  unfold fX1_ringOf at h0
  refine lv_iconst (v := (0 : Int32)) hx hb dX1_ringOf_0 (by decide) ?_
  refine lv_istore_n (lv' := [(2, .int (0 : Int32)), (0, .ref h), (1, .int a1)]) hx hb dX1_ringOf_1 rfl hl (by decide) rfl (fun ls hl => ?_)
  obtain ⟨ε1, hl1, h0⟩ := bnd_some h0
  have KN1 : ∀ (x5 : Int32) (s6 : St), ε1 = (x5, s6) → ∀ (H : Heap) (locs : List Loc), va_P (dC, dI) vwCl (wL cA h ad s6) H → va_D A (wL cA h ad s6) → va_S A s.heap H locs → ∀ (ls : Array Slot), lv_has ls 4 [(2, .int x5), (0, .ref h), (1, .int a1)] → W p l e (headSpec wsX1_ringOf rmX1_ringOf).room s m av below meth c H locs 0 0 (MQ below (qI (dC, dI) A R0 (wL cA h ad σ')) av s 0 0 A) (F0 m 21 ls []) := by
    intro x5 s6 hε H locs hP hD hS ls hl
    rw [hε] at h0
    have h0 := nm_at (z := x5) rfl h0
    have h0 := nm_at (z := s6) rfl h0
    refine lv_iconst (v := (0 : Int32)) hx hb dX1_ringOf_21 (by decide) ?_
    refine lv_istore_n (lv' := [(2, .int (0 : Int32)), (0, .ref h), (1, .int a1)]) hx hb dX1_ringOf_22 rfl hl (by decide) rfl (fun ls hl => ?_)
    obtain ⟨ε2, hl2, h0⟩ := bnd_some h0
    have KN2 : ∀ (x12 : Int32) (s13 : St), ε2 = (x12, s13) → ∀ (H : Heap) (locs : List Loc), va_P (dC, dI) vwCl (wL cA h ad s13) H → va_D A (wL cA h ad s13) → va_S A s.heap H locs → ∀ (ls : Array Slot), lv_has ls 4 [(2, .int x12), (0, .ref h), (1, .int a1)] → W p l e (headSpec wsX1_ringOf rmX1_ringOf).room s m av below meth c H locs 0 0 (MQ below (qI (dC, dI) A R0 (wL cA h ad σ')) av s 0 0 A) (F0 m 53 ls []) := by
      intro x12 s13 hε H locs hP hD hS ls hl
      rw [hε] at h0
      have h0 := nm_at (z := x12) rfl h0
      have h0 := nm_at (z := s13) rfl h0
      refine lv_iconst (v := (0 : Int32)) hx hb dX1_ringOf_53 (by decide) ?_
      refine lv_istore_n (lv' := [(2, .int (0 : Int32)), (0, .ref h), (1, .int a1)]) hx hb dX1_ringOf_54 rfl hl (by decide) rfl (fun ls hl => ?_)
      obtain ⟨ε4, hl4, h0⟩ := bnd_some h0
      have KN4 : ∀ (x25 : Int32) (s26 : St), ε4 = (x25, s26) → ∀ (H : Heap) (locs : List Loc), va_P (dC, dI) vwCl (wL cA h ad s26) H → va_D A (wL cA h ad s26) → va_S A s.heap H locs → ∀ (ls : Array Slot), lv_has ls 4 [(2, .int x25), (0, .ref h), (1, .int a1)] → W p l e (headSpec wsX1_ringOf rmX1_ringOf).room s m av below meth c H locs 0 0 (MQ below (qI (dC, dI) A R0 (wL cA h ad σ')) av s 0 0 A) (F0 m 109 ls []) := by
        intro x25 s26 hε H locs hP hD hS ls hl
        rw [hε] at h0
        have h0 := nm_at (z := x25) rfl h0
        have h0 := nm_at (z := s26) rfl h0
        refine lv_iconst (v := (0 : Int32)) hx hb dX1_ringOf_109 (by decide) ?_
        refine lv_istore_n (lv' := [(2, .int (0 : Int32)), (0, .ref h), (1, .int a1)]) hx hb dX1_ringOf_110 rfl hl (by decide) rfl (fun ls hl => ?_)
        refine lv_iconst (v := (0 : Int32)) hx hb dX1_ringOf_111 (by decide) ?_
        refine lv_istore_n (lv' := [(3, .int (0 : Int32)), (2, .int (0 : Int32)), (0, .ref h), (1, .int a1)]) hx hb dX1_ringOf_112 rfl hl (by decide) rfl (fun ls hl => ?_)
        obtain ⟨ε7, hl7, h0⟩ := bnd_some h0
        have KN7 : ∀ (x35 : Int32) (x36 : Int32), ε7 = (x35, x36) → ∀ (H : Heap) (locs : List Loc), va_P (dC, dI) vwCl (wL cA h ad s26) H → va_D A (wL cA h ad s26) → va_S A s.heap H locs → ∀ (ls : Array Slot), lv_has ls 4 [(3, .int x36), (2, .int x35), (0, .ref h), (1, .int a1)] → W p l e (headSpec wsX1_ringOf rmX1_ringOf).room s m av below meth c H locs 0 0 (MQ below (qI (dC, dI) A R0 (wL cA h ad σ')) av s 0 0 A) (F0 m 157 ls []) := by
          intro x35 x36 hε H locs hP hD hS ls hl
          rw [hε] at h0
          have h0 := nm_at (z := x35) rfl h0
          have h0 := nm_at (z := x36) rfl h0
          refine lv_iload_n hx hb dX1_ringOf_157 rfl (lv_at hl 1 rfl) ?_
          obtain ⟨e1, e2⟩ := Prod.mk.inj (Option.some.inj h0)
          exact x_retI hC hr hlocks rfl hP hD hS dX1_ringOf_158 ⟨e1, by rw [← e2]⟩
        have LP7 : ∀ (n : Nat) (x28 : Int32) (x27 : Int32), lp (fun t : (Int32 × Int32) => bX1_ringOf_113 a1 s26 t.1 t.2) n (x28, x27) = some ε7 → ∀ (H : Heap) (locs : List Loc), va_P (dC, dI) vwCl (wL cA h ad s26) H → va_D A (wL cA h ad s26) → va_S A s.heap H locs → ∀ (ls : Array Slot), lv_has ls 4 [(3, .int x27), (2, .int x28), (0, .ref h), (1, .int a1)] → W p l e (headSpec wsX1_ringOf rmX1_ringOf).room s m av below meth c H locs 0 0 (MQ below (qI (dC, dI) A R0 (wL cA h ad σ')) av s 0 0 A) (F0 m 113 ls []) := by
          intro n
          induction n with
          | zero => intro x28 x27 hl0; exact (lp_0 hl0).elim
          | succ n ih7 =>
            intro x28 x27 hl0 H locs hP hD hS ls hl
            obtain ⟨z7, h1, hz7⟩ := lp_s hl0
            have h1 : bX1_ringOf_113 a1 s26 x28 x27 = some z7 := h1
            unfold bX1_ringOf_113 at h1
            refine lv_iload_n hx hb dX1_ringOf_113 rfl (lv_at hl 0 rfl) ?_
            refine lv_bipush (v := (8 : Int32)) hx hb dX1_ringOf_114 (by decide) ?_
            refine lv_icmp_ge (tgt := 157) hx hb dX1_ringOf_116 (by decide) (fun hc => ?_) (fun hc => ?_)
            · have h1 := it_t h1 hc
              have he := lp_r h1 hz7
              exact KN7 x28 x27 he _ _ hP hD hS ls (lv_sub hl [0, 1, 2, 3] rfl)
            · have h1 := it_f h1 hc
              refine lv_aload_n hx hb dX1_ringOf_119 rfl (lv_at hl 2 rfl) ?_
              refine va_get (D := (dC, dI)) (ci := 1) (v := .ref (ad 15)) (C := RX1) (T := TX1) (N := 16) hx hb hts hin0 hown hK hP 0 rfl rfl 15 (by decide) (hts (.fieldLink RX1 47 "MeanLocks$Locks" "reach" "[I") (List.mem_of_getElem? (i := 1) rfl)) (fun _ h9 => h9) rfl dX1_ringOf_120 ?_
              refine lv_iload_n hx hb dX1_ringOf_123 rfl (lv_at hl 3 rfl) ?_
              obtain ⟨hi, h1⟩ := ax_some h1
              refine va_iald hx hb hK hP 12 0 rfl rfl hi dX1_ringOf_124 ?_
              refine lv_iload_n hx hb dX1_ringOf_125 rfl (lv_at hl 0 rfl) ?_
              obtain ⟨r29, hf8, h1⟩ := bnd_some h1
              refine x_SNI (As := [.int (s26 15 (a1 : Int32).toNatClampNeg), .int x27]) (rest := []) hC (kX3_holds l dC dI cA (s26 15 (a1 : Int32).toNatClampNeg) x27 r29 hf8) ⟨va_cnB 2 hts gX1_ringOf_X3_holds_n140 rfl rfl rfl (hN _ (List.mem_of_getElem? (i := 4) rfl)) (hts (.initialized RX3) (List.mem_of_getElem? (i := 26) rfl)) ⟨by decide +kernel, by decide +kernel, by decide +kernel⟩ ⟨Nat.le_of_ble_eq_true rfl, Nat.le_of_ble_eq_true rfl⟩, (hts (.static yX3_holds) (List.mem_of_getElem? (i := 25) rfl)), trivial⟩ hV hN hK hP hD hS hA rfl hl.1 rfl (Nat.le_of_ble_eq_true rfl) ⟨Nat.zero_le _, Nat.zero_le _⟩ dX1_ringOf_126 (fun H locs hP hD hS => ?_)
              refine lv_if_eq (tgt := 151) hx hb dX1_ringOf_129 (by decide) (fun hc => ?_) (fun hc => ?_)
              · have h1 := it_t h1 hc
                obtain ⟨v30, ev30, h1⟩ := nm_some h1
                refine lv_iinc (v := v30) (lv' := [(3, .int v30), (2, .int x28), (0, .ref h), (1, .int a1)]) hx hb dX1_ringOf_151 hl (k := 0) rfl (by rw [ev30]; rfl) (by decide) rfl (fun ls hl => ?_)
                refine lv_goto (tgt := 113) hx hb dX1_ringOf_154 (by decide) ?_
                have hc := lp_l h1 hz7
                exact ih7 x28 v30 hc _ _ hP hD hS ls (lv_sub hl [0, 1, 2, 3] rfl)
              · have h1 := it_f h1 hc
                refine lv_aload_n hx hb dX1_ringOf_132 rfl (lv_at hl 2 rfl) ?_
                refine va_get (D := (dC, dI)) (ci := 1) (v := .ref (ad 15)) (C := RX1) (T := TX1) (N := 16) hx hb hts hin0 hown hK hP 0 rfl rfl 15 (by decide) (hts (.fieldLink RX1 47 "MeanLocks$Locks" "reach" "[I") (List.mem_of_getElem? (i := 1) rfl)) (fun _ h9 => h9) rfl dX1_ringOf_133 ?_
                refine lv_iload_n hx hb dX1_ringOf_136 rfl (lv_at hl 0 rfl) ?_
                obtain ⟨hi, h1⟩ := ax_some h1
                refine va_iald hx hb hK hP 12 0 rfl rfl hi dX1_ringOf_137 ?_
                refine lv_iload_n hx hb dX1_ringOf_138 rfl (lv_at hl 3 rfl) ?_
                obtain ⟨r31, hf9, h1⟩ := bnd_some h1
                refine x_SNI (As := [.int (s26 15 (x27 : Int32).toNatClampNeg), .int a1]) (rest := []) hC (kX3_holds l dC dI cA (s26 15 (x27 : Int32).toNatClampNeg) a1 r31 hf9) ⟨va_cnB 2 hts gX1_ringOf_X3_holds_n140 rfl rfl rfl (hN _ (List.mem_of_getElem? (i := 4) rfl)) (hts (.initialized RX3) (List.mem_of_getElem? (i := 26) rfl)) ⟨by decide +kernel, by decide +kernel, by decide +kernel⟩ ⟨Nat.le_of_ble_eq_true rfl, Nat.le_of_ble_eq_true rfl⟩, (hts (.static yX3_holds) (List.mem_of_getElem? (i := 25) rfl)), trivial⟩ hV hN hK hP hD hS hA rfl hl.1 rfl (Nat.le_of_ble_eq_true rfl) ⟨Nat.zero_le _, Nat.zero_le _⟩ dX1_ringOf_139 (fun H locs hP hD hS => ?_)
                refine lv_if_eq (tgt := 151) hx hb dX1_ringOf_142 (by decide) (fun hc => ?_) (fun hc => ?_)
                · have h1 := it_t h1 hc
                  obtain ⟨v32, ev32, h1⟩ := nm_some h1
                  refine lv_iinc (v := v32) (lv' := [(3, .int v32), (2, .int x28), (0, .ref h), (1, .int a1)]) hx hb dX1_ringOf_151 hl (k := 0) rfl (by rw [ev32]; rfl) (by decide) rfl (fun ls hl => ?_)
                  refine lv_goto (tgt := 113) hx hb dX1_ringOf_154 (by decide) ?_
                  have hc := lp_l h1 hz7
                  exact ih7 x28 v32 hc _ _ hP hD hS ls (lv_sub hl [0, 1, 2, 3] rfl)
                · have h1 := it_f h1 hc
                  refine lv_iload_n hx hb dX1_ringOf_145 rfl (lv_at hl 1 rfl) ?_
                  refine lv_iconst (v := (1 : Int32)) hx hb dX1_ringOf_146 (by decide) ?_
                  refine lv_iload_n hx hb dX1_ringOf_147 rfl (lv_at hl 0 rfl) ?_
                  refine lv_ishl hx hb dX1_ringOf_148 ?_
                  refine lv_ior hx hb dX1_ringOf_149 ?_
                  refine lv_topi (fun v33 ev33 => ?_)
                  have h1 := nm_at ev33 h1
                  refine lv_istore_n (lv' := [(2, .int v33), (3, .int x27), (0, .ref h), (1, .int a1)]) hx hb dX1_ringOf_150 rfl hl (by decide) rfl (fun ls hl => ?_)
                  obtain ⟨v34, ev34, h1⟩ := nm_some h1
                  refine lv_iinc (v := v34) (lv' := [(3, .int v34), (2, .int v33), (0, .ref h), (1, .int a1)]) hx hb dX1_ringOf_151 hl (k := 1) rfl (by rw [ev34]; rfl) (by decide) rfl (fun ls hl => ?_)
                  refine lv_goto (tgt := 113) hx hb dX1_ringOf_154 (by decide) ?_
                  have hc := lp_l h1 hz7
                  exact ih7 v33 v34 hc _ _ hP hD hS ls (lv_sub hl [0, 1, 2, 3] rfl)
        exact LP7 FU (0 : Int32) (0 : Int32) hl7 _ _ hP hD hS ls hl
      have LP4 : ∀ (n : Nat) (x14 : Int32) (s15 : St), lp (fun t : (Int32 × St) => bX1_ringOf_55  t.1 t.2) n (x14, s15) = some ε4 → ∀ (H : Heap) (locs : List Loc), va_P (dC, dI) vwCl (wL cA h ad s15) H → va_D A (wL cA h ad s15) → va_S A s.heap H locs → ∀ (ls : Array Slot), lv_has ls 4 [(2, .int x14), (0, .ref h), (1, .int a1)] → W p l e (headSpec wsX1_ringOf rmX1_ringOf).room s m av below meth c H locs 0 0 (MQ below (qI (dC, dI) A R0 (wL cA h ad σ')) av s 0 0 A) (F0 m 55 ls []) := by
        intro n
        induction n with
        | zero => intro x14 s15 hl0; exact (lp_0 hl0).elim
        | succ n ih4 =>
          intro x14 s15 hl0 H locs hP hD hS ls hl
          obtain ⟨z4, h1, hz4⟩ := lp_s hl0
          have h1 : bX1_ringOf_55  x14 s15 = some z4 := h1
          unfold bX1_ringOf_55 at h1
          refine lv_iload_n hx hb dX1_ringOf_55 rfl (lv_at hl 0 rfl) ?_
          refine lv_bipush (v := (8 : Int32)) hx hb dX1_ringOf_56 (by decide) ?_
          refine lv_icmp_ge (tgt := 109) hx hb dX1_ringOf_58 (by decide) (fun hc => ?_) (fun hc => ?_)
          · have h1 := it_t h1 hc
            have he := lp_r h1 hz4
            exact KN4 x14 s15 he _ _ hP hD hS ls (lv_sub hl [0, 1, 2] rfl)
          · have h1 := it_f h1 hc
            refine lv_iconst (v := (0 : Int32)) hx hb dX1_ringOf_61 (by decide) ?_
            refine lv_istore_n (lv' := [(3, .int (0 : Int32)), (2, .int x14), (0, .ref h), (1, .int a1)]) hx hb dX1_ringOf_62 rfl hl (by decide) rfl (fun ls hl => ?_)
            obtain ⟨ε5, hl5, h1⟩ := bnd_some h1
            have KN5 : ∀ (x22 : Int32) (s23 : St), ε5 = (x22, s23) → ∀ (H : Heap) (locs : List Loc), va_P (dC, dI) vwCl (wL cA h ad s23) H → va_D A (wL cA h ad s23) → va_S A s.heap H locs → ∀ (ls : Array Slot), lv_has ls 4 [(3, .int x22), (2, .int x14), (0, .ref h), (1, .int a1)] → W p l e (headSpec wsX1_ringOf rmX1_ringOf).room s m av below meth c H locs 0 0 (MQ below (qI (dC, dI) A R0 (wL cA h ad σ')) av s 0 0 A) (F0 m 103 ls []) := by
              intro x22 s23 hε H locs hP hD hS ls hl
              rw [hε] at h1
              have h1 := nm_at (z := x22) rfl h1
              have h1 := nm_at (z := s23) rfl h1
              obtain ⟨v24, ev24, h1⟩ := nm_some h1
              refine lv_iinc (v := v24) (lv' := [(2, .int v24), (3, .int x22), (0, .ref h), (1, .int a1)]) hx hb dX1_ringOf_103 hl (k := 1) rfl (by rw [ev24]; rfl) (by decide) rfl (fun ls hl => ?_)
              refine lv_goto (tgt := 55) hx hb dX1_ringOf_106 (by decide) ?_
              have hc := lp_l h1 hz4
              exact ih4 v24 s23 hc _ _ hP hD hS ls (lv_sub hl [0, 2, 3] rfl)
            have LP5 : ∀ (n : Nat) (x16 : Int32) (s17 : St), lp (fun t : (Int32 × St) => bX1_ringOf_63 x14 t.1 t.2) n (x16, s17) = some ε5 → ∀ (H : Heap) (locs : List Loc), va_P (dC, dI) vwCl (wL cA h ad s17) H → va_D A (wL cA h ad s17) → va_S A s.heap H locs → ∀ (ls : Array Slot), lv_has ls 4 [(3, .int x16), (2, .int x14), (0, .ref h), (1, .int a1)] → W p l e (headSpec wsX1_ringOf rmX1_ringOf).room s m av below meth c H locs 0 0 (MQ below (qI (dC, dI) A R0 (wL cA h ad σ')) av s 0 0 A) (F0 m 63 ls []) := by
              intro n
              induction n with
              | zero => intro x16 s17 hl0; exact (lp_0 hl0).elim
              | succ n ih5 =>
                intro x16 s17 hl0 H locs hP hD hS ls hl
                obtain ⟨z5, h2, hz5⟩ := lp_s hl0
                have h2 : bX1_ringOf_63 x14 x16 s17 = some z5 := h2
                unfold bX1_ringOf_63 at h2
                refine lv_iload_n hx hb dX1_ringOf_63 rfl (lv_at hl 0 rfl) ?_
                refine lv_bipush (v := (8 : Int32)) hx hb dX1_ringOf_64 (by decide) ?_
                refine lv_icmp_ge (tgt := 103) hx hb dX1_ringOf_66 (by decide) (fun hc => ?_) (fun hc => ?_)
                · have h2 := it_t h2 hc
                  have he := lp_r h2 hz5
                  exact KN5 x16 s17 he _ _ hP hD hS ls (lv_sub hl [0, 1, 2, 3] rfl)
                · have h2 := it_f h2 hc
                  refine lv_aload_n hx hb dX1_ringOf_69 rfl (lv_at hl 2 rfl) ?_
                  refine va_get (D := (dC, dI)) (ci := 1) (v := .ref (ad 15)) (C := RX1) (T := TX1) (N := 16) hx hb hts hin0 hown hK hP 0 rfl rfl 15 (by decide) (hts (.fieldLink RX1 47 "MeanLocks$Locks" "reach" "[I") (List.mem_of_getElem? (i := 1) rfl)) (fun _ h9 => h9) rfl dX1_ringOf_70 ?_
                  refine lv_iload_n hx hb dX1_ringOf_73 rfl (lv_at hl 0 rfl) ?_
                  obtain ⟨hi, h2⟩ := ax_some h2
                  refine va_iald hx hb hK hP 12 0 rfl rfl hi dX1_ringOf_74 ?_
                  refine lv_iload_n hx hb dX1_ringOf_75 rfl (lv_at hl 1 rfl) ?_
                  obtain ⟨r18, hf6, h2⟩ := bnd_some h2
                  refine x_SNI (As := [.int (s17 15 (x16 : Int32).toNatClampNeg), .int x14]) (rest := []) hC (kX3_holds l dC dI cA (s17 15 (x16 : Int32).toNatClampNeg) x14 r18 hf6) ⟨va_cnB 2 hts gX1_ringOf_X3_holds_n140 rfl rfl rfl (hN _ (List.mem_of_getElem? (i := 4) rfl)) (hts (.initialized RX3) (List.mem_of_getElem? (i := 26) rfl)) ⟨by decide +kernel, by decide +kernel, by decide +kernel⟩ ⟨Nat.le_of_ble_eq_true rfl, Nat.le_of_ble_eq_true rfl⟩, (hts (.static yX3_holds) (List.mem_of_getElem? (i := 25) rfl)), trivial⟩ hV hN hK hP hD hS hA rfl hl.1 rfl (Nat.le_of_ble_eq_true rfl) ⟨Nat.zero_le _, Nat.zero_le _⟩ dX1_ringOf_76 (fun H locs hP hD hS => ?_)
                  refine lv_if_eq (tgt := 97) hx hb dX1_ringOf_79 (by decide) (fun hc => ?_) (fun hc => ?_)
                  · have h2 := it_t h2 hc
                    obtain ⟨v19, ev19, h2⟩ := nm_some h2
                    refine lv_iinc (v := v19) (lv' := [(3, .int v19), (2, .int x14), (0, .ref h), (1, .int a1)]) hx hb dX1_ringOf_97 hl (k := 0) rfl (by rw [ev19]; rfl) (by decide) rfl (fun ls hl => ?_)
                    refine lv_goto (tgt := 63) hx hb dX1_ringOf_100 (by decide) ?_
                    have hc := lp_l h2 hz5
                    exact ih5 v19 s17 hc _ _ hP hD hS ls (lv_sub hl [0, 1, 2, 3] rfl)
                  · have h2 := it_f h2 hc
                    refine lv_aload_n hx hb dX1_ringOf_82 rfl (lv_at hl 2 rfl) ?_
                    refine va_get (D := (dC, dI)) (ci := 1) (v := .ref (ad 15)) (C := RX1) (T := TX1) (N := 16) hx hb hts hin0 hown hK hP 0 rfl rfl 15 (by decide) (hts (.fieldLink RX1 47 "MeanLocks$Locks" "reach" "[I") (List.mem_of_getElem? (i := 1) rfl)) (fun _ h9 => h9) rfl dX1_ringOf_83 ?_
                    refine lv_iload_n hx hb dX1_ringOf_86 rfl (lv_at hl 0 rfl) ?_
                    refine lv_dup2_11 hx hb dX1_ringOf_87 rfl rfl ?_
                    obtain ⟨hi, h2⟩ := ax_some h2
                    refine va_iald hx hb hK hP 12 0 rfl rfl hi dX1_ringOf_88 ?_
                    refine lv_aload_n hx hb dX1_ringOf_89 rfl (lv_at hl 2 rfl) ?_
                    refine va_get (D := (dC, dI)) (ci := 1) (v := .ref (ad 15)) (C := RX1) (T := TX1) (N := 16) hx hb hts hin0 hown hK hP 0 rfl rfl 15 (by decide) (hts (.fieldLink RX1 47 "MeanLocks$Locks" "reach" "[I") (List.mem_of_getElem? (i := 1) rfl)) (fun _ h9 => h9) rfl dX1_ringOf_90 ?_
                    refine lv_iload_n hx hb dX1_ringOf_93 rfl (lv_at hl 1 rfl) ?_
                    obtain ⟨hi, h2⟩ := ax_some h2
                    refine va_iald hx hb hK hP 12 0 rfl rfl hi dX1_ringOf_94 ?_
                    refine lv_ior hx hb dX1_ringOf_95 ?_
                    obtain ⟨hi, h2⟩ := ax_some h2
                    obtain ⟨s20, es20, h2⟩ := nm_some h2
                    refine x_iast (ws' := wL cA h ad s20) hC hK hP hD hS 12 0 rfl rfl (by rw [es20]; exact wL_s15 _ _ _ _ _) hi dX1_ringOf_96 (fun H locs hP hD hS => ?_)
                    obtain ⟨v21, ev21, h2⟩ := nm_some h2
                    refine lv_iinc (v := v21) (lv' := [(3, .int v21), (2, .int x14), (0, .ref h), (1, .int a1)]) hx hb dX1_ringOf_97 hl (k := 0) rfl (by rw [ev21]; rfl) (by decide) rfl (fun ls hl => ?_)
                    refine lv_goto (tgt := 63) hx hb dX1_ringOf_100 (by decide) ?_
                    have hc := lp_l h2 hz5
                    exact ih5 v21 s20 hc _ _ hP hD hS ls (lv_sub hl [0, 1, 2, 3] rfl)
            exact LP5 FU (0 : Int32) s15 hl5 _ _ hP hD hS ls hl
      exact LP4 FU (0 : Int32) s13 hl4 _ _ hP hD hS ls hl
    have LP2 : ∀ (n : Nat) (x7 : Int32) (s8 : St), lp (fun t : (Int32 × St) => bX1_ringOf_23  t.1 t.2) n (x7, s8) = some ε2 → ∀ (H : Heap) (locs : List Loc), va_P (dC, dI) vwCl (wL cA h ad s8) H → va_D A (wL cA h ad s8) → va_S A s.heap H locs → ∀ (ls : Array Slot), lv_has ls 4 [(2, .int x7), (0, .ref h), (1, .int a1)] → W p l e (headSpec wsX1_ringOf rmX1_ringOf).room s m av below meth c H locs 0 0 (MQ below (qI (dC, dI) A R0 (wL cA h ad σ')) av s 0 0 A) (F0 m 23 ls []) := by
      intro n
      induction n with
      | zero => intro x7 s8 hl0; exact (lp_0 hl0).elim
      | succ n ih2 =>
        intro x7 s8 hl0 H locs hP hD hS ls hl
        obtain ⟨z2, h1, hz2⟩ := lp_s hl0
        have h1 : bX1_ringOf_23  x7 s8 = some z2 := h1
        unfold bX1_ringOf_23 at h1
        refine lv_iload_n hx hb dX1_ringOf_23 rfl (lv_at hl 0 rfl) ?_
        refine lv_aload_n hx hb dX1_ringOf_24 rfl (lv_at hl 1 rfl) ?_
        refine va_get (D := (dC, dI)) (ci := 1) (v := .int (s8 4 0)) (C := RX1) (T := TX1) (N := 16) hx hb hts hin0 hown hK hP 0 rfl rfl 4 (by decide) (hts (.fieldLink RX1 54 "MeanLocks$Locks" "waiting" "I") (List.mem_of_getElem? (i := 2) rfl)) (fun _ h9 => h9) rfl dX1_ringOf_25 ?_
        refine lv_icmp_ge (tgt := 53) hx hb dX1_ringOf_28 (by decide) (fun hc => ?_) (fun hc => ?_)
        · have h1 := it_t h1 hc
          have he := lp_r h1 hz2
          exact KN2 x7 s8 he _ _ hP hD hS ls (lv_sub hl [0, 1, 2] rfl)
        · have h1 := it_f h1 hc
          refine lv_aload_n hx hb dX1_ringOf_31 rfl (lv_at hl 1 rfl) ?_
          refine va_get (D := (dC, dI)) (ci := 1) (v := .ref (ad 15)) (C := RX1) (T := TX1) (N := 16) hx hb hts hin0 hown hK hP 0 rfl rfl 15 (by decide) (hts (.fieldLink RX1 47 "MeanLocks$Locks" "reach" "[I") (List.mem_of_getElem? (i := 1) rfl)) (fun _ h9 => h9) rfl dX1_ringOf_32 ?_
          refine lv_aload_n hx hb dX1_ringOf_35 rfl (lv_at hl 1 rfl) ?_
          refine va_get (D := (dC, dI)) (ci := 1) (v := .ref (ad 3)) (C := RX1) (T := TX1) (N := 16) hx hb hts hin0 hown hK hP 0 rfl rfl 3 (by decide) (hts (.fieldLink RX1 20 "MeanLocks$Locks" "row" "[I") (List.mem_of_getElem? (i := 3) rfl)) (fun _ h9 => h9) rfl dX1_ringOf_36 ?_
          refine lv_iload_n hx hb dX1_ringOf_39 rfl (lv_at hl 0 rfl) ?_
          obtain ⟨hi, h1⟩ := ax_some h1
          refine va_iald hx hb hK hP 3 0 rfl rfl hi dX1_ringOf_40 ?_
          refine lv_aload_n hx hb dX1_ringOf_41 rfl (lv_at hl 1 rfl) ?_
          refine lv_iload_n hx hb dX1_ringOf_42 rfl (lv_at hl 0 rfl) ?_
          obtain ⟨r9, hf3, h1⟩ := bnd_some h1
          refine x_VI (As := [.int x7]) (rest := [.int (s8 3 (x7 : Int32).toNatClampNeg), .ref (ad 15)]) hC (kX1_waitedForAt l dC dI cA h ad x7 s8 r9  hf3) (cwV 1 hts gX1_ringOf_X1_waitedForAt rfl rfl rfl (by decide +kernel) ⟨Nat.le_of_ble_eq_true rfl, Nat.le_of_ble_eq_true rfl⟩) 0 1 hV hN hK hP hD hS hA rfl rfl rfl rfl hl.1 rfl (Nat.le_of_ble_eq_true rfl) ⟨Nat.zero_le _, Nat.zero_le _⟩ dX1_ringOf_43 (fun H locs hP hD hS => ?_)
          obtain ⟨hi, h1⟩ := ax_some h1
          obtain ⟨s10, es10, h1⟩ := nm_some h1
          refine x_iast (ws' := wL cA h ad s10) hC hK hP hD hS 12 0 rfl rfl (by rw [es10]; exact wL_s15 _ _ _ _ _) hi dX1_ringOf_46 (fun H locs hP hD hS => ?_)
          obtain ⟨v11, ev11, h1⟩ := nm_some h1
          refine lv_iinc (v := v11) (lv' := [(2, .int v11), (0, .ref h), (1, .int a1)]) hx hb dX1_ringOf_47 hl (k := 0) rfl (by rw [ev11]; rfl) (by decide) rfl (fun ls hl => ?_)
          refine lv_goto (tgt := 23) hx hb dX1_ringOf_50 (by decide) ?_
          have hc := lp_l h1 hz2
          exact ih2 v11 s10 hc _ _ hP hD hS ls (lv_sub hl [0, 1, 2] rfl)
    exact LP2 FU (0 : Int32) s6 hl2 _ _ hP hD hS ls hl
  have LP1 : ∀ (n : Nat) (x1 : Int32) (s2 : St), lp (fun t : (Int32 × St) => bX1_ringOf_2  t.1 t.2) n (x1, s2) = some ε1 → ∀ (H : Heap) (locs : List Loc), va_P (dC, dI) vwCl (wL cA h ad s2) H → va_D A (wL cA h ad s2) → va_S A s.heap H locs → ∀ (ls : Array Slot), lv_has ls 4 [(2, .int x1), (0, .ref h), (1, .int a1)] → W p l e (headSpec wsX1_ringOf rmX1_ringOf).room s m av below meth c H locs 0 0 (MQ below (qI (dC, dI) A R0 (wL cA h ad σ')) av s 0 0 A) (F0 m 2 ls []) := by
    intro n
    induction n with
    | zero => intro x1 s2 hl0; exact (lp_0 hl0).elim
    | succ n ih1 =>
      intro x1 s2 hl0 H locs hP hD hS ls hl
      obtain ⟨z1, h1, hz1⟩ := lp_s hl0
      have h1 : bX1_ringOf_2  x1 s2 = some z1 := h1
      unfold bX1_ringOf_2 at h1
      refine lv_iload_n hx hb dX1_ringOf_2 rfl (lv_at hl 0 rfl) ?_
      refine lv_bipush (v := (8 : Int32)) hx hb dX1_ringOf_3 (by decide) ?_
      refine lv_icmp_ge (tgt := 21) hx hb dX1_ringOf_5 (by decide) (fun hc => ?_) (fun hc => ?_)
      · have h1 := it_t h1 hc
        have he := lp_r h1 hz1
        exact KN1 x1 s2 he _ _ hP hD hS ls (lv_sub hl [0, 1, 2] rfl)
      · have h1 := it_f h1 hc
        refine lv_aload_n hx hb dX1_ringOf_8 rfl (lv_at hl 1 rfl) ?_
        refine va_get (D := (dC, dI)) (ci := 1) (v := .ref (ad 15)) (C := RX1) (T := TX1) (N := 16) hx hb hts hin0 hown hK hP 0 rfl rfl 15 (by decide) (hts (.fieldLink RX1 47 "MeanLocks$Locks" "reach" "[I") (List.mem_of_getElem? (i := 1) rfl)) (fun _ h9 => h9) rfl dX1_ringOf_9 ?_
        refine lv_iload_n hx hb dX1_ringOf_12 rfl (lv_at hl 0 rfl) ?_
        refine lv_iconst (v := (0 : Int32)) hx hb dX1_ringOf_13 (by decide) ?_
        obtain ⟨hi, h1⟩ := ax_some h1
        obtain ⟨s3, es3, h1⟩ := nm_some h1
        refine x_iast (ws' := wL cA h ad s3) hC hK hP hD hS 12 0 rfl rfl (by rw [es3]; exact wL_s15 _ _ _ _ _) hi dX1_ringOf_14 (fun H locs hP hD hS => ?_)
        obtain ⟨v4, ev4, h1⟩ := nm_some h1
        refine lv_iinc (v := v4) (lv' := [(2, .int v4), (0, .ref h), (1, .int a1)]) hx hb dX1_ringOf_15 hl (k := 0) rfl (by rw [ev4]; rfl) (by decide) rfl (fun ls hl => ?_)
        refine lv_goto (tgt := 2) hx hb dX1_ringOf_18 (by decide) ?_
        have hc := lp_l h1 hz1
        exact ih1 v4 s3 hc _ _ hP hD hS ls (lv_sub hl [0, 1, 2] rfl)
  exact LP1 FU (0 : Int32) σ hl1 _ _ hP hD hS ls hl
def fX1_kindAt (a1 : Int32) (a2 : Int32) (σ : St) : Option Int32 := nm ((1 : Int32) <<< (a1 &&& 31)) fun v1 => ax (3 : Int32) 4 (ax a2 300 (if (((σ (16 + ((3 : Int32) : Int32).toNatClampNeg) (a2 : Int32).toNatClampNeg) &&& v1) : Int32) = (0 : Int32) then (ax (2 : Int32) 4 (ax a2 300 (if (((σ (16 + ((2 : Int32) : Int32).toNatClampNeg) (a2 : Int32).toNatClampNeg) &&& v1) : Int32) = (0 : Int32) then (ax (1 : Int32) 4 (ax a2 300 (if (((σ (16 + ((1 : Int32) : Int32).toNatClampNeg) (a2 : Int32).toNatClampNeg) &&& v1) : Int32) = (0 : Int32) then (some (0 : Int32)) else (some (1 : Int32))))) else (some (2 : Int32))))) else (some (3 : Int32))))
abbrev rmX1_kindAt : Room := { frames := 0, cells := 0, slots := 0, locals := 0 }
set_option maxHeartbeats 4000000 in
set_option maxRecDepth 100000 in
theorem kX1_kindAt (l : Launch) (dC : Nat → ClassId) (dI : Nat → Nat → Nat) (cA : Nat → ClassId) (h : Nat) (ad : Nat → Nat) (a1 : Int32) (a2 : Int32) (σ : St) (R0 : Int32) (h0 : fX1_kindAt a1 a2 σ = some R0) : CI l yX1_kindAt wsX1_kindAt rmX1_kindAt (dC, dI) vwCl (tysW cA) [.ref h, .int a1, .int a2] (wL cA h ad σ) R0 (wL cA h ad σ) := by
  refine CGI_of (cc := cX1_kindAt) (nL := 4) (ret := (some .int)) (by decide) rfl (Nat.le_of_ble_eq_true rfl) ?_
  intro p e s m av below meth c A ls H locs hC hl
  obtain ⟨hC, hr, hlocks, hV, hN, hK, hP, hD, hS, hA⟩ := hC
  have hC : CallFix p m c cX1_kindAt 4 s _ wsX1_kindAt RX1 := hC
  obtain ⟨hx, hb, hml, hown, hts⟩ := id hC
  have hin0 : ∀ w ∈ u_ws RX1 TX1 16, w ∈ wsX1_kindAt := fun _ h => (List.mem_cons_of_mem _ (List.mem_append_right _ h))
  have hl : lv_has ls 4 [(0, .ref h), (1, .int a1), (2, .int a2)] := hl
  unfold fX1_kindAt at h0
  refine lv_iconst (v := (1 : Int32)) hx hb dX1_kindAt_0 (by decide) ?_
  refine lv_iload_n hx hb dX1_kindAt_1 rfl (lv_at hl 1 rfl) ?_
  refine lv_ishl hx hb dX1_kindAt_2 ?_
  refine lv_topi (fun v1 ev1 => ?_)
  have h0 := nm_at ev1 h0
  refine lv_istore_n (lv' := [(3, .int v1), (0, .ref h), (1, .int a1), (2, .int a2)]) hx hb dX1_kindAt_3 rfl hl (by decide) rfl (fun ls hl => ?_)
  refine lv_aload_n hx hb dX1_kindAt_4 rfl (lv_at hl 1 rfl) ?_
  refine va_get (D := (dC, dI)) (ci := 1) (v := .ref (ad 2)) (C := RX1) (T := TX1) (N := 16) hx hb hts hin0 hown hK hP 0 rfl rfl 2 (by decide) (hts (.fieldLink RX1 17 "MeanLocks$Locks" "atLeast" "[[I") (List.mem_of_getElem? (i := 1) rfl)) (fun _ h9 => h9) rfl dX1_kindAt_5 ?_
  refine lv_iconst (v := (3 : Int32)) hx hb dX1_kindAt_8 (by decide) ?_
  obtain ⟨hi1, h0⟩ := ax_some h0
  refine x_aldA hx hb hK hP 2 4 rfl rfl hi1 rfl dX1_kindAt_9 ?_
  refine lv_iload_n hx hb dX1_kindAt_10 rfl (lv_at hl 3 rfl) ?_
  obtain ⟨hi, h0⟩ := ax_some h0
  refine va_iald hx hb hK hP (13 + ((3 : Int32) : Int32).toNatClampNeg) 0 (wL_rg cA h ad σ hi1) rfl hi dX1_kindAt_11 ?_
  refine lv_iload_n hx hb dX1_kindAt_12 rfl (lv_at hl 0 rfl) ?_
  refine lv_iand hx hb dX1_kindAt_13 ?_
  refine lv_if_eq (tgt := 19) hx hb dX1_kindAt_14 (by decide) (fun hc => ?_) (fun hc => ?_)
  · have h0 := it_t h0 hc
    refine lv_aload_n hx hb dX1_kindAt_19 rfl (lv_at hl 1 rfl) ?_
    refine va_get (D := (dC, dI)) (ci := 1) (v := .ref (ad 2)) (C := RX1) (T := TX1) (N := 16) hx hb hts hin0 hown hK hP 0 rfl rfl 2 (by decide) (hts (.fieldLink RX1 17 "MeanLocks$Locks" "atLeast" "[[I") (List.mem_of_getElem? (i := 1) rfl)) (fun _ h9 => h9) rfl dX1_kindAt_20 ?_
    refine lv_iconst (v := (2 : Int32)) hx hb dX1_kindAt_23 (by decide) ?_
    obtain ⟨hi2, h0⟩ := ax_some h0
    refine x_aldA hx hb hK hP 2 4 rfl rfl hi2 rfl dX1_kindAt_24 ?_
    refine lv_iload_n hx hb dX1_kindAt_25 rfl (lv_at hl 3 rfl) ?_
    obtain ⟨hi, h0⟩ := ax_some h0
    refine va_iald hx hb hK hP (13 + ((2 : Int32) : Int32).toNatClampNeg) 0 (wL_rg cA h ad σ hi2) rfl hi dX1_kindAt_26 ?_
    refine lv_iload_n hx hb dX1_kindAt_27 rfl (lv_at hl 0 rfl) ?_
    refine lv_iand hx hb dX1_kindAt_28 ?_
    refine lv_if_eq (tgt := 34) hx hb dX1_kindAt_29 (by decide) (fun hc => ?_) (fun hc => ?_)
    · have h0 := it_t h0 hc
      refine lv_aload_n hx hb dX1_kindAt_34 rfl (lv_at hl 1 rfl) ?_
      refine va_get (D := (dC, dI)) (ci := 1) (v := .ref (ad 2)) (C := RX1) (T := TX1) (N := 16) hx hb hts hin0 hown hK hP 0 rfl rfl 2 (by decide) (hts (.fieldLink RX1 17 "MeanLocks$Locks" "atLeast" "[[I") (List.mem_of_getElem? (i := 1) rfl)) (fun _ h9 => h9) rfl dX1_kindAt_35 ?_
      refine lv_iconst (v := (1 : Int32)) hx hb dX1_kindAt_38 (by decide) ?_
      obtain ⟨hi3, h0⟩ := ax_some h0
      refine x_aldA hx hb hK hP 2 4 rfl rfl hi3 rfl dX1_kindAt_39 ?_
      refine lv_iload_n hx hb dX1_kindAt_40 rfl (lv_at hl 3 rfl) ?_
      obtain ⟨hi, h0⟩ := ax_some h0
      refine va_iald hx hb hK hP (13 + ((1 : Int32) : Int32).toNatClampNeg) 0 (wL_rg cA h ad σ hi3) rfl hi dX1_kindAt_41 ?_
      refine lv_iload_n hx hb dX1_kindAt_42 rfl (lv_at hl 0 rfl) ?_
      refine lv_iand hx hb dX1_kindAt_43 ?_
      refine lv_if_eq (tgt := 51) hx hb dX1_kindAt_44 (by decide) (fun hc => ?_) (fun hc => ?_)
      · have h0 := it_t h0 hc
        refine lv_iconst (v := (0 : Int32)) hx hb dX1_kindAt_51 (by decide) ?_
        have e1 := Option.some.inj h0
        exact x_retI hC hr hlocks rfl hP hD hS dX1_kindAt_52 ⟨e1, rfl⟩
      · have h0 := it_f h0 hc
        refine lv_iconst (v := (1 : Int32)) hx hb dX1_kindAt_47 (by decide) ?_
        refine lv_goto (tgt := 52) hx hb dX1_kindAt_48 (by decide) ?_
        have e1 := Option.some.inj h0
        exact x_retI hC hr hlocks rfl hP hD hS dX1_kindAt_52 ⟨e1, rfl⟩
    · have h0 := it_f h0 hc
      refine lv_iconst (v := (2 : Int32)) hx hb dX1_kindAt_32 (by decide) ?_
      have e1 := Option.some.inj h0
      exact x_retI hC hr hlocks rfl hP hD hS dX1_kindAt_33 ⟨e1, rfl⟩
  · have h0 := it_f h0 hc
    refine lv_iconst (v := (3 : Int32)) hx hb dX1_kindAt_17 (by decide) ?_
    have e1 := Option.some.inj h0
    exact x_retI hC hr hlocks rfl hP hD hS dX1_kindAt_18 ⟨e1, rfl⟩
def bX1_isInDispute_18 (a1 : Int32) (a2 : Int32) (a3 : Int32) (σ : St) (r1 : Int32) (x2 : Int32) : Option (Int32 ⊕ (Int32 ⊕ Int32)) := if (σ 4 0) ≤ x2 then (some (.inr (.inl x2))) else (ax x2 8 (nm (σ 3 (x2 : Int32).toNatClampNeg) fun v3 => if (v3 : Int32) = a1 then (nm (x2 + (1 : Int32)) fun v4 => some (.inl v4)) else (bnd (fX3_holds a3 v3) fun r5 => if (r5 : Int32) = (0 : Int32) then (nm (x2 + (1 : Int32)) fun v6 => some (.inl v6)) else (ax v3 8 (if a2 < (σ 6 (v3 : Int32).toNatClampNeg) then (nm (x2 + (1 : Int32)) fun v7 => some (.inl v7)) else (ax v3 8 (if (σ 7 (v3 : Int32).toNatClampNeg) ≤ a2 then (nm (x2 + (1 : Int32)) fun v8 => some (.inl v8)) else (ax v3 8 (if ((r1 + (σ 5 (v3 : Int32).toNatClampNeg)) : Int32) < (4 : Int32) then (nm (x2 + (1 : Int32)) fun v9 => some (.inl v9)) else (bnd (fX1_kindAt v3 a2 σ) fun r10 => ax v3 8 (if (σ 5 (v3 : Int32).toNatClampNeg) ≤ r10 then (nm (x2 + (1 : Int32)) fun v11 => some (.inl v11)) else (some (.inr (.inr (1 : Int32)))))))))))))))
def fX1_isInDispute (a1 : Int32) (a2 : Int32) (a3 : Int32) (σ : St) : Option Int32 := bnd (fX1_kindAt a1 a2 σ) fun r1 => if (r1 : Int32) = (0 : Int32) then (some (0 : Int32)) else (bnd (lp (fun t : Int32 => bX1_isInDispute_18 a1 a2 a3 σ r1 t) FU (0 : Int32)) (fun e0 : (Int32 ⊕ Int32) => el e0 (fun e : Int32 => nm e fun x12 => some (0 : Int32)) (fun r : Int32 => some r)))
abbrev rmX1_isInDispute : Room := { frames := 1, cells := 0, slots := 0, locals := 23 }
set_option maxHeartbeats 4000000 in
set_option maxRecDepth 100000 in
theorem kX1_isInDispute (l : Launch) (dC : Nat → ClassId) (dI : Nat → Nat → Nat) (cA : Nat → ClassId) (h : Nat) (ad : Nat → Nat) (a1 : Int32) (a2 : Int32) (a3 : Int32) (σ : St) (R0 : Int32) (h0 : fX1_isInDispute a1 a2 a3 σ = some R0) : CI l yX1_isInDispute wsX1_isInDispute rmX1_isInDispute (dC, dI) vwCl (tysW cA) [.ref h, .int a1, .int a2, .int a3] (wL cA h ad σ) R0 (wL cA h ad σ) := by
  refine CGI_of (cc := cX1_isInDispute) (nL := 7) (ret := (some .boolean)) (by decide) rfl (Nat.le_of_ble_eq_true rfl) ?_
  intro p e s m av below meth c A ls H locs hC hl
  obtain ⟨hC, hr, hlocks, hV, hN, hK, hP, hD, hS, hA⟩ := hC
  have hC : CallFix p m c cX1_isInDispute 7 s _ wsX1_isInDispute RX1 := hC
  obtain ⟨hx, hb, hml, hown, hts⟩ := id hC
  have hin0 : ∀ w ∈ u_ws RX1 TX1 16, w ∈ wsX1_isInDispute := fun _ h => (List.mem_cons_of_mem _ (List.mem_append_right _ h))
  have hl : lv_has ls 7 [(0, .ref h), (1, .int a1), (2, .int a2), (3, .int a3)] := hl
  unfold fX1_isInDispute at h0
  refine lv_aload_n hx hb dX1_isInDispute_0 rfl (lv_at hl 0 rfl) ?_
  refine lv_iload_n hx hb dX1_isInDispute_1 rfl (lv_at hl 1 rfl) ?_
  refine lv_iload_n hx hb dX1_isInDispute_2 rfl (lv_at hl 2 rfl) ?_
  obtain ⟨r1, hf1, h0⟩ := bnd_some h0
  refine x_VI (As := [.int a1, .int a2]) (rest := []) hC (kX1_kindAt l dC dI cA h ad a1 a2 σ r1  hf1) (cwV 2 hts gX1_isInDispute_X1_kindAt rfl rfl rfl (by decide +kernel) ⟨Nat.le_of_ble_eq_true rfl, Nat.le_of_ble_eq_true rfl⟩) 0 1 hV hN hK hP hD hS hA rfl rfl rfl rfl hl.1 rfl (Nat.le_of_ble_eq_true rfl) ⟨Nat.zero_le _, Nat.zero_le _⟩ dX1_isInDispute_3 (fun H locs hP hD hS => ?_)
  refine lv_istore (lv' := [(4, .int r1), (0, .ref h), (1, .int a1), (2, .int a2), (3, .int a3)]) hx hb dX1_isInDispute_6 hl (by decide) rfl (fun ls hl => ?_)
  refine lv_iload hx hb dX1_isInDispute_8 (lv_at hl 0 rfl) ?_
  refine lv_if_ne (tgt := 15) hx hb dX1_isInDispute_10 (by decide) (fun hc => ?_) (fun hc => ?_)
  · have h0 := it_f h0 hc
    refine lv_iconst (v := (0 : Int32)) hx hb dX1_isInDispute_15 (by decide) ?_
    refine lv_istore (lv' := [(5, .int (0 : Int32)), (4, .int r1), (0, .ref h), (1, .int a1), (2, .int a2), (3, .int a3)]) hx hb dX1_isInDispute_16 hl (by decide) rfl (fun ls hl => ?_)
    obtain ⟨ε2, hl2, h0⟩ := bnd_some h0
    have KN2 : ∀ (x12 : Int32), ε2 = .inl x12 → ∀ (H : Heap) (locs : List Loc), va_P (dC, dI) vwCl (wL cA h ad σ) H → va_D A (wL cA h ad σ) → va_S A s.heap H locs → ∀ (ls : Array Slot), lv_has ls 7 [(5, .int x12), (4, .int r1), (0, .ref h), (1, .int a1), (2, .int a2), (3, .int a3)] → W p l e (headSpec wsX1_isInDispute rmX1_isInDispute).room s m av below meth c H locs 0 0 (MQ below (qI (dC, dI) A R0 (wL cA h ad σ)) av s 0 0 A) (F0 m 112 ls []) := by
      intro x12 hε H locs hP hD hS ls hl
      rw [hε] at h0
      have h0 := el_l h0
      have h0 := nm_at (z := x12) rfl h0
      refine lv_iconst (v := (0 : Int32)) hx hb dX1_isInDispute_112 (by decide) ?_
      have e1 := Option.some.inj h0
      exact x_retI hC hr hlocks rfl hP hD hS dX1_isInDispute_113 ⟨e1, rfl⟩
    have LP2 : ∀ (n : Nat) (x2 : Int32), lp (fun t : Int32 => bX1_isInDispute_18 a1 a2 a3 σ r1 t) n x2 = some ε2 → ∀ (H : Heap) (locs : List Loc), va_P (dC, dI) vwCl (wL cA h ad σ) H → va_D A (wL cA h ad σ) → va_S A s.heap H locs → ∀ (ls : Array Slot), lv_has ls 7 [(5, .int x2), (4, .int r1), (0, .ref h), (1, .int a1), (2, .int a2), (3, .int a3)] → W p l e (headSpec wsX1_isInDispute rmX1_isInDispute).room s m av below meth c H locs 0 0 (MQ below (qI (dC, dI) A R0 (wL cA h ad σ)) av s 0 0 A) (F0 m 18 ls []) := by
      intro n
      induction n with
      | zero => intro x2 hl0; exact (lp_0 hl0).elim
      | succ n ih2 =>
        intro x2 hl0 H locs hP hD hS ls hl
        obtain ⟨z2, h1, hz2⟩ := lp_s hl0
        have h1 : bX1_isInDispute_18 a1 a2 a3 σ r1 x2 = some z2 := h1
        unfold bX1_isInDispute_18 at h1
        refine lv_iload hx hb dX1_isInDispute_18 (lv_at hl 0 rfl) ?_
        refine lv_aload_n hx hb dX1_isInDispute_20 rfl (lv_at hl 2 rfl) ?_
        refine va_get (D := (dC, dI)) (ci := 1) (v := .int (σ 4 0)) (C := RX1) (T := TX1) (N := 16) hx hb hts hin0 hown hK hP 0 rfl rfl 4 (by decide) (hts (.fieldLink RX1 54 "MeanLocks$Locks" "waiting" "I") (List.mem_of_getElem? (i := 1) rfl)) (fun _ h9 => h9) rfl dX1_isInDispute_21 ?_
        refine lv_icmp_ge (tgt := 112) hx hb dX1_isInDispute_24 (by decide) (fun hc => ?_) (fun hc => ?_)
        · have h1 := it_t h1 hc
          have he := lp_r h1 hz2
          exact KN2 x2 he _ _ hP hD hS ls (lv_sub hl [0, 1, 2, 3, 4, 5] rfl)
        · have h1 := it_f h1 hc
          refine lv_aload_n hx hb dX1_isInDispute_27 rfl (lv_at hl 2 rfl) ?_
          refine va_get (D := (dC, dI)) (ci := 1) (v := .ref (ad 3)) (C := RX1) (T := TX1) (N := 16) hx hb hts hin0 hown hK hP 0 rfl rfl 3 (by decide) (hts (.fieldLink RX1 20 "MeanLocks$Locks" "row" "[I") (List.mem_of_getElem? (i := 2) rfl)) (fun _ h9 => h9) rfl dX1_isInDispute_28 ?_
          refine lv_iload hx hb dX1_isInDispute_31 (lv_at hl 0 rfl) ?_
          obtain ⟨hi, h1⟩ := ax_some h1
          refine va_iald hx hb hK hP 3 0 rfl rfl hi dX1_isInDispute_33 ?_
          refine lv_topi (fun v3 ev3 => ?_)
          have h1 := nm_at ev3 h1
          refine lv_istore (lv' := [(6, .int v3), (5, .int x2), (4, .int r1), (0, .ref h), (1, .int a1), (2, .int a2), (3, .int a3)]) hx hb dX1_isInDispute_34 hl (by decide) rfl (fun ls hl => ?_)
          refine lv_iload hx hb dX1_isInDispute_36 (lv_at hl 0 rfl) ?_
          refine lv_iload_n hx hb dX1_isInDispute_38 rfl (lv_at hl 4 rfl) ?_
          refine lv_icmp_eq (tgt := 106) hx hb dX1_isInDispute_39 (by decide) (fun hc => ?_) (fun hc => ?_)
          · have h1 := it_t h1 hc
            obtain ⟨v4, ev4, h1⟩ := nm_some h1
            refine lv_iinc (v := v4) (lv' := [(5, .int v4), (6, .int v3), (4, .int r1), (0, .ref h), (1, .int a1), (2, .int a2), (3, .int a3)]) hx hb dX1_isInDispute_106 hl (k := 1) rfl (by rw [ev4]; rfl) (by decide) rfl (fun ls hl => ?_)
            refine lv_goto (tgt := 18) hx hb dX1_isInDispute_109 (by decide) ?_
            have hc := lp_l h1 hz2
            exact ih2 v4 hc _ _ hP hD hS ls (lv_sub hl [0, 2, 3, 4, 5, 6] rfl)
          · have h1 := it_f h1 hc
            refine lv_iload_n hx hb dX1_isInDispute_42 rfl (lv_at hl 6 rfl) ?_
            refine lv_iload hx hb dX1_isInDispute_43 (lv_at hl 0 rfl) ?_
            obtain ⟨r5, hf3, h1⟩ := bnd_some h1
            refine x_SNI (As := [.int a3, .int v3]) (rest := []) hC (kX3_holds l dC dI cA a3 v3 r5 hf3) ⟨va_cnB 2 hts gX1_isInDispute_X3_holds_n140 rfl rfl rfl (hN _ (List.mem_of_getElem? (i := 4) rfl)) (hts (.initialized RX3) (List.mem_of_getElem? (i := 13) rfl)) ⟨by decide +kernel, by decide +kernel, by decide +kernel⟩ ⟨Nat.le_of_ble_eq_true rfl, Nat.le_of_ble_eq_true rfl⟩, (hts (.static yX3_holds) (List.mem_of_getElem? (i := 12) rfl)), trivial⟩ hV hN hK hP hD hS hA rfl hl.1 rfl (Nat.le_of_ble_eq_true rfl) ⟨Nat.zero_le _, Nat.zero_le _⟩ dX1_isInDispute_45 (fun H locs hP hD hS => ?_)
            refine lv_if_eq (tgt := 106) hx hb dX1_isInDispute_48 (by decide) (fun hc => ?_) (fun hc => ?_)
            · have h1 := it_t h1 hc
              obtain ⟨v6, ev6, h1⟩ := nm_some h1
              refine lv_iinc (v := v6) (lv' := [(5, .int v6), (6, .int v3), (4, .int r1), (0, .ref h), (1, .int a1), (2, .int a2), (3, .int a3)]) hx hb dX1_isInDispute_106 hl (k := 1) rfl (by rw [ev6]; rfl) (by decide) rfl (fun ls hl => ?_)
              refine lv_goto (tgt := 18) hx hb dX1_isInDispute_109 (by decide) ?_
              have hc := lp_l h1 hz2
              exact ih2 v6 hc _ _ hP hD hS ls (lv_sub hl [0, 2, 3, 4, 5, 6] rfl)
            · have h1 := it_f h1 hc
              refine lv_aload_n hx hb dX1_isInDispute_51 rfl (lv_at hl 3 rfl) ?_
              refine va_get (D := (dC, dI)) (ci := 1) (v := .ref (ad 6)) (C := RX1) (T := TX1) (N := 16) hx hb hts hin0 hown hK hP 0 rfl rfl 6 (by decide) (hts (.fieldLink RX1 26 "MeanLocks$Locks" "from" "[I") (List.mem_of_getElem? (i := 3) rfl)) (fun _ h9 => h9) rfl dX1_isInDispute_52 ?_
              refine lv_iload hx hb dX1_isInDispute_55 (lv_at hl 0 rfl) ?_
              obtain ⟨hi, h1⟩ := ax_some h1
              refine va_iald hx hb hK hP 5 0 rfl rfl hi dX1_isInDispute_57 ?_
              refine lv_iload_n hx hb dX1_isInDispute_58 rfl (lv_at hl 5 rfl) ?_
              refine lv_icmp_gt (tgt := 106) hx hb dX1_isInDispute_59 (by decide) (fun hc => ?_) (fun hc => ?_)
              · have h1 := it_t h1 hc
                obtain ⟨v7, ev7, h1⟩ := nm_some h1
                refine lv_iinc (v := v7) (lv' := [(5, .int v7), (6, .int v3), (4, .int r1), (0, .ref h), (1, .int a1), (2, .int a2), (3, .int a3)]) hx hb dX1_isInDispute_106 hl (k := 1) rfl (by rw [ev7]; rfl) (by decide) rfl (fun ls hl => ?_)
                refine lv_goto (tgt := 18) hx hb dX1_isInDispute_109 (by decide) ?_
                have hc := lp_l h1 hz2
                exact ih2 v7 hc _ _ hP hD hS ls (lv_sub hl [0, 2, 3, 4, 5, 6] rfl)
              · have h1 := it_f h1 hc
                refine lv_iload_n hx hb dX1_isInDispute_62 rfl (lv_at hl 5 rfl) ?_
                refine lv_aload_n hx hb dX1_isInDispute_63 rfl (lv_at hl 3 rfl) ?_
                refine va_get (D := (dC, dI)) (ci := 1) (v := .ref (ad 7)) (C := RX1) (T := TX1) (N := 16) hx hb hts hin0 hown hK hP 0 rfl rfl 7 (by decide) (hts (.fieldLink RX1 29 "MeanLocks$Locks" "to" "[I") (List.mem_of_getElem? (i := 4) rfl)) (fun _ h9 => h9) rfl dX1_isInDispute_64 ?_
                refine lv_iload hx hb dX1_isInDispute_67 (lv_at hl 0 rfl) ?_
                obtain ⟨hi, h1⟩ := ax_some h1
                refine va_iald hx hb hK hP 6 0 rfl rfl hi dX1_isInDispute_69 ?_
                refine lv_icmp_ge (tgt := 106) hx hb dX1_isInDispute_70 (by decide) (fun hc => ?_) (fun hc => ?_)
                · have h1 := it_t h1 hc
                  obtain ⟨v8, ev8, h1⟩ := nm_some h1
                  refine lv_iinc (v := v8) (lv' := [(5, .int v8), (6, .int v3), (4, .int r1), (0, .ref h), (1, .int a1), (2, .int a2), (3, .int a3)]) hx hb dX1_isInDispute_106 hl (k := 1) rfl (by rw [ev8]; rfl) (by decide) rfl (fun ls hl => ?_)
                  refine lv_goto (tgt := 18) hx hb dX1_isInDispute_109 (by decide) ?_
                  have hc := lp_l h1 hz2
                  exact ih2 v8 hc _ _ hP hD hS ls (lv_sub hl [0, 2, 3, 4, 5, 6] rfl)
                · have h1 := it_f h1 hc
                  refine lv_iload hx hb dX1_isInDispute_73 (lv_at hl 2 rfl) ?_
                  refine lv_aload_n hx hb dX1_isInDispute_75 rfl (lv_at hl 3 rfl) ?_
                  refine va_get (D := (dC, dI)) (ci := 1) (v := .ref (ad 5)) (C := RX1) (T := TX1) (N := 16) hx hb hts hin0 hown hK hP 0 rfl rfl 5 (by decide) (hts (.fieldLink RX1 23 "MeanLocks$Locks" "wanted" "[I") (List.mem_of_getElem? (i := 5) rfl)) (fun _ h9 => h9) rfl dX1_isInDispute_76 ?_
                  refine lv_iload hx hb dX1_isInDispute_79 (lv_at hl 0 rfl) ?_
                  obtain ⟨hi, h1⟩ := ax_some h1
                  refine va_iald hx hb hK hP 4 0 rfl rfl hi dX1_isInDispute_81 ?_
                  refine lv_iadd hx hb dX1_isInDispute_82 ?_
                  refine lv_iconst (v := (4 : Int32)) hx hb dX1_isInDispute_83 (by decide) ?_
                  refine lv_icmp_lt (tgt := 106) hx hb dX1_isInDispute_84 (by decide) (fun hc => ?_) (fun hc => ?_)
                  · have h1 := it_t h1 hc
                    obtain ⟨v9, ev9, h1⟩ := nm_some h1
                    refine lv_iinc (v := v9) (lv' := [(5, .int v9), (6, .int v3), (4, .int r1), (0, .ref h), (1, .int a1), (2, .int a2), (3, .int a3)]) hx hb dX1_isInDispute_106 hl (k := 1) rfl (by rw [ev9]; rfl) (by decide) rfl (fun ls hl => ?_)
                    refine lv_goto (tgt := 18) hx hb dX1_isInDispute_109 (by decide) ?_
                    have hc := lp_l h1 hz2
                    exact ih2 v9 hc _ _ hP hD hS ls (lv_sub hl [0, 2, 3, 4, 5, 6] rfl)
                  · have h1 := it_f h1 hc
                    refine lv_aload_n hx hb dX1_isInDispute_87 rfl (lv_at hl 3 rfl) ?_
                    refine lv_iload hx hb dX1_isInDispute_88 (lv_at hl 0 rfl) ?_
                    refine lv_iload_n hx hb dX1_isInDispute_90 rfl (lv_at hl 5 rfl) ?_
                    obtain ⟨r10, hf4, h1⟩ := bnd_some h1
                    refine x_VI (As := [.int v3, .int a2]) (rest := []) hC (kX1_kindAt l dC dI cA h ad v3 a2 σ r10  hf4) (cwV 2 hts gX1_isInDispute_X1_kindAt rfl rfl rfl (by decide +kernel) ⟨Nat.le_of_ble_eq_true rfl, Nat.le_of_ble_eq_true rfl⟩) 0 1 hV hN hK hP hD hS hA rfl rfl rfl rfl hl.1 rfl (Nat.le_of_ble_eq_true rfl) ⟨Nat.zero_le _, Nat.zero_le _⟩ dX1_isInDispute_91 (fun H locs hP hD hS => ?_)
                    refine lv_aload_n hx hb dX1_isInDispute_94 rfl (lv_at hl 3 rfl) ?_
                    refine va_get (D := (dC, dI)) (ci := 1) (v := .ref (ad 5)) (C := RX1) (T := TX1) (N := 16) hx hb hts hin0 hown hK hP 0 rfl rfl 5 (by decide) (hts (.fieldLink RX1 23 "MeanLocks$Locks" "wanted" "[I") (List.mem_of_getElem? (i := 5) rfl)) (fun _ h9 => h9) rfl dX1_isInDispute_95 ?_
                    refine lv_iload hx hb dX1_isInDispute_98 (lv_at hl 0 rfl) ?_
                    obtain ⟨hi, h1⟩ := ax_some h1
                    refine va_iald hx hb hK hP 4 0 rfl rfl hi dX1_isInDispute_100 ?_
                    refine lv_icmp_ge (tgt := 106) hx hb dX1_isInDispute_101 (by decide) (fun hc => ?_) (fun hc => ?_)
                    · have h1 := it_t h1 hc
                      obtain ⟨v11, ev11, h1⟩ := nm_some h1
                      refine lv_iinc (v := v11) (lv' := [(5, .int v11), (6, .int v3), (4, .int r1), (0, .ref h), (1, .int a1), (2, .int a2), (3, .int a3)]) hx hb dX1_isInDispute_106 hl (k := 1) rfl (by rw [ev11]; rfl) (by decide) rfl (fun ls hl => ?_)
                      refine lv_goto (tgt := 18) hx hb dX1_isInDispute_109 (by decide) ?_
                      have hc := lp_l h1 hz2
                      exact ih2 v11 hc _ _ hP hD hS ls (lv_sub hl [0, 2, 3, 4, 5, 6] rfl)
                    · have h1 := it_f h1 hc
                      refine lv_iconst (v := (1 : Int32)) hx hb dX1_isInDispute_104 (by decide) ?_
                      have he := lp_r h1 hz2
                      rw [he] at h0
                      have h0 := el_r h0
                      have e1 := Option.some.inj h0
                      exact x_retI hC hr hlocks rfl hP hD hS dX1_isInDispute_105 ⟨e1, rfl⟩
    exact LP2 FU (0 : Int32) hl2 _ _ hP hD hS ls hl
  · have h0 := it_t h0 hc
    refine lv_iconst (v := (0 : Int32)) hx hb dX1_isInDispute_13 (by decide) ?_
    have e1 := Option.some.inj h0
    exact x_retI hC hr hlocks rfl hP hD hS dX1_isInDispute_14 ⟨e1, rfl⟩
def bX1_placesInDispute_5 (a1 : Int32) (a2 : Int32) (σ : St) (x2 : Int32) (x1 : Int32) : Option ((Int32 × Int32) ⊕ (Int32 × Int32)) := if (300 : Int32) ≤ x1 then (some (.inr (x2, x1))) else (bnd (fX1_isInDispute a1 x1 a2 σ) fun r3 => if (r3 : Int32) = (0 : Int32) then (nm (x1 + (1 : Int32)) fun v4 => some (.inl (x2, v4))) else (nm (x2 + (1 : Int32)) fun v5 => nm (x1 + (1 : Int32)) fun v6 => some (.inl (v5, v6))))
def fX1_placesInDispute (a1 : Int32) (a2 : Int32) (σ : St) : Option Int32 := bnd (lp (fun t : (Int32 × Int32) => bX1_placesInDispute_5 a1 a2 σ t.1 t.2) FU ((0 : Int32), (0 : Int32))) (fun e : (Int32 × Int32) => nm e.1 fun x7 => nm e.2 fun x8 => some x7)
abbrev rmX1_placesInDispute : Room := { frames := 2, cells := 0, slots := 0, locals := 49 }
set_option maxHeartbeats 4000000 in
set_option maxRecDepth 100000 in
theorem kX1_placesInDispute (l : Launch) (dC : Nat → ClassId) (dI : Nat → Nat → Nat) (cA : Nat → ClassId) (h : Nat) (ad : Nat → Nat) (a1 : Int32) (a2 : Int32) (σ : St) (R0 : Int32) (h0 : fX1_placesInDispute a1 a2 σ = some R0) : CI l yX1_placesInDispute wsX1_placesInDispute rmX1_placesInDispute (dC, dI) vwCl (tysW cA) [.ref h, .int a1, .int a2] (wL cA h ad σ) R0 (wL cA h ad σ) := by
  refine CGI_of (cc := cX1_placesInDispute) (nL := 5) (ret := (some .int)) (by decide) rfl (Nat.le_of_ble_eq_true rfl) ?_
  intro p e s m av below meth c A ls H locs hC hl
  obtain ⟨hC, hr, hlocks, hV, hN, hK, hP, hD, hS, hA⟩ := hC
  have hC : CallFix p m c cX1_placesInDispute 5 s _ wsX1_placesInDispute RX1 := hC
  obtain ⟨hx, hb, hml, hown, hts⟩ := id hC
  have hin0 : ∀ w ∈ u_ws RX1 TX1 16, w ∈ wsX1_placesInDispute := fun _ h => (List.mem_cons_of_mem _ (List.mem_append_right _ h))
  have hl : lv_has ls 5 [(0, .ref h), (1, .int a1), (2, .int a2)] := hl
  unfold fX1_placesInDispute at h0
  refine lv_iconst (v := (0 : Int32)) hx hb dX1_placesInDispute_0 (by decide) ?_
  refine lv_istore_n (lv' := [(3, .int (0 : Int32)), (0, .ref h), (1, .int a1), (2, .int a2)]) hx hb dX1_placesInDispute_1 rfl hl (by decide) rfl (fun ls hl => ?_)
  refine lv_iconst (v := (0 : Int32)) hx hb dX1_placesInDispute_2 (by decide) ?_
  refine lv_istore (lv' := [(4, .int (0 : Int32)), (3, .int (0 : Int32)), (0, .ref h), (1, .int a1), (2, .int a2)]) hx hb dX1_placesInDispute_3 hl (by decide) rfl (fun ls hl => ?_)
  obtain ⟨ε1, hl1, h0⟩ := bnd_some h0
  have KN1 : ∀ (x7 : Int32) (x8 : Int32), ε1 = (x7, x8) → ∀ (H : Heap) (locs : List Loc), va_P (dC, dI) vwCl (wL cA h ad σ) H → va_D A (wL cA h ad σ) → va_S A s.heap H locs → ∀ (ls : Array Slot), lv_has ls 5 [(4, .int x8), (3, .int x7), (0, .ref h), (1, .int a1), (2, .int a2)] → W p l e (headSpec wsX1_placesInDispute rmX1_placesInDispute).room s m av below meth c H locs 0 0 (MQ below (qI (dC, dI) A R0 (wL cA h ad σ)) av s 0 0 A) (F0 m 33 ls []) := by
    intro x7 x8 hε H locs hP hD hS ls hl
    rw [hε] at h0
    have h0 := nm_at (z := x7) rfl h0
    have h0 := nm_at (z := x8) rfl h0
    refine lv_iload_n hx hb dX1_placesInDispute_33 rfl (lv_at hl 1 rfl) ?_
    have e1 := Option.some.inj h0
    exact x_retI hC hr hlocks rfl hP hD hS dX1_placesInDispute_34 ⟨e1, rfl⟩
  have LP1 : ∀ (n : Nat) (x2 : Int32) (x1 : Int32), lp (fun t : (Int32 × Int32) => bX1_placesInDispute_5 a1 a2 σ t.1 t.2) n (x2, x1) = some ε1 → ∀ (H : Heap) (locs : List Loc), va_P (dC, dI) vwCl (wL cA h ad σ) H → va_D A (wL cA h ad σ) → va_S A s.heap H locs → ∀ (ls : Array Slot), lv_has ls 5 [(4, .int x1), (3, .int x2), (0, .ref h), (1, .int a1), (2, .int a2)] → W p l e (headSpec wsX1_placesInDispute rmX1_placesInDispute).room s m av below meth c H locs 0 0 (MQ below (qI (dC, dI) A R0 (wL cA h ad σ)) av s 0 0 A) (F0 m 5 ls []) := by
    intro n
    induction n with
    | zero => intro x2 x1 hl0; exact (lp_0 hl0).elim
    | succ n ih1 =>
      intro x2 x1 hl0 H locs hP hD hS ls hl
      obtain ⟨z1, h1, hz1⟩ := lp_s hl0
      have h1 : bX1_placesInDispute_5 a1 a2 σ x2 x1 = some z1 := h1
      unfold bX1_placesInDispute_5 at h1
      refine lv_iload hx hb dX1_placesInDispute_5 (lv_at hl 0 rfl) ?_
      refine lv_sipush (v := (300 : Int32)) hx hb dX1_placesInDispute_7 (by decide) ?_
      refine lv_icmp_ge (tgt := 33) hx hb dX1_placesInDispute_10 (by decide) (fun hc => ?_) (fun hc => ?_)
      · have h1 := it_t h1 hc
        have he := lp_r h1 hz1
        exact KN1 x2 x1 he _ _ hP hD hS ls (lv_sub hl [0, 1, 2, 3, 4] rfl)
      · have h1 := it_f h1 hc
        refine lv_aload_n hx hb dX1_placesInDispute_13 rfl (lv_at hl 2 rfl) ?_
        refine lv_iload_n hx hb dX1_placesInDispute_14 rfl (lv_at hl 3 rfl) ?_
        refine lv_iload hx hb dX1_placesInDispute_15 (lv_at hl 0 rfl) ?_
        refine lv_iload_n hx hb dX1_placesInDispute_17 rfl (lv_at hl 4 rfl) ?_
        obtain ⟨r3, hf2, h1⟩ := bnd_some h1
        refine x_VI (As := [.int a1, .int x1, .int a2]) (rest := []) hC (kX1_isInDispute l dC dI cA h ad a1 x1 a2 σ r3  hf2) (cwV 3 hts gX1_placesInDispute_X1_isInDispute rfl rfl rfl (by decide +kernel) ⟨Nat.le_of_ble_eq_true rfl, Nat.le_of_ble_eq_true rfl⟩) 0 1 hV hN hK hP hD hS hA rfl rfl rfl rfl hl.1 rfl (Nat.le_of_ble_eq_true rfl) ⟨Nat.zero_le _, Nat.zero_le _⟩ dX1_placesInDispute_18 (fun H locs hP hD hS => ?_)
        refine lv_if_eq (tgt := 27) hx hb dX1_placesInDispute_21 (by decide) (fun hc => ?_) (fun hc => ?_)
        · have h1 := it_t h1 hc
          obtain ⟨v4, ev4, h1⟩ := nm_some h1
          refine lv_iinc (v := v4) (lv' := [(4, .int v4), (3, .int x2), (0, .ref h), (1, .int a1), (2, .int a2)]) hx hb dX1_placesInDispute_27 hl (k := 0) rfl (by rw [ev4]; rfl) (by decide) rfl (fun ls hl => ?_)
          refine lv_goto (tgt := 5) hx hb dX1_placesInDispute_30 (by decide) ?_
          have hc := lp_l h1 hz1
          exact ih1 x2 v4 hc _ _ hP hD hS ls (lv_sub hl [0, 1, 2, 3, 4] rfl)
        · have h1 := it_f h1 hc
          obtain ⟨v5, ev5, h1⟩ := nm_some h1
          refine lv_iinc (v := v5) (lv' := [(3, .int v5), (4, .int x1), (0, .ref h), (1, .int a1), (2, .int a2)]) hx hb dX1_placesInDispute_24 hl (k := 1) rfl (by rw [ev5]; rfl) (by decide) rfl (fun ls hl => ?_)
          obtain ⟨v6, ev6, h1⟩ := nm_some h1
          refine lv_iinc (v := v6) (lv' := [(4, .int v6), (3, .int v5), (0, .ref h), (1, .int a1), (2, .int a2)]) hx hb dX1_placesInDispute_27 hl (k := 1) rfl (by rw [ev6]; rfl) (by decide) rfl (fun ls hl => ?_)
          refine lv_goto (tgt := 5) hx hb dX1_placesInDispute_30 (by decide) ?_
          have hc := lp_l h1 hz1
          exact ih1 v5 v6 hc _ _ hP hD hS ls (lv_sub hl [0, 1, 2, 3, 4] rfl)
  exact LP1 FU (0 : Int32) (0 : Int32) hl1 _ _ hP hD hS ls hl
def bX1_leastHarmed_9 (a1 : Int32) (σ : St) (x3 : Int32) (x2 : Int32) (x1 : Int32) : Option ((Int32 × Int32 × Int32) ⊕ (Int32 × Int32 × Int32)) := if (8 : Int32) ≤ x1 then (some (.inr (x3, x2, x1))) else (bnd (fX3_holds a1 x1) fun r4 => if (r4 : Int32) = (0 : Int32) then (nm (x1 + (1 : Int32)) fun v5 => some (.inl (x3, x2, v5))) else (bnd (fX1_placesInDispute x1 a1 σ) fun r6 => if (r6 : Int32) ≤ (0 : Int32) then (nm (x1 + (1 : Int32)) fun v7 => some (.inl (x3, x2, v7))) else (if x3 < r6 then (nm (x1 + (1 : Int32)) fun v8 => some (.inl (x3, x2, v8))) else (nm (x1 + (1 : Int32)) fun v9 => some (.inl (r6, x1, v9))))))
def fX1_leastHarmed (a1 : Int32) (σ : St) : Option Int32 := bnd (lp (fun t : (Int32 × Int32 × Int32) => bX1_leastHarmed_9 a1 σ t.1 t.2.1 t.2.2) FU ((301 : Int32), (-1 : Int32), (0 : Int32))) (fun e : (Int32 × Int32 × Int32) => nm e.1 fun x10 => nm e.2.1 fun x11 => nm e.2.2 fun x12 => some x11)
abbrev rmX1_leastHarmed : Room := { frames := 3, cells := 0, slots := 0, locals := 73 }
set_option maxHeartbeats 4000000 in
set_option maxRecDepth 100000 in
theorem kX1_leastHarmed (l : Launch) (dC : Nat → ClassId) (dI : Nat → Nat → Nat) (cA : Nat → ClassId) (h : Nat) (ad : Nat → Nat) (a1 : Int32) (σ : St) (R0 : Int32) (h0 : fX1_leastHarmed a1 σ = some R0) : CI l yX1_leastHarmed wsX1_leastHarmed rmX1_leastHarmed (dC, dI) vwCl (tysW cA) [.ref h, .int a1] (wL cA h ad σ) R0 (wL cA h ad σ) := by
  refine CGI_of (cc := cX1_leastHarmed) (nL := 6) (ret := (some .int)) (by decide) rfl (Nat.le_of_ble_eq_true rfl) ?_
  intro p e s m av below meth c A ls H locs hC hl
  obtain ⟨hC, hr, hlocks, hV, hN, hK, hP, hD, hS, hA⟩ := hC
  have hC : CallFix p m c cX1_leastHarmed 6 s _ wsX1_leastHarmed RX1 := hC
  obtain ⟨hx, hb, hml, hown, hts⟩ := id hC
  have hin0 : ∀ w ∈ u_ws RX1 TX1 16, w ∈ wsX1_leastHarmed := fun _ h => (List.mem_cons_of_mem _ (List.mem_append_right _ h))
  have hl : lv_has ls 6 [(0, .ref h), (1, .int a1)] := hl
  unfold fX1_leastHarmed at h0
  refine lv_sipush (v := (301 : Int32)) hx hb dX1_leastHarmed_0 (by decide) ?_
  refine lv_istore_n (lv' := [(2, .int (301 : Int32)), (0, .ref h), (1, .int a1)]) hx hb dX1_leastHarmed_3 rfl hl (by decide) rfl (fun ls hl => ?_)
  refine lv_iconst (v := (-1 : Int32)) hx hb dX1_leastHarmed_4 (by decide) ?_
  refine lv_istore_n (lv' := [(3, .int (-1 : Int32)), (2, .int (301 : Int32)), (0, .ref h), (1, .int a1)]) hx hb dX1_leastHarmed_5 rfl hl (by decide) rfl (fun ls hl => ?_)
  refine lv_iconst (v := (0 : Int32)) hx hb dX1_leastHarmed_6 (by decide) ?_
  refine lv_istore (lv' := [(4, .int (0 : Int32)), (3, .int (-1 : Int32)), (2, .int (301 : Int32)), (0, .ref h), (1, .int a1)]) hx hb dX1_leastHarmed_7 hl (by decide) rfl (fun ls hl => ?_)
  obtain ⟨ε1, hl1, h0⟩ := bnd_some h0
  have KN1 : ∀ (x10 : Int32) (x11 : Int32) (x12 : Int32), ε1 = (x10, x11, x12) → ∀ (H : Heap) (locs : List Loc), va_P (dC, dI) vwCl (wL cA h ad σ) H → va_D A (wL cA h ad σ) → va_S A s.heap H locs → ∀ (ls : Array Slot), lv_has ls 6 [(4, .int x12), (3, .int x11), (2, .int x10), (0, .ref h), (1, .int a1)] → W p l e (headSpec wsX1_leastHarmed rmX1_leastHarmed).room s m av below meth c H locs 0 0 (MQ below (qI (dC, dI) A R0 (wL cA h ad σ)) av s 0 0 A) (F0 m 61 ls []) := by
    intro x10 x11 x12 hε H locs hP hD hS ls hl
    rw [hε] at h0
    have h0 := nm_at (z := x10) rfl h0
    have h0 := nm_at (z := x11) rfl h0
    have h0 := nm_at (z := x12) rfl h0
    refine lv_iload_n hx hb dX1_leastHarmed_61 rfl (lv_at hl 1 rfl) ?_
    have e1 := Option.some.inj h0
    exact x_retI hC hr hlocks rfl hP hD hS dX1_leastHarmed_62 ⟨e1, rfl⟩
  have LP1 : ∀ (n : Nat) (x3 : Int32) (x2 : Int32) (x1 : Int32), lp (fun t : (Int32 × Int32 × Int32) => bX1_leastHarmed_9 a1 σ t.1 t.2.1 t.2.2) n (x3, x2, x1) = some ε1 → ∀ (H : Heap) (locs : List Loc), va_P (dC, dI) vwCl (wL cA h ad σ) H → va_D A (wL cA h ad σ) → va_S A s.heap H locs → ∀ (ls : Array Slot), lv_has ls 6 [(4, .int x1), (3, .int x2), (2, .int x3), (0, .ref h), (1, .int a1)] → W p l e (headSpec wsX1_leastHarmed rmX1_leastHarmed).room s m av below meth c H locs 0 0 (MQ below (qI (dC, dI) A R0 (wL cA h ad σ)) av s 0 0 A) (F0 m 9 ls []) := by
    intro n
    induction n with
    | zero => intro x3 x2 x1 hl0; exact (lp_0 hl0).elim
    | succ n ih1 =>
      intro x3 x2 x1 hl0 H locs hP hD hS ls hl
      obtain ⟨z1, h1, hz1⟩ := lp_s hl0
      have h1 : bX1_leastHarmed_9 a1 σ x3 x2 x1 = some z1 := h1
      unfold bX1_leastHarmed_9 at h1
      refine lv_iload hx hb dX1_leastHarmed_9 (lv_at hl 0 rfl) ?_
      refine lv_bipush (v := (8 : Int32)) hx hb dX1_leastHarmed_11 (by decide) ?_
      refine lv_icmp_ge (tgt := 61) hx hb dX1_leastHarmed_13 (by decide) (fun hc => ?_) (fun hc => ?_)
      · have h1 := it_t h1 hc
        have he := lp_r h1 hz1
        exact KN1 x3 x2 x1 he _ _ hP hD hS ls (lv_sub hl [0, 1, 2, 3, 4] rfl)
      · have h1 := it_f h1 hc
        refine lv_iload_n hx hb dX1_leastHarmed_16 rfl (lv_at hl 4 rfl) ?_
        refine lv_iload hx hb dX1_leastHarmed_17 (lv_at hl 0 rfl) ?_
        obtain ⟨r4, hf2, h1⟩ := bnd_some h1
        refine x_SNI (As := [.int a1, .int x1]) (rest := []) hC (kX3_holds l dC dI cA a1 x1 r4 hf2) ⟨va_cnB 2 hts gX1_leastHarmed_X3_holds_n140 rfl rfl rfl (hN _ (List.mem_of_getElem? (i := 4) rfl)) (hts (.initialized RX3) (List.mem_of_getElem? (i := 2) rfl)) ⟨by decide +kernel, by decide +kernel, by decide +kernel⟩ ⟨Nat.le_of_ble_eq_true rfl, Nat.le_of_ble_eq_true rfl⟩, (hts (.static yX3_holds) (List.mem_of_getElem? (i := 1) rfl)), trivial⟩ hV hN hK hP hD hS hA rfl hl.1 rfl (Nat.le_of_ble_eq_true rfl) ⟨Nat.zero_le _, Nat.zero_le _⟩ dX1_leastHarmed_19 (fun H locs hP hD hS => ?_)
        refine lv_if_eq (tgt := 35) hx hb dX1_leastHarmed_22 (by decide) (fun hc => ?_) (fun hc => ?_)
        · have h1 := it_t h1 hc
          refine lv_iconst (v := (0 : Int32)) hx hb dX1_leastHarmed_35 (by decide) ?_
          refine lv_istore (lv' := [(5, .int (0 : Int32)), (4, .int x1), (3, .int x2), (2, .int x3), (0, .ref h), (1, .int a1)]) hx hb dX1_leastHarmed_36 hl (by decide) rfl (fun ls hl => ?_)
          refine lv_iload hx hb dX1_leastHarmed_38 (lv_at hl 0 rfl) ?_
          refine lv_if_le (tgt := 55) hx hb dX1_leastHarmed_40 (by decide) (fun hc => ?_) (fun hc => absurd hc (by decide))
          obtain ⟨v5, ev5, h1⟩ := nm_some h1
          refine lv_iinc (v := v5) (lv' := [(4, .int v5), (5, .int (0 : Int32)), (3, .int x2), (2, .int x3), (0, .ref h), (1, .int a1)]) hx hb dX1_leastHarmed_55 hl (k := 1) rfl (by rw [ev5]; rfl) (by decide) rfl (fun ls hl => ?_)
          refine lv_goto (tgt := 9) hx hb dX1_leastHarmed_58 (by decide) ?_
          have hc := lp_l h1 hz1
          exact ih1 x3 x2 v5 hc _ _ hP hD hS ls (lv_sub hl [0, 2, 3, 4, 5] rfl)
        · have h1 := it_f h1 hc
          refine lv_aload_n hx hb dX1_leastHarmed_25 rfl (lv_at hl 3 rfl) ?_
          refine lv_iload hx hb dX1_leastHarmed_26 (lv_at hl 0 rfl) ?_
          refine lv_iload_n hx hb dX1_leastHarmed_28 rfl (lv_at hl 4 rfl) ?_
          obtain ⟨r6, hf3, h1⟩ := bnd_some h1
          refine x_VI (As := [.int x1, .int a1]) (rest := []) hC (kX1_placesInDispute l dC dI cA h ad x1 a1 σ r6  hf3) (cwV 2 hts gX1_leastHarmed_X1_placesInDispute rfl rfl rfl (by decide +kernel) ⟨Nat.le_of_ble_eq_true rfl, Nat.le_of_ble_eq_true rfl⟩) 0 1 hV hN hK hP hD hS hA rfl rfl rfl rfl hl.1 rfl (Nat.le_of_ble_eq_true rfl) ⟨Nat.zero_le _, Nat.zero_le _⟩ dX1_leastHarmed_29 (fun H locs hP hD hS => ?_)
          refine lv_goto (tgt := 36) hx hb dX1_leastHarmed_32 (by decide) ?_
          refine lv_istore (lv' := [(5, .int r6), (4, .int x1), (3, .int x2), (2, .int x3), (0, .ref h), (1, .int a1)]) hx hb dX1_leastHarmed_36 hl (by decide) rfl (fun ls hl => ?_)
          refine lv_iload hx hb dX1_leastHarmed_38 (lv_at hl 0 rfl) ?_
          refine lv_if_le (tgt := 55) hx hb dX1_leastHarmed_40 (by decide) (fun hc => ?_) (fun hc => ?_)
          · have h1 := it_t h1 hc
            obtain ⟨v7, ev7, h1⟩ := nm_some h1
            refine lv_iinc (v := v7) (lv' := [(4, .int v7), (5, .int r6), (3, .int x2), (2, .int x3), (0, .ref h), (1, .int a1)]) hx hb dX1_leastHarmed_55 hl (k := 1) rfl (by rw [ev7]; rfl) (by decide) rfl (fun ls hl => ?_)
            refine lv_goto (tgt := 9) hx hb dX1_leastHarmed_58 (by decide) ?_
            have hc := lp_l h1 hz1
            exact ih1 x3 x2 v7 hc _ _ hP hD hS ls (lv_sub hl [0, 2, 3, 4, 5] rfl)
          · have h1 := it_f h1 hc
            refine lv_iload hx hb dX1_leastHarmed_43 (lv_at hl 0 rfl) ?_
            refine lv_iload_n hx hb dX1_leastHarmed_45 rfl (lv_at hl 3 rfl) ?_
            refine lv_icmp_gt (tgt := 55) hx hb dX1_leastHarmed_46 (by decide) (fun hc => ?_) (fun hc => ?_)
            · have h1 := it_t h1 hc
              obtain ⟨v8, ev8, h1⟩ := nm_some h1
              refine lv_iinc (v := v8) (lv' := [(4, .int v8), (5, .int r6), (3, .int x2), (2, .int x3), (0, .ref h), (1, .int a1)]) hx hb dX1_leastHarmed_55 hl (k := 1) rfl (by rw [ev8]; rfl) (by decide) rfl (fun ls hl => ?_)
              refine lv_goto (tgt := 9) hx hb dX1_leastHarmed_58 (by decide) ?_
              have hc := lp_l h1 hz1
              exact ih1 x3 x2 v8 hc _ _ hP hD hS ls (lv_sub hl [0, 2, 3, 4, 5] rfl)
            · have h1 := it_f h1 hc
              refine lv_iload hx hb dX1_leastHarmed_49 (lv_at hl 0 rfl) ?_
              refine lv_istore_n (lv' := [(2, .int r6), (5, .int r6), (4, .int x1), (3, .int x2), (0, .ref h), (1, .int a1)]) hx hb dX1_leastHarmed_51 rfl hl (by decide) rfl (fun ls hl => ?_)
              refine lv_iload hx hb dX1_leastHarmed_52 (lv_at hl 2 rfl) ?_
              refine lv_istore_n (lv' := [(3, .int x1), (2, .int r6), (5, .int r6), (4, .int x1), (0, .ref h), (1, .int a1)]) hx hb dX1_leastHarmed_54 rfl hl (by decide) rfl (fun ls hl => ?_)
              obtain ⟨v9, ev9, h1⟩ := nm_some h1
              refine lv_iinc (v := v9) (lv' := [(4, .int v9), (3, .int x1), (2, .int r6), (5, .int r6), (0, .ref h), (1, .int a1)]) hx hb dX1_leastHarmed_55 hl (k := 3) rfl (by rw [ev9]; rfl) (by decide) rfl (fun ls hl => ?_)
              refine lv_goto (tgt := 9) hx hb dX1_leastHarmed_58 (by decide) ?_
              have hc := lp_l h1 hz1
              exact ih1 r6 x1 v9 hc _ _ hP hD hS ls (lv_sub hl [0, 1, 2, 4, 5] rfl)
  exact LP1 FU (301 : Int32) (-1 : Int32) (0 : Int32) hl1 _ _ hP hD hS ls hl
