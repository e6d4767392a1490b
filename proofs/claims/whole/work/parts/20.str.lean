def fJ1_canEncode_9a6ad (i : Nat) (a1 : Int32) : Option Int32 := if (a1 : Int32) < (0 : Int32) then (some (0 : Int32)) else (if (255 : Int32) < a1 then (some (0 : Int32)) else (some (1 : Int32)))
abbrev rmJ1_canEncode_9a6ad : Room := { frames := 0, cells := 0, slots := 0, locals := 0 }
set_option maxHeartbeats 4000000 in
set_option maxRecDepth 100000 in
theorem kJ1_canEncode_9a6ad (l : Launch) (dC : Nat → ClassId) (dI : Nat → Nat → Nat) (cA : Nat → ClassId) (adK adV : Nat → Nat) (i : Nat) (a1 : Int32) (R0 : Int32) (h0 : fJ1_canEncode_9a6ad i a1 = some R0) (hi0 : i < 2) : CS l yJ1_canEncode_9a6ad wsJ1_canEncode_9a6ad rmJ1_canEncode_9a6ad [.int a1] adK adV R0 := by
  refine CS_of (cc := cJ1_canEncode_9a6ad) (nL := 1) (ret := (some .boolean)) (by decide) rfl (Nat.le_of_ble_eq_true rfl) ?_
  intro p e s m av below meth c A ls H locs hC hl
  obtain ⟨hC, hr, hlocks, hE, hZ, hS, hA⟩ := hC
  have hC : CallFix p m c cJ1_canEncode_9a6ad 1 s _ wsJ1_canEncode_9a6ad RJ1 := hC
  obtain ⟨hx, hb, hml, hown, hts⟩ := id hC
  have hP : va_P (dC, dI) vwCl [] H := fun k q hk => by simp at hk
  have hD : va_D A [] := ⟨fun i j p q hi => by simp at hi, fun k q hk => by simp at hk⟩
  have hl : lv_has ls 1 [(0, .int a1)] := hl
  unfold fJ1_canEncode_9a6ad at h0
  refine lv_iload_n hx hb dJ1_canEncode_9a6ad_0 rfl (lv_at hl 0 rfl) ?_
  refine lv_if_lt (tgt := 15) hx hb dJ1_canEncode_9a6ad_1 (by decide) (fun hc => ?_) (fun hc => ?_)
  · have h0 := it_t h0 hc
    refine lv_iconst (v := (0 : Int32)) hx hb dJ1_canEncode_9a6ad_15 (by decide) ?_
    have e1 := Option.some.inj h0
    exact xs_ret hC hr hlocks rfl hS dJ1_canEncode_9a6ad_16 e1
  · have h0 := it_f h0 hc
    refine lv_iload_n hx hb dJ1_canEncode_9a6ad_4 rfl (lv_at hl 0 rfl) ?_
    refine lv_sipush (v := (255 : Int32)) hx hb dJ1_canEncode_9a6ad_5 (by decide) ?_
    refine lv_icmp_gt (tgt := 15) hx hb dJ1_canEncode_9a6ad_8 (by decide) (fun hc => ?_) (fun hc => ?_)
    · have h0 := it_t h0 hc
      refine lv_iconst (v := (0 : Int32)) hx hb dJ1_canEncode_9a6ad_15 (by decide) ?_
      have e1 := Option.some.inj h0
      exact xs_ret hC hr hlocks rfl hS dJ1_canEncode_9a6ad_16 e1
    · have h0 := it_f h0 hc
      refine lv_iconst (v := (1 : Int32)) hx hb dJ1_canEncode_9a6ad_11 (by decide) ?_
      refine lv_goto (tgt := 16) hx hb dJ1_canEncode_9a6ad_12 (by decide) ?_
      have e1 := Option.some.inj h0
      exact xs_ret hC hr hlocks rfl hS dJ1_canEncode_9a6ad_16 e1
def bJ1_indexOfChar_4cfef_7 (i : Nat) (a4 : Int32) (v1 : Int32) (x2 : Int32) : Option (Int32 ⊕ (Int32 ⊕ Int32)) := if a4 ≤ x2 then (some (.inr (.inl x2))) else (ax x2 (sN i) (if ((sB i (x2 : Int32).toNatClampNeg) : Int32) = v1 then (some (.inr (.inr x2))) else (nm (x2 + (1 : Int32)) fun v3 => some (.inl v3))))
def fJ1_indexOfChar_4cfef (i : Nat) (a2 : Int32) (a3 : Int32) (a4 : Int32) : Option Int32 := nm ((a2 : Int32).toInt8.toInt32) fun v1 => bnd (lp (fun t : Int32 => bJ1_indexOfChar_4cfef_7 i a4 v1 t) FU a3) (fun e0 : (Int32 ⊕ Int32) => el e0 (fun e : Int32 => nm e fun x4 => some (-1 : Int32)) (fun r : Int32 => some r))
abbrev rmJ1_indexOfChar_4cfef : Room := { frames := 0, cells := 0, slots := 0, locals := 0 }
set_option maxHeartbeats 4000000 in
set_option maxRecDepth 100000 in
theorem kJ1_indexOfChar_4cfef (l : Launch) (dC : Nat → ClassId) (dI : Nat → Nat → Nat) (cA : Nat → ClassId) (adK adV : Nat → Nat) (i : Nat) (a2 : Int32) (a3 : Int32) (a4 : Int32) (R0 : Int32) (h0 : fJ1_indexOfChar_4cfef i a2 a3 a4 = some R0) (hi0 : i < 2) : CS l yJ1_indexOfChar_4cfef wsJ1_indexOfChar_4cfef rmJ1_indexOfChar_4cfef [.ref (adV i), .int a2, .int a3, .int a4] adK adV R0 := by
  refine CS_of (cc := cJ1_indexOfChar_4cfef) (nL := 6) (ret := (some .int)) (by decide) rfl (Nat.le_of_ble_eq_true rfl) ?_
  intro p e s m av below meth c A ls H locs hC hl
  obtain ⟨hC, hr, hlocks, hE, hZ, hS, hA⟩ := hC
  have hC : CallFix p m c cJ1_indexOfChar_4cfef 6 s _ wsJ1_indexOfChar_4cfef RJ1 := hC
  obtain ⟨hx, hb, hml, hown, hts⟩ := id hC
  have hP : va_P (dC, dI) vwCl [] H := fun k q hk => by simp at hk
  have hD : va_D A [] := ⟨fun i j p q hi => by simp at hi, fun k q hk => by simp at hk⟩
  have hl : lv_has ls 6 [(0, .ref (adV i)), (1, .int a2), (2, .int a3), (3, .int a4)] := hl
  unfold fJ1_indexOfChar_4cfef at h0
  refine lv_iload_n hx hb dJ1_indexOfChar_4cfef_0 rfl (lv_at hl 1 rfl) ?_
  refine lv_i2b hx hb dJ1_indexOfChar_4cfef_1 rfl ?_
  refine lv_topi (fun v1 ev1 => ?_)
  have h0 := nm_at ev1 h0
  refine lv_istore (lv' := [(4, .int v1), (0, .ref (adV i)), (1, .int a2), (2, .int a3), (3, .int a4)]) hx hb dJ1_indexOfChar_4cfef_2 hl (by decide) rfl (fun ls hl => ?_)
  refine lv_iload_n hx hb dJ1_indexOfChar_4cfef_4 rfl (lv_at hl 3 rfl) ?_
  refine lv_istore (lv' := [(5, .int a3), (4, .int v1), (0, .ref (adV i)), (1, .int a2), (2, .int a3), (3, .int a4)]) hx hb dJ1_indexOfChar_4cfef_5 hl (by decide) rfl (fun ls hl => ?_)
  obtain ⟨ε1, hl1, h0⟩ := bnd_some h0
  have KN1 : ∀ (x4 : Int32), ε1 = .inl x4 → ∀ (H : Heap) (locs : List Loc), va_P (dC, dI) vwCl (([] : va_W)) H → va_D A (([] : va_W)) → va_S A s.heap H locs → ∀ (ls : Array Slot), lv_has ls 6 [(5, .int x4), (4, .int v1), (0, .ref (adV i)), (1, .int a2), (2, .int a3), (3, .int a4)] → W p l e (headSpec wsJ1_indexOfChar_4cfef rmJ1_indexOfChar_4cfef).room s m av below meth c H locs 0 0 (MQ below (qS A R0) av s 0 0 A) (F0 m 31 ls []) := by
    intro x4 hε H locs hP hD hS ls hl
    rw [hε] at h0
    have h0 := el_l h0
    have h0 := nm_at (z := x4) rfl h0
    refine lv_iconst (v := (-1 : Int32)) hx hb dJ1_indexOfChar_4cfef_31 (by decide) ?_
    have e1 := Option.some.inj h0
    exact xs_ret hC hr hlocks rfl hS dJ1_indexOfChar_4cfef_32 e1
  have LP1 : ∀ (n : Nat) (x2 : Int32), lp (fun t : Int32 => bJ1_indexOfChar_4cfef_7 i a4 v1 t) n x2 = some ε1 → ∀ (H : Heap) (locs : List Loc), va_P (dC, dI) vwCl (([] : va_W)) H → va_D A (([] : va_W)) → va_S A s.heap H locs → ∀ (ls : Array Slot), lv_has ls 6 [(5, .int x2), (4, .int v1), (0, .ref (adV i)), (1, .int a2), (2, .int a3), (3, .int a4)] → W p l e (headSpec wsJ1_indexOfChar_4cfef rmJ1_indexOfChar_4cfef).room s m av below meth c H locs 0 0 (MQ below (qS A R0) av s 0 0 A) (F0 m 7 ls []) := by
    intro n
    induction n with
    | zero => intro x2 hl0; exact (lp_0 hl0).elim
    | succ n ih1 =>
      intro x2 hl0 H locs hP hD hS ls hl
      obtain ⟨z1, h1, hz1⟩ := lp_s hl0
      have h1 : bJ1_indexOfChar_4cfef_7 i a4 v1 x2 = some z1 := h1
      unfold bJ1_indexOfChar_4cfef_7 at h1
      refine lv_iload hx hb dJ1_indexOfChar_4cfef_7 (lv_at hl 0 rfl) ?_
      refine lv_iload_n hx hb dJ1_indexOfChar_4cfef_9 rfl (lv_at hl 5 rfl) ?_
      refine lv_icmp_ge (tgt := 31) hx hb dJ1_indexOfChar_4cfef_10 (by decide) (fun hc => ?_) (fun hc => ?_)
      · have h1 := it_t h1 hc
        have he := lp_r h1 hz1
        exact KN1 x2 he _ _ hP hD hS ls (lv_sub hl [0, 1, 2, 3, 4, 5] rfl)
      · have h1 := it_f h1 hc
        refine lv_aload_n hx hb dJ1_indexOfChar_4cfef_13 rfl (lv_at hl 2 rfl) ?_
        refine lv_iload hx hb dJ1_indexOfChar_4cfef_14 (lv_at hl 0 rfl) ?_
        obtain ⟨hi, h1⟩ := ax_some h1
        refine va_tb (v := .int (sB i (x2 : Int32).toNatClampNeg)) hx hb (hE.1 i hi0).2.2.2 hS hi rfl dJ1_indexOfChar_4cfef_16 ?_
        refine lv_iload hx hb dJ1_indexOfChar_4cfef_17 (lv_at hl 1 rfl) ?_
        refine lv_icmp_ne (tgt := 25) hx hb dJ1_indexOfChar_4cfef_19 (by decide) (fun hc => ?_) (fun hc => ?_)
        · have h1 := it_f h1 hc
          obtain ⟨v3, ev3, h1⟩ := nm_some h1
          refine lv_iinc (v := v3) (lv' := [(5, .int v3), (4, .int v1), (0, .ref (adV i)), (1, .int a2), (2, .int a3), (3, .int a4)]) hx hb dJ1_indexOfChar_4cfef_25 hl (k := 0) rfl (by rw [ev3]; rfl) (by decide) rfl (fun ls hl => ?_)
          refine lv_goto (tgt := 7) hx hb dJ1_indexOfChar_4cfef_28 (by decide) ?_
          have hc := lp_l h1 hz1
          exact ih1 v3 hc _ _ hP hD hS ls (lv_sub hl [0, 1, 2, 3, 4, 5] rfl)
        · have h1 := it_t h1 hc
          refine lv_iload hx hb dJ1_indexOfChar_4cfef_22 (lv_at hl 0 rfl) ?_
          have he := lp_r h1 hz1
          rw [he] at h0
          have h0 := el_r h0
          have e1 := Option.some.inj h0
          exact xs_ret hC hr hlocks rfl hS dJ1_indexOfChar_4cfef_24 e1
  exact LP1 FU a3 hl1 _ _ hP hD hS ls hl
def fJ1_indexOf_4cfef (i : Nat) (a2 : Int32) (a3 : Int32) (a4 : Int32) : Option Int32 := bnd (fJ1_canEncode_9a6ad i a2) fun r1 => if (r1 : Int32) = (0 : Int32) then (some (-1 : Int32)) else (nm ((if (a3 : Int32) < (0 : Int32) then (0 : Int32) else a3)) fun v2 => nm ((if ((nI (sN i)) : Int32) < a4 then (nI (sN i)) else a4)) fun v3 => if (v2 : Int32) < v3 then (bnd (fJ1_indexOfChar_4cfef i a2 v2 v3) fun r4 => some r4) else (some (-1 : Int32)))
abbrev rmJ1_indexOf_4cfef : Room := { frames := 1, cells := 0, slots := 0, locals := 25 }
set_option maxHeartbeats 4000000 in
set_option maxRecDepth 100000 in
theorem kJ1_indexOf_4cfef (l : Launch) (dC : Nat → ClassId) (dI : Nat → Nat → Nat) (cA : Nat → ClassId) (adK adV : Nat → Nat) (i : Nat) (a2 : Int32) (a3 : Int32) (a4 : Int32) (R0 : Int32) (h0 : fJ1_indexOf_4cfef i a2 a3 a4 = some R0) (hi0 : i < 2) : CS l yJ1_indexOf_4cfef wsJ1_indexOf_4cfef rmJ1_indexOf_4cfef [.ref (adV i), .int a2, .int a3, .int a4] adK adV R0 := by
  refine CS_of (cc := cJ1_indexOf_4cfef) (nL := 4) (ret := (some .int)) (by decide) rfl (Nat.le_of_ble_eq_true rfl) ?_
  intro p e s m av below meth c A ls H locs hC hl
  obtain ⟨hC, hr, hlocks, hE, hZ, hS, hA⟩ := hC
  have hC : CallFix p m c cJ1_indexOf_4cfef 4 s _ wsJ1_indexOf_4cfef RJ1 := hC
  obtain ⟨hx, hb, hml, hown, hts⟩ := id hC
  have hP : va_P (dC, dI) vwCl [] H := fun k q hk => by simp at hk
  have hD : va_D A [] := ⟨fun i j p q hi => by simp at hi, fun k q hk => by simp at hk⟩
  have hl : lv_has ls 4 [(0, .ref (adV i)), (1, .int a2), (2, .int a3), (3, .int a4)] := hl
  unfold fJ1_indexOf_4cfef at h0
  refine lv_iload_n hx hb dJ1_indexOf_4cfef_0 rfl (lv_at hl 1 rfl) ?_
  obtain ⟨r1, hf1, h0⟩ := bnd_some h0
  refine xs_S (As := [.int a2]) (rest := []) hC (kJ1_canEncode_9a6ad l dC dI cA adK adV i a2 r1 hf1 hi0) (va_cwS 1 hts gJ1_indexOf_4cfef_J1_canEncode_9a6ad rfl rfl rfl (by decide +kernel) ⟨Nat.le_of_ble_eq_true rfl, Nat.le_of_ble_eq_true rfl⟩) hE hZ hS hA rfl hl.1 rfl (Nat.le_of_ble_eq_true rfl) ⟨Nat.zero_le _, Nat.zero_le _⟩ dJ1_indexOf_4cfef_1 (fun H locs hkeep hS => ?_)
  refine lv_if_ne (tgt := 9) hx hb dJ1_indexOf_4cfef_4 (by decide) (fun hc => ?_) (fun hc => ?_)
  · have h0 := it_f h0 hc
    refine lv_iload_n hx hb dJ1_indexOf_4cfef_9 rfl (lv_at hl 2 rfl) ?_
    refine lv_iconst (v := (0 : Int32)) hx hb dJ1_indexOf_4cfef_10 (by decide) ?_
    refine va_mmax hx hb (by rw [hml]; exact hl.1.symm) hown (hts (.methodLink RJ1 92 Lib.Math.max.name) (List.mem_of_getElem? (i := 1) rfl)) (hts (.static Lib.Math.max.name) (List.mem_of_getElem? (i := 2) rfl)) (hts (.initialized "java/lang/Math") (List.mem_of_getElem? (i := 3) rfl)) (hts (.code Lib.Math.max.name Lib.Math.max.code 2 (some .int)) (List.mem_of_getElem? (i := 4) rfl)) (Nat.le_of_ble_eq_true rfl) (Nat.le_of_ble_eq_true rfl) (Nat.zero_le _) (Nat.zero_le _) dJ1_indexOf_4cfef_11 ?_
    refine lv_topi (fun v2 ev2 => ?_)
    have h0 := nm_at ev2 h0
    refine lv_istore_n (lv' := [(2, .int v2), (0, .ref (adV i)), (1, .int a2), (3, .int a4)]) hx hb dJ1_indexOf_4cfef_14 rfl hl (by decide) rfl (fun ls hl => ?_)
    refine lv_iload_n hx hb dJ1_indexOf_4cfef_15 rfl (lv_at hl 3 rfl) ?_
    refine lv_aload_n hx hb dJ1_indexOf_4cfef_16 rfl (lv_at hl 1 rfl) ?_
    refine va_tlen hx hb (hE.1 i hi0).2.2.2 hS (v := nI (sN i)) rfl dJ1_indexOf_4cfef_17 ?_
    refine va_mmin hx hb (by rw [hml]; exact hl.1.symm) hown (hts (.methodLink RJ1 38 Lib.Math.min.name) (List.mem_of_getElem? (i := 5) rfl)) (hts (.static Lib.Math.min.name) (List.mem_of_getElem? (i := 6) rfl)) (hts (.initialized "java/lang/Math") (List.mem_of_getElem? (i := 3) rfl)) (hts (.code Lib.Math.min.name Lib.Math.min.code 2 (some .int)) (List.mem_of_getElem? (i := 7) rfl)) (Nat.le_of_ble_eq_true rfl) (Nat.le_of_ble_eq_true rfl) (Nat.zero_le _) (Nat.zero_le _) dJ1_indexOf_4cfef_18 ?_
    refine lv_topi (fun v3 ev3 => ?_)
    have h0 := nm_at ev3 h0
    refine lv_istore_n (lv' := [(3, .int v3), (2, .int v2), (0, .ref (adV i)), (1, .int a2)]) hx hb dJ1_indexOf_4cfef_21 rfl hl (by decide) rfl (fun ls hl => ?_)
    refine lv_iload_n hx hb dJ1_indexOf_4cfef_22 rfl (lv_at hl 1 rfl) ?_
    refine lv_iload_n hx hb dJ1_indexOf_4cfef_23 rfl (lv_at hl 0 rfl) ?_
    refine lv_icmp_lt (tgt := 29) hx hb dJ1_indexOf_4cfef_24 (by decide) (fun hc => ?_) (fun hc => ?_)
    · have h0 := it_t h0 hc
      refine lv_aload_n hx hb dJ1_indexOf_4cfef_29 rfl (lv_at hl 2 rfl) ?_
      refine lv_iload_n hx hb dJ1_indexOf_4cfef_30 rfl (lv_at hl 3 rfl) ?_
      refine lv_iload_n hx hb dJ1_indexOf_4cfef_31 rfl (lv_at hl 1 rfl) ?_
      refine lv_iload_n hx hb dJ1_indexOf_4cfef_32 rfl (lv_at hl 0 rfl) ?_
      obtain ⟨r4, hf2, h0⟩ := bnd_some h0
      refine xs_S (As := [.ref (adV i), .int a2, .int v2, .int v3]) (rest := []) hC (kJ1_indexOfChar_4cfef l dC dI cA adK adV i a2 v2 v3 r4 hf2 hi0) (va_cwS 4 hts gJ1_indexOf_4cfef_J1_indexOfChar_4cfef rfl rfl rfl (by decide +kernel) ⟨Nat.le_of_ble_eq_true rfl, Nat.le_of_ble_eq_true rfl⟩) hE hZ hS hA rfl hl.1 rfl (Nat.le_of_ble_eq_true rfl) ⟨Nat.zero_le _, Nat.zero_le _⟩ dJ1_indexOf_4cfef_33 (fun H locs hkeep hS => ?_)
      have e1 := Option.some.inj h0
      exact xs_ret hC hr hlocks rfl hS dJ1_indexOf_4cfef_36 e1
    · have h0 := it_f h0 hc
      refine lv_iconst (v := (-1 : Int32)) hx hb dJ1_indexOf_4cfef_27 (by decide) ?_
      have e1 := Option.some.inj h0
      exact xs_ret hC hr hlocks rfl hS dJ1_indexOf_4cfef_28 e1
  · have h0 := it_t h0 hc
    refine lv_iconst (v := (-1 : Int32)) hx hb dJ1_indexOf_4cfef_7 (by decide) ?_
    have e1 := Option.some.inj h0
    exact xs_ret hC hr hlocks rfl hS dJ1_indexOf_4cfef_8 e1
def fJ0_coder_7d493 (i : Nat) : Option Int32 := some (0 : Int32)
abbrev rmJ0_coder_7d493 : Room := { frames := 0, cells := 0, slots := 0, locals := 0 }
set_option maxHeartbeats 4000000 in
set_option maxRecDepth 100000 in
theorem kJ0_coder_7d493 (l : Launch) (dC : Nat → ClassId) (dI : Nat → Nat → Nat) (cA : Nat → ClassId) (adK adV : Nat → Nat) (i : Nat) (R0 : Int32) (h0 : fJ0_coder_7d493 i = some R0) (hi0 : i < 2) : CS l yJ0_coder_7d493 wsJ0_coder_7d493 rmJ0_coder_7d493 [.ref (adK i)] adK adV R0 := by
  refine CS_of (cc := cJ0_coder_7d493) (nL := 1) (ret := (some .byte)) (by decide) rfl (Nat.le_of_ble_eq_true rfl) ?_
  intro p e s m av below meth c A ls H locs hC hl
  obtain ⟨hC, hr, hlocks, hE, hZ, hS, hA⟩ := hC
  have hC : CallFix p m c cJ0_coder_7d493 1 s _ wsJ0_coder_7d493 RJ0 := hC
  obtain ⟨hx, hb, hml, hown, hts⟩ := id hC
  have hP : va_P (dC, dI) vwCl [] H := fun k q hk => by simp at hk
  have hD : va_D A [] := ⟨fun i j p q hi => by simp at hi, fun k q hk => by simp at hk⟩
  have hl : lv_has ls 1 [(0, .ref (adK i))] := hl
  unfold fJ0_coder_7d493 at h0
  refine va_gets (v := .int 1) hx hb hZ hS hown (hts (.fieldLink RJ0 38 "java/lang/String" "COMPACT_STRINGS" "Z") (List.mem_of_getElem? (i := 1) rfl)) (fun _ h9 => h9) dJ0_coder_7d493_0 ?_
  refine lv_if_eq (tgt := 13) hx hb dJ0_coder_7d493_3 (by decide) (fun hc => absurd hc (by decide)) (fun hc => ?_)
  refine lv_aload_n hx hb dJ0_coder_7d493_6 rfl (lv_at hl 0 rfl) ?_
  refine vk_getf (v := .int (0 : Int32)) hx hb (hE.1 i hi0).2.1 hS hown (hts (.fieldLink RJ0 15 "java/lang/String" "coder" "B") (List.mem_of_getElem? (i := 2) rfl)) (fun _ h9 => h9) dJ0_coder_7d493_7 ?_
  refine lv_goto (tgt := 14) hx hb dJ0_coder_7d493_10 (by decide) ?_
  have e1 := Option.some.inj h0
  exact xs_ret hC hr hlocks rfl hS dJ0_coder_7d493_14 e1
def fJ0_length_8abf5 (i : Nat) : Option Int32 := bnd (fJ0_coder_7d493 i ) fun r1 => some ((nI (sN i)) >>> (r1 &&& 31))
abbrev rmJ0_length_8abf5 : Room := { frames := 1, cells := 0, slots := 0, locals := 20 }
set_option maxHeartbeats 4000000 in
set_option maxRecDepth 100000 in
theorem kJ0_length_8abf5 (l : Launch) (dC : Nat → ClassId) (dI : Nat → Nat → Nat) (cA : Nat → ClassId) (adK adV : Nat → Nat) (i : Nat) (R0 : Int32) (h0 : fJ0_length_8abf5 i = some R0) (hi0 : i < 2) : CS l yJ0_length_8abf5 wsJ0_length_8abf5 rmJ0_length_8abf5 [.ref (adK i)] adK adV R0 := by
  refine CS_of (cc := cJ0_length_8abf5) (nL := 1) (ret := (some .int)) (by decide) rfl (Nat.le_of_ble_eq_true rfl) ?_
  intro p e s m av below meth c A ls H locs hC hl
  obtain ⟨hC, hr, hlocks, hE, hZ, hS, hA⟩ := hC
  have hC : CallFix p m c cJ0_length_8abf5 1 s _ wsJ0_length_8abf5 RJ0 := hC
  obtain ⟨hx, hb, hml, hown, hts⟩ := id hC
  have hP : va_P (dC, dI) vwCl [] H := fun k q hk => by simp at hk
  have hD : va_D A [] := ⟨fun i j p q hi => by simp at hi, fun k q hk => by simp at hk⟩
  have hl : lv_has ls 1 [(0, .ref (adK i))] := hl
  unfold fJ0_length_8abf5 at h0
  refine lv_aload_n hx hb dJ0_length_8abf5_0 rfl (lv_at hl 0 rfl) ?_
  refine vk_getf (v := .ref (adV i)) hx hb (hE.1 i hi0).2.2.1 hS hown (hts (.fieldLink RJ0 9 "java/lang/String" "value" "[B") (List.mem_of_getElem? (i := 1) rfl)) (fun _ h9 => h9) dJ0_length_8abf5_1 ?_
  refine va_tlen hx hb (hE.1 i hi0).2.2.2 hS (v := nI (sN i)) rfl dJ0_length_8abf5_4 ?_
  refine lv_aload_n hx hb dJ0_length_8abf5_5 rfl (lv_at hl 0 rfl) ?_
  obtain ⟨r1, hf1, h0⟩ := bnd_some h0
  refine xs_V (As := []) (rest := [.int (nI (sN i))]) hC (kJ0_coder_7d493 l dC dI cA adK adV i r1 hf1 hi0) (cwV 0 hts gJ0_length_8abf5_J0_coder_7d493 rfl rfl rfl (by decide +kernel) ⟨Nat.le_of_ble_eq_true rfl, Nat.le_of_ble_eq_true rfl⟩) hE hZ hS hA (vk_recv hE (i := i) hi0 hS) rfl hl.1 rfl (Nat.le_of_ble_eq_true rfl) ⟨Nat.zero_le _, Nat.zero_le _⟩ dJ0_length_8abf5_6 (fun H locs hkeep hS => ?_)
  refine lv_ishr hx hb dJ0_length_8abf5_9 ?_
  have e1 := Option.some.inj h0
  exact xs_ret hC hr hlocks rfl hS dJ0_length_8abf5_10 e1
def fJ0_isLatin1_aae02 (i : Nat) : Option Int32 := some (1 : Int32)
abbrev rmJ0_isLatin1_aae02 : Room := { frames := 0, cells := 0, slots := 0, locals := 0 }
set_option maxHeartbeats 4000000 in
set_option maxRecDepth 100000 in
theorem kJ0_isLatin1_aae02 (l : Launch) (dC : Nat → ClassId) (dI : Nat → Nat → Nat) (cA : Nat → ClassId) (adK adV : Nat → Nat) (i : Nat) (R0 : Int32) (h0 : fJ0_isLatin1_aae02 i = some R0) (hi0 : i < 2) : CS l yJ0_isLatin1_aae02 wsJ0_isLatin1_aae02 rmJ0_isLatin1_aae02 [.ref (adK i)] adK adV R0 := by
  refine CS_of (cc := cJ0_isLatin1_aae02) (nL := 1) (ret := (some .boolean)) (by decide) rfl (Nat.le_of_ble_eq_true rfl) ?_
  intro p e s m av below meth c A ls H locs hC hl
  obtain ⟨hC, hr, hlocks, hE, hZ, hS, hA⟩ := hC
  have hC : CallFix p m c cJ0_isLatin1_aae02 1 s _ wsJ0_isLatin1_aae02 RJ0 := hC
  obtain ⟨hx, hb, hml, hown, hts⟩ := id hC
  have hP : va_P (dC, dI) vwCl [] H := fun k q hk => by simp at hk
  have hD : va_D A [] := ⟨fun i j p q hi => by simp at hi, fun k q hk => by simp at hk⟩
  have hl : lv_has ls 1 [(0, .ref (adK i))] := hl
  unfold fJ0_isLatin1_aae02 at h0
  refine va_gets (v := .int 1) hx hb hZ hS hown (hts (.fieldLink RJ0 38 "java/lang/String" "COMPACT_STRINGS" "Z") (List.mem_of_getElem? (i := 1) rfl)) (fun _ h9 => h9) dJ0_isLatin1_aae02_0 ?_
  refine lv_if_eq (tgt := 17) hx hb dJ0_isLatin1_aae02_3 (by decide) (fun hc => absurd hc (by decide)) (fun hc => ?_)
  refine lv_aload_n hx hb dJ0_isLatin1_aae02_6 rfl (lv_at hl 0 rfl) ?_
  refine vk_getf (v := .int (0 : Int32)) hx hb (hE.1 i hi0).2.1 hS hown (hts (.fieldLink RJ0 15 "java/lang/String" "coder" "B") (List.mem_of_getElem? (i := 2) rfl)) (fun _ h9 => h9) dJ0_isLatin1_aae02_7 ?_
  refine lv_if_ne (tgt := 17) hx hb dJ0_isLatin1_aae02_10 (by decide) (fun hc => absurd hc (by decide)) (fun hc => ?_)
  refine lv_iconst (v := (1 : Int32)) hx hb dJ0_isLatin1_aae02_13 (by decide) ?_
  refine lv_goto (tgt := 18) hx hb dJ0_isLatin1_aae02_14 (by decide) ?_
  have e1 := Option.some.inj h0
  exact xs_ret hC hr hlocks rfl hS dJ0_isLatin1_aae02_18 e1
def fJ0_indexOf_7cf53 (i : Nat) (a1 : Int32) (a2 : Int32) : Option Int32 := bnd (fJ0_isLatin1_aae02 i ) fun r1 => if (r1 : Int32) = (0 : Int32) then (bnd (fJ0_length_8abf5 i ) fun r2 => none) else (bnd (fJ0_length_8abf5 i ) fun r3 => bnd (fJ1_indexOf_4cfef i a1 a2 r3) fun r4 => some r4)
abbrev rmJ0_indexOf_7cf53 : Room := { frames := 2, cells := 0, slots := 0, locals := 48 }
set_option maxHeartbeats 4000000 in
set_option maxRecDepth 100000 in
theorem kJ0_indexOf_7cf53 (l : Launch) (dC : Nat → ClassId) (dI : Nat → Nat → Nat) (cA : Nat → ClassId) (adK adV : Nat → Nat) (i : Nat) (a1 : Int32) (a2 : Int32) (R0 : Int32) (h0 : fJ0_indexOf_7cf53 i a1 a2 = some R0) (hi0 : i < 2) : CS l yJ0_indexOf_7cf53 wsJ0_indexOf_7cf53 rmJ0_indexOf_7cf53 [.ref (adK i), .int a1, .int a2] adK adV R0 := by
  refine CS_of (cc := cJ0_indexOf_7cf53) (nL := 3) (ret := (some .int)) (by decide) rfl (Nat.le_of_ble_eq_true rfl) ?_
  intro p e s m av below meth c A ls H locs hC hl
  obtain ⟨hC, hr, hlocks, hE, hZ, hS, hA⟩ := hC
  have hC : CallFix p m c cJ0_indexOf_7cf53 3 s _ wsJ0_indexOf_7cf53 RJ0 := hC
  obtain ⟨hx, hb, hml, hown, hts⟩ := id hC
  have hP : va_P (dC, dI) vwCl [] H := fun k q hk => by simp at hk
  have hD : va_D A [] := ⟨fun i j p q hi => by simp at hi, fun k q hk => by simp at hk⟩
  have hl : lv_has ls 3 [(0, .ref (adK i)), (1, .int a1), (2, .int a2)] := hl
  unfold fJ0_indexOf_7cf53 at h0
  refine lv_aload_n hx hb dJ0_indexOf_7cf53_0 rfl (lv_at hl 0 rfl) ?_
  obtain ⟨r1, hf1, h0⟩ := bnd_some h0
  refine xs_V (As := []) (rest := []) hC (kJ0_isLatin1_aae02 l dC dI cA adK adV i r1 hf1 hi0) (cwV 0 hts gJ0_indexOf_7cf53_J0_isLatin1_aae02 rfl rfl rfl (by decide +kernel) ⟨Nat.le_of_ble_eq_true rfl, Nat.le_of_ble_eq_true rfl⟩) hE hZ hS hA (vk_recv hE (i := i) hi0 hS) rfl hl.1 rfl (Nat.le_of_ble_eq_true rfl) ⟨Nat.zero_le _, Nat.zero_le _⟩ dJ0_indexOf_7cf53_1 (fun H locs hkeep hS => ?_)
  refine lv_if_eq (tgt := 23) hx hb dJ0_indexOf_7cf53_4 (by decide) (fun hc => ?_) (fun hc => ?_)
  · have h0 := it_t h0 hc
    refine lv_aload_n hx hb dJ0_indexOf_7cf53_23 rfl (lv_at hl 0 rfl) ?_
    refine vk_getf (v := .ref (adV i)) hx hb (hE.1 i hi0).2.2.1 hS hown (hts (.fieldLink RJ0 9 "java/lang/String" "value" "[B") (List.mem_of_getElem? (i := 1) rfl)) (fun _ h9 => h9) dJ0_indexOf_7cf53_24 ?_
    refine lv_iload_n hx hb dJ0_indexOf_7cf53_27 rfl (lv_at hl 1 rfl) ?_
    refine lv_iload_n hx hb dJ0_indexOf_7cf53_28 rfl (lv_at hl 2 rfl) ?_
    refine lv_aload_n hx hb dJ0_indexOf_7cf53_29 rfl (lv_at hl 0 rfl) ?_
    obtain ⟨r2, hf2, h0⟩ := bnd_some h0
    refine xs_V (As := []) (rest := [.int a2, .int a1, .ref (adV i)]) hC (kJ0_length_8abf5 l dC dI cA adK adV i r2 hf2 hi0) (cwV 0 hts gJ0_indexOf_7cf53_J0_length_8abf5 rfl rfl rfl (by decide +kernel) ⟨Nat.le_of_ble_eq_true rfl, Nat.le_of_ble_eq_true rfl⟩) hE hZ hS hA (vk_recv hE (i := i) hi0 hS) rfl hl.1 rfl (Nat.le_of_ble_eq_true rfl) ⟨Nat.zero_le _, Nat.zero_le _⟩ dJ0_indexOf_7cf53_30 (fun H locs hkeep hS => ?_)
    cases h0
  · have h0 := it_f h0 hc
    refine lv_aload_n hx hb dJ0_indexOf_7cf53_7 rfl (lv_at hl 0 rfl) ?_
    refine vk_getf (v := .ref (adV i)) hx hb (hE.1 i hi0).2.2.1 hS hown (hts (.fieldLink RJ0 9 "java/lang/String" "value" "[B") (List.mem_of_getElem? (i := 1) rfl)) (fun _ h9 => h9) dJ0_indexOf_7cf53_8 ?_
    refine lv_iload_n hx hb dJ0_indexOf_7cf53_11 rfl (lv_at hl 1 rfl) ?_
    refine lv_iload_n hx hb dJ0_indexOf_7cf53_12 rfl (lv_at hl 2 rfl) ?_
    refine lv_aload_n hx hb dJ0_indexOf_7cf53_13 rfl (lv_at hl 0 rfl) ?_
    obtain ⟨r3, hf3, h0⟩ := bnd_some h0
    refine xs_V (As := []) (rest := [.int a2, .int a1, .ref (adV i)]) hC (kJ0_length_8abf5 l dC dI cA adK adV i r3 hf3 hi0) (cwV 0 hts gJ0_indexOf_7cf53_J0_length_8abf5 rfl rfl rfl (by decide +kernel) ⟨Nat.le_of_ble_eq_true rfl, Nat.le_of_ble_eq_true rfl⟩) hE hZ hS hA (vk_recv hE (i := i) hi0 hS) rfl hl.1 rfl (Nat.le_of_ble_eq_true rfl) ⟨Nat.zero_le _, Nat.zero_le _⟩ dJ0_indexOf_7cf53_14 (fun H locs hkeep hS => ?_)
    obtain ⟨r4, hf4, h0⟩ := bnd_some h0
    refine xs_S (As := [.ref (adV i), .int a1, .int a2, .int r3]) (rest := []) hC (kJ1_indexOf_4cfef l dC dI cA adK adV i a1 a2 r3 r4 hf4 hi0) (va_cwS 4 hts gJ0_indexOf_7cf53_J1_indexOf_4cfef rfl rfl rfl (by decide +kernel) ⟨Nat.le_of_ble_eq_true rfl, Nat.le_of_ble_eq_true rfl⟩) hE hZ hS hA rfl hl.1 rfl (Nat.le_of_ble_eq_true rfl) ⟨Nat.zero_le _, Nat.zero_le _⟩ dJ0_indexOf_7cf53_17 (fun H locs hkeep hS => ?_)
    refine lv_goto (tgt := 36) hx hb dJ0_indexOf_7cf53_20 (by decide) ?_
    have e1 := Option.some.inj h0
    exact xs_ret hC hr hlocks rfl hS dJ0_indexOf_7cf53_36 e1
def fJ0_indexOf_0f7a4 (i : Nat) (a1 : Int32) : Option Int32 := bnd (fJ0_indexOf_7cf53 i a1 (0 : Int32)) fun r1 => some r1
abbrev rmJ0_indexOf_0f7a4 : Room := { frames := 3, cells := 0, slots := 0, locals := 70 }
set_option maxHeartbeats 4000000 in
set_option maxRecDepth 100000 in
theorem kJ0_indexOf_0f7a4 (l : Launch) (dC : Nat → ClassId) (dI : Nat → Nat → Nat) (cA : Nat → ClassId) (adK adV : Nat → Nat) (i : Nat) (a1 : Int32) (R0 : Int32) (h0 : fJ0_indexOf_0f7a4 i a1 = some R0) (hi0 : i < 2) : CS l yJ0_indexOf_0f7a4 wsJ0_indexOf_0f7a4 rmJ0_indexOf_0f7a4 [.ref (adK i), .int a1] adK adV R0 := by
  refine CS_of (cc := cJ0_indexOf_0f7a4) (nL := 2) (ret := (some .int)) (by decide) rfl (Nat.le_of_ble_eq_true rfl) ?_
  intro p e s m av below meth c A ls H locs hC hl
  obtain ⟨hC, hr, hlocks, hE, hZ, hS, hA⟩ := hC
  have hC : CallFix p m c cJ0_indexOf_0f7a4 2 s _ wsJ0_indexOf_0f7a4 RJ0 := hC
  obtain ⟨hx, hb, hml, hown, hts⟩ := id hC
  have hP : va_P (dC, dI) vwCl [] H := fun k q hk => by simp at hk
  have hD : va_D A [] := ⟨fun i j p q hi => by simp at hi, fun k q hk => by simp at hk⟩
  have hl : lv_has ls 2 [(0, .ref (adK i)), (1, .int a1)] := hl
  unfold fJ0_indexOf_0f7a4 at h0
  refine lv_aload_n hx hb dJ0_indexOf_0f7a4_0 rfl (lv_at hl 0 rfl) ?_
  refine lv_iload_n hx hb dJ0_indexOf_0f7a4_1 rfl (lv_at hl 1 rfl) ?_
  refine lv_iconst (v := (0 : Int32)) hx hb dJ0_indexOf_0f7a4_2 (by decide) ?_
  obtain ⟨r1, hf1, h0⟩ := bnd_some h0
  refine xs_V (As := [.int a1, .int (0 : Int32)]) (rest := []) hC (kJ0_indexOf_7cf53 l dC dI cA adK adV i a1 (0 : Int32) r1 hf1 hi0) (cwV 2 hts gJ0_indexOf_0f7a4_J0_indexOf_7cf53 rfl rfl rfl (by decide +kernel) ⟨Nat.le_of_ble_eq_true rfl, Nat.le_of_ble_eq_true rfl⟩) hE hZ hS hA (vk_recv hE (i := i) hi0 hS) rfl hl.1 rfl (Nat.le_of_ble_eq_true rfl) ⟨Nat.zero_le _, Nat.zero_le _⟩ dJ0_indexOf_0f7a4_3 (fun H locs hkeep hS => ?_)
  have e1 := Option.some.inj h0
  exact xs_ret hC hr hlocks rfl hS dJ0_indexOf_0f7a4_6 e1
def fX2_readOrder (σ : St) : Option (Int32 × St) := bnd (fX2_sign  σ) fun r1 => gd (((r1 : Int32).toUInt32 % 65536).toInt32 = r1) (nm (put σ 3 (fun _ => r1)) fun s2 => nm (put s2 7 (fun _ => (0 : Int32))) fun s3 => bnd (fJ0_indexOf_0f7a4 0 (s3 3 0)) fun r4 => if (0 : Int32) ≤ r4 then (nm (put s3 2 (fun _ => (s3 2 0) + (1 : Int32))) fun s5 => if ((s5 3 0) : Int32) = (116 : Int32) then (bn2 (fX2_readNumber  s5) fun r13 s14 => nm (put s14 5 (fun _ => r13)) fun s15 => if ((s15 5 0) : Int32) < (0 : Int32) then (some ((0 : Int32), s15)) else (some ((1 : Int32), s15))) else (bn2 (fX2_readOwner  s5) fun r6 s7 => if (r6 : Int32) = (0 : Int32) then (some ((0 : Int32), s7)) else (if ((s7 3 0) : Int32) = (99 : Int32) then (some ((1 : Int32), s7)) else (if ((s7 3 0) : Int32) = (120 : Int32) then (some ((1 : Int32), s7)) else (bn2 (fX2_readRange  s7) fun r8 s9 => if (r8 : Int32) = (0 : Int32) then (some ((0 : Int32), s9)) else (if ((s9 3 0) : Int32) = (102 : Int32) then (some ((1 : Int32), s9)) else (bn2 (fX2_skip (33 : Int32) s9) fun r10 s11 => if (r10 : Int32) = (0 : Int32) then (some ((1 : Int32), s11)) else (nm (put s11 7 (fun _ => (1 : Int32))) fun s12 => some ((1 : Int32), s12))))))))) else (some ((0 : Int32), s3)))
abbrev rmX2_readOrder : Room := { frames := 4, cells := 0, slots := 0, locals := 91 }
set_option maxHeartbeats 4000000 in
set_option maxRecDepth 100000 in
theorem kX2_readOrder (l : Launch) (dC : Nat → ClassId) (dI : Nat → Nat → Nat) (cA : Nat → ClassId) (h : Nat) (ad : Nat → Nat) (σ : St) (R0 : Int32) (σ' : St) (h0 : fX2_readOrder σ = some (R0, σ')) : CI l yX2_readOrder wsX2_readOrder rmX2_readOrder (dC, dI) vwCl (tysW cA) [.ref h] (wP cA h ad σ) R0 (wP cA h ad σ') := by
  refine CGI_of (cc := cX2_readOrder) (nL := 1) (ret := (some .boolean)) (by decide) rfl (Nat.le_of_ble_eq_true rfl) ?_
  intro p e s m av below meth c A ls H locs hC hl
  obtain ⟨hC, hr, hlocks, hV, hN, hK, hP, hD, hS, hA⟩ := hC
  have hC : CallFix p m c cX2_readOrder 1 s _ wsX2_readOrder RX2 := hC
  obtain ⟨hx, hb, hml, hown, hts⟩ := id hC
  have hin0 : ∀ w ∈ u_ws RX2 TX2 8, w ∈ wsX2_readOrder := fun _ h => (List.mem_cons_of_mem _ (List.mem_append_right _ h))
  have hl : lv_has ls 1 [(0, .ref h)] := hl
  obtain ⟨adK, adV, hE, hr0, hr1, hZ⟩ := id hV
  unfold fX2_readOrder at h0
  refine lv_aload_n hx hb dX2_readOrder_0 rfl (lv_at hl 0 rfl) ?_
  refine lv_aload_n hx hb dX2_readOrder_1 rfl (lv_at hl 0 rfl) ?_
  obtain ⟨r1, hf1, h0⟩ := bnd_some h0
  refine x_VI (As := []) (rest := [.ref h]) hC (kX2_sign l dC dI cA h ad σ r1  hf1) (cwV 0 hts gX2_readOrder_X2_sign rfl rfl rfl (by decide +kernel) ⟨Nat.le_of_ble_eq_true rfl, Nat.le_of_ble_eq_true rfl⟩) 0 2 hV hN hK hP hD hS hA rfl rfl rfl rfl hl.1 rfl (Nat.le_of_ble_eq_true rfl) ⟨Nat.zero_le _, Nat.zero_le _⟩ dX2_readOrder_2 (fun H locs hP hD hS => ?_)
  obtain ⟨hg, h0⟩ := gd_some h0
  obtain ⟨s2, es2, h0⟩ := nm_some h0
  refine x_put (D := (dC, dI)) (ws' := wP cA h ad s2) (ci := 2) (fs := [.ref (ad 0), .int (σ 1 0), .int (σ 2 0), .int (σ 3 0), .int (σ 4 0), .int (σ 5 0), .int (σ 6 0), .int (σ 7 0)]) (v := .int r1) (ty := .char) (C := RX2) (T := TX2) (N := 8) hC hin0 tyX2 tyX2_ok nmX2 hK hP hD hS 0 rfl rfl 3 (by decide) (hts (.fieldLink RX2 40 "MeanLocks$Pad" "letter" "C") (List.mem_of_getElem? (i := 1) rfl)) rfl rfl (cg_nar hg) (cg_fit hg) (by decide +kernel) (Nat.le_of_ble_eq_true rfl) (by rw [es2]; exact wP_s3 _ _ _ _ _) dX2_readOrder_5 (fun H locs hP hD hS => ?_)
  refine lv_aload_n hx hb dX2_readOrder_8 rfl (lv_at hl 0 rfl) ?_
  refine lv_iconst (v := (0 : Int32)) hx hb dX2_readOrder_9 (by decide) ?_
  obtain ⟨s3, es3, h0⟩ := nm_some h0
  refine x_put (D := (dC, dI)) (ws' := wP cA h ad s3) (ci := 2) (fs := [.ref (ad 0), .int (s2 1 0), .int (s2 2 0), .int (s2 3 0), .int (s2 4 0), .int (s2 5 0), .int (s2 6 0), .int (s2 7 0)]) (v := .int (0 : Int32)) (ty := .int) (C := RX2) (T := TX2) (N := 8) hC hin0 tyX2 tyX2_ok nmX2 hK hP hD hS 0 rfl rfl 7 (by decide) (hts (.fieldLink RX2 44 "MeanLocks$Pad" "wait" "I") (List.mem_of_getElem? (i := 2) rfl)) rfl rfl rfl rfl (by decide +kernel) (Nat.le_of_ble_eq_true rfl) (by rw [es3]; exact wP_s7 _ _ _ _ _) dX2_readOrder_10 (fun H locs hP hD hS => ?_)
  refine va_ldcS hx hb hown hr0 dX2_readOrder_13 ?_
  refine lv_aload_n hx hb dX2_readOrder_15 rfl (lv_at hl 0 rfl) ?_
  refine va_get (D := (dC, dI)) (ci := 2) (v := .int (s3 3 0)) (C := RX2) (T := TX2) (N := 8) hx hb hts hin0 hown hK hP 0 rfl rfl 3 (by decide) (hts (.fieldLink RX2 40 "MeanLocks$Pad" "letter" "C") (List.mem_of_getElem? (i := 1) rfl)) (fun _ h9 => h9) rfl dX2_readOrder_16 ?_
  obtain ⟨r4, hf2, h0⟩ := bnd_some h0
  refine xs_V (As := [.int (s3 3 0)]) (rest := []) hC (kJ0_indexOf_0f7a4 l dC dI cA adK adV 0 (s3 3 0) r4 hf2 (by decide)) (cwV 1 hts gX2_readOrder_J0_indexOf_0f7a4 rfl rfl rfl (by decide +kernel) ⟨Nat.le_of_ble_eq_true rfl, Nat.le_of_ble_eq_true rfl⟩) hE hZ hS hA (vk_recv hE (i := 0) (by decide) hS) rfl hl.1 rfl (Nat.le_of_ble_eq_true rfl) ⟨Nat.zero_le _, Nat.zero_le _⟩ dX2_readOrder_19 (fun H locs hkeep hS => ?_)
  have hP := hP.kept (fun k q hk => hkeep q.1 ((hP k q hk).lt))
  refine lv_if_ge (tgt := 27) hx hb dX2_readOrder_22 (by decide) (fun hc => ?_) (fun hc => ?_)
  · have h0 := it_t h0 hc
    refine lv_aload_n hx hb dX2_readOrder_27 rfl (lv_at hl 0 rfl) ?_
    refine lv_dup hx hb dX2_readOrder_28 rfl ?_
    refine va_get (D := (dC, dI)) (ci := 2) (v := .int (s3 2 0)) (C := RX2) (T := TX2) (N := 8) hx hb hts hin0 hown hK hP 0 rfl rfl 2 (by decide) (hts (.fieldLink RX2 25 "MeanLocks$Pad" "position" "I") (List.mem_of_getElem? (i := 3) rfl)) (fun _ h9 => h9) rfl dX2_readOrder_29 ?_
    refine lv_iconst (v := (1 : Int32)) hx hb dX2_readOrder_32 (by decide) ?_
    refine lv_iadd hx hb dX2_readOrder_33 ?_
    obtain ⟨s5, es5, h0⟩ := nm_some h0
    refine x_put (D := (dC, dI)) (ws' := wP cA h ad s5) (ci := 2) (fs := [.ref (ad 0), .int (s3 1 0), .int (s3 2 0), .int (s3 3 0), .int (s3 4 0), .int (s3 5 0), .int (s3 6 0), .int (s3 7 0)]) (v := .int ((s3 2 0) + (1 : Int32))) (ty := .int) (C := RX2) (T := TX2) (N := 8) hC hin0 tyX2 tyX2_ok nmX2 hK hP hD hS 0 rfl rfl 2 (by decide) (hts (.fieldLink RX2 25 "MeanLocks$Pad" "position" "I") (List.mem_of_getElem? (i := 3) rfl)) rfl rfl rfl rfl (by decide +kernel) (Nat.le_of_ble_eq_true rfl) (by rw [es5]; exact wP_s2 _ _ _ _ _) dX2_readOrder_34 (fun H locs hP hD hS => ?_)
    refine lv_aload_n hx hb dX2_readOrder_37 rfl (lv_at hl 0 rfl) ?_
    refine va_get (D := (dC, dI)) (ci := 2) (v := .int (s5 3 0)) (C := RX2) (T := TX2) (N := 8) hx hb hts hin0 hown hK hP 0 rfl rfl 3 (by decide) (hts (.fieldLink RX2 40 "MeanLocks$Pad" "letter" "C") (List.mem_of_getElem? (i := 1) rfl)) (fun _ h9 => h9) rfl dX2_readOrder_38 ?_
    refine lv_bipush (v := (116 : Int32)) hx hb dX2_readOrder_41 (by decide) ?_
    refine lv_icmp_ne (tgt := 67) hx hb dX2_readOrder_43 (by decide) (fun hc => ?_) (fun hc => ?_)
    · have h0 := it_f h0 hc
      refine lv_aload_n hx hb dX2_readOrder_67 rfl (lv_at hl 0 rfl) ?_
      obtain ⟨r6, s7, hf3, h0⟩ := bn2_some h0
      refine x_VI (As := []) (rest := []) hC (kX2_readOwner l dC dI cA h ad s5 r6 s7 hf3) (cwV 0 hts gX2_readOrder_X2_readOwner rfl rfl rfl (by decide +kernel) ⟨Nat.le_of_ble_eq_true rfl, Nat.le_of_ble_eq_true rfl⟩) 0 2 hV hN hK hP hD hS hA rfl rfl rfl rfl hl.1 rfl (Nat.le_of_ble_eq_true rfl) ⟨Nat.zero_le _, Nat.zero_le _⟩ dX2_readOrder_68 (fun H locs hP hD hS => ?_)
      refine lv_if_ne (tgt := 76) hx hb dX2_readOrder_71 (by decide) (fun hc => ?_) (fun hc => ?_)
      · have h0 := it_f h0 hc
        refine lv_aload_n hx hb dX2_readOrder_76 rfl (lv_at hl 0 rfl) ?_
        refine va_get (D := (dC, dI)) (ci := 2) (v := .int (s7 3 0)) (C := RX2) (T := TX2) (N := 8) hx hb hts hin0 hown hK hP 0 rfl rfl 3 (by decide) (hts (.fieldLink RX2 40 "MeanLocks$Pad" "letter" "C") (List.mem_of_getElem? (i := 1) rfl)) (fun _ h9 => h9) rfl dX2_readOrder_77 ?_
        refine lv_bipush (v := (99 : Int32)) hx hb dX2_readOrder_80 (by decide) ?_
        refine lv_icmp_eq (tgt := 94) hx hb dX2_readOrder_82 (by decide) (fun hc => ?_) (fun hc => ?_)
        · have h0 := it_t h0 hc
          refine lv_iconst (v := (1 : Int32)) hx hb dX2_readOrder_94 (by decide) ?_
          obtain ⟨e1, e2⟩ := Prod.mk.inj (Option.some.inj h0)
          exact x_retI hC hr hlocks rfl hP hD hS dX2_readOrder_95 ⟨e1, by rw [← e2]⟩
        · have h0 := it_f h0 hc
          refine lv_aload_n hx hb dX2_readOrder_85 rfl (lv_at hl 0 rfl) ?_
          refine va_get (D := (dC, dI)) (ci := 2) (v := .int (s7 3 0)) (C := RX2) (T := TX2) (N := 8) hx hb hts hin0 hown hK hP 0 rfl rfl 3 (by decide) (hts (.fieldLink RX2 40 "MeanLocks$Pad" "letter" "C") (List.mem_of_getElem? (i := 1) rfl)) (fun _ h9 => h9) rfl dX2_readOrder_86 ?_
          refine lv_bipush (v := (120 : Int32)) hx hb dX2_readOrder_89 (by decide) ?_
          refine lv_icmp_ne (tgt := 96) hx hb dX2_readOrder_91 (by decide) (fun hc => ?_) (fun hc => ?_)
          · have h0 := it_f h0 hc
            refine lv_aload_n hx hb dX2_readOrder_96 rfl (lv_at hl 0 rfl) ?_
            obtain ⟨r8, s9, hf4, h0⟩ := bn2_some h0
            refine x_VI (As := []) (rest := []) hC (kX2_readRange l dC dI cA h ad s7 r8 s9 hf4) (cwV 0 hts gX2_readOrder_X2_readRange rfl rfl rfl (by decide +kernel) ⟨Nat.le_of_ble_eq_true rfl, Nat.le_of_ble_eq_true rfl⟩) 0 2 hV hN hK hP hD hS hA rfl rfl rfl rfl hl.1 rfl (Nat.le_of_ble_eq_true rfl) ⟨Nat.zero_le _, Nat.zero_le _⟩ dX2_readOrder_97 (fun H locs hP hD hS => ?_)
            refine lv_if_ne (tgt := 105) hx hb dX2_readOrder_100 (by decide) (fun hc => ?_) (fun hc => ?_)
            · have h0 := it_f h0 hc
              refine lv_aload_n hx hb dX2_readOrder_105 rfl (lv_at hl 0 rfl) ?_
              refine va_get (D := (dC, dI)) (ci := 2) (v := .int (s9 3 0)) (C := RX2) (T := TX2) (N := 8) hx hb hts hin0 hown hK hP 0 rfl rfl 3 (by decide) (hts (.fieldLink RX2 40 "MeanLocks$Pad" "letter" "C") (List.mem_of_getElem? (i := 1) rfl)) (fun _ h9 => h9) rfl dX2_readOrder_106 ?_
              refine lv_bipush (v := (102 : Int32)) hx hb dX2_readOrder_109 (by decide) ?_
              refine lv_icmp_eq (tgt := 128) hx hb dX2_readOrder_111 (by decide) (fun hc => ?_) (fun hc => ?_)
              · have h0 := it_t h0 hc
                refine lv_iconst (v := (1 : Int32)) hx hb dX2_readOrder_128 (by decide) ?_
                obtain ⟨e1, e2⟩ := Prod.mk.inj (Option.some.inj h0)
                exact x_retI hC hr hlocks rfl hP hD hS dX2_readOrder_129 ⟨e1, by rw [← e2]⟩
              · have h0 := it_f h0 hc
                refine lv_aload_n hx hb dX2_readOrder_114 rfl (lv_at hl 0 rfl) ?_
                refine lv_bipush (v := (33 : Int32)) hx hb dX2_readOrder_115 (by decide) ?_
                obtain ⟨r10, s11, hf5, h0⟩ := bn2_some h0
                refine x_VI (As := [.int (33 : Int32)]) (rest := []) hC (kX2_skip l dC dI cA h ad (33 : Int32) s9 r10 s11 hf5) (cwV 1 hts gX2_readOrder_X2_skip rfl rfl rfl (by decide +kernel) ⟨Nat.le_of_ble_eq_true rfl, Nat.le_of_ble_eq_true rfl⟩) 0 2 hV hN hK hP hD hS hA rfl rfl rfl rfl hl.1 rfl (Nat.le_of_ble_eq_true rfl) ⟨Nat.zero_le _, Nat.zero_le _⟩ dX2_readOrder_117 (fun H locs hP hD hS => ?_)
                refine lv_if_eq (tgt := 128) hx hb dX2_readOrder_120 (by decide) (fun hc => ?_) (fun hc => ?_)
                · have h0 := it_t h0 hc
                  refine lv_iconst (v := (1 : Int32)) hx hb dX2_readOrder_128 (by decide) ?_
                  obtain ⟨e1, e2⟩ := Prod.mk.inj (Option.some.inj h0)
                  exact x_retI hC hr hlocks rfl hP hD hS dX2_readOrder_129 ⟨e1, by rw [← e2]⟩
                · have h0 := it_f h0 hc
                  refine lv_aload_n hx hb dX2_readOrder_123 rfl (lv_at hl 0 rfl) ?_
                  refine lv_iconst (v := (1 : Int32)) hx hb dX2_readOrder_124 (by decide) ?_
                  obtain ⟨s12, es12, h0⟩ := nm_some h0
                  refine x_put (D := (dC, dI)) (ws' := wP cA h ad s12) (ci := 2) (fs := [.ref (ad 0), .int (s11 1 0), .int (s11 2 0), .int (s11 3 0), .int (s11 4 0), .int (s11 5 0), .int (s11 6 0), .int (s11 7 0)]) (v := .int (1 : Int32)) (ty := .int) (C := RX2) (T := TX2) (N := 8) hC hin0 tyX2 tyX2_ok nmX2 hK hP hD hS 0 rfl rfl 7 (by decide) (hts (.fieldLink RX2 44 "MeanLocks$Pad" "wait" "I") (List.mem_of_getElem? (i := 2) rfl)) rfl rfl rfl rfl (by decide +kernel) (Nat.le_of_ble_eq_true rfl) (by rw [es12]; exact wP_s7 _ _ _ _ _) dX2_readOrder_125 (fun H locs hP hD hS => ?_)
                  refine lv_iconst (v := (1 : Int32)) hx hb dX2_readOrder_128 (by decide) ?_
                  obtain ⟨e1, e2⟩ := Prod.mk.inj (Option.some.inj h0)
                  exact x_retI hC hr hlocks rfl hP hD hS dX2_readOrder_129 ⟨e1, by rw [← e2]⟩
            · have h0 := it_t h0 hc
              refine lv_iconst (v := (0 : Int32)) hx hb dX2_readOrder_103 (by decide) ?_
              obtain ⟨e1, e2⟩ := Prod.mk.inj (Option.some.inj h0)
              exact x_retI hC hr hlocks rfl hP hD hS dX2_readOrder_104 ⟨e1, by rw [← e2]⟩
          · have h0 := it_t h0 hc
            refine lv_iconst (v := (1 : Int32)) hx hb dX2_readOrder_94 (by decide) ?_
            obtain ⟨e1, e2⟩ := Prod.mk.inj (Option.some.inj h0)
            exact x_retI hC hr hlocks rfl hP hD hS dX2_readOrder_95 ⟨e1, by rw [← e2]⟩
      · have h0 := it_t h0 hc
        refine lv_iconst (v := (0 : Int32)) hx hb dX2_readOrder_74 (by decide) ?_
        obtain ⟨e1, e2⟩ := Prod.mk.inj (Option.some.inj h0)
        exact x_retI hC hr hlocks rfl hP hD hS dX2_readOrder_75 ⟨e1, by rw [← e2]⟩
    · have h0 := it_t h0 hc
      refine lv_aload_n hx hb dX2_readOrder_46 rfl (lv_at hl 0 rfl) ?_
      refine lv_aload_n hx hb dX2_readOrder_47 rfl (lv_at hl 0 rfl) ?_
      obtain ⟨r13, s14, hf6, h0⟩ := bn2_some h0
      refine x_VI (As := []) (rest := [.ref h]) hC (kX2_readNumber l dC dI cA h ad s5 r13 s14 hf6) (cwV 0 hts gX2_readOrder_X2_readNumber rfl rfl rfl (by decide +kernel) ⟨Nat.le_of_ble_eq_true rfl, Nat.le_of_ble_eq_true rfl⟩) 0 2 hV hN hK hP hD hS hA rfl rfl rfl rfl hl.1 rfl (Nat.le_of_ble_eq_true rfl) ⟨Nat.zero_le _, Nat.zero_le _⟩ dX2_readOrder_48 (fun H locs hP hD hS => ?_)
      obtain ⟨s15, es15, h0⟩ := nm_some h0
      refine x_put (D := (dC, dI)) (ws' := wP cA h ad s15) (ci := 2) (fs := [.ref (ad 0), .int (s14 1 0), .int (s14 2 0), .int (s14 3 0), .int (s14 4 0), .int (s14 5 0), .int (s14 6 0), .int (s14 7 0)]) (v := .int r13) (ty := .int) (C := RX2) (T := TX2) (N := 8) hC hin0 tyX2 tyX2_ok nmX2 hK hP hD hS 0 rfl rfl 5 (by decide) (hts (.fieldLink RX2 59 "MeanLocks$Pad" "first" "I") (List.mem_of_getElem? (i := 4) rfl)) rfl rfl rfl rfl (by decide +kernel) (Nat.le_of_ble_eq_true rfl) (by rw [es15]; exact wP_s5 _ _ _ _ _) dX2_readOrder_51 (fun H locs hP hD hS => ?_)
      refine lv_aload_n hx hb dX2_readOrder_54 rfl (lv_at hl 0 rfl) ?_
      refine va_get (D := (dC, dI)) (ci := 2) (v := .int (s15 5 0)) (C := RX2) (T := TX2) (N := 8) hx hb hts hin0 hown hK hP 0 rfl rfl 5 (by decide) (hts (.fieldLink RX2 59 "MeanLocks$Pad" "first" "I") (List.mem_of_getElem? (i := 4) rfl)) (fun _ h9 => h9) rfl dX2_readOrder_55 ?_
      refine lv_if_lt (tgt := 65) hx hb dX2_readOrder_58 (by decide) (fun hc => ?_) (fun hc => ?_)
      · have h0 := it_t h0 hc
        refine lv_iconst (v := (0 : Int32)) hx hb dX2_readOrder_65 (by decide) ?_
        obtain ⟨e1, e2⟩ := Prod.mk.inj (Option.some.inj h0)
        exact x_retI hC hr hlocks rfl hP hD hS dX2_readOrder_66 ⟨e1, by rw [← e2]⟩
      · have h0 := it_f h0 hc
        refine lv_iconst (v := (1 : Int32)) hx hb dX2_readOrder_61 (by decide) ?_
        refine lv_goto (tgt := 66) hx hb dX2_readOrder_62 (by decide) ?_
        obtain ⟨e1, e2⟩ := Prod.mk.inj (Option.some.inj h0)
        exact x_retI hC hr hlocks rfl hP hD hS dX2_readOrder_66 ⟨e1, by rw [← e2]⟩
  · have h0 := it_f h0 hc
    refine lv_iconst (v := (0 : Int32)) hx hb dX2_readOrder_25 (by decide) ?_
    obtain ⟨e1, e2⟩ := Prod.mk.inj (Option.some.inj h0)
    exact x_retI hC hr hlocks rfl hP hD hS dX2_readOrder_26 ⟨e1, by rw [← e2]⟩
def bX2_firstFault_9  (x3 : Int32) (x2 : Int32) (s4 : St) : Option ((Int32 × Int32 × St) ⊕ ((Int32 × Int32 × St) ⊕ (Int32 × St))) := if (80 : Int32) ≤ x2 then (some (.inr (.inl (x3, x2, s4)))) else (if (x3 : Int32) = (0 : Int32) then (some (.inr (.inl (x3, x2, s4)))) else (bn2 (fX2_readOrder  s4) fun r5 s6 => if (r5 : Int32) = (0 : Int32) then (some (.inr (.inr (s6 2 0, s6)))) else (bn2 (fX2_skip (59 : Int32) s6) fun r7 s8 => nm (x2 + (1 : Int32)) fun v9 => some (.inl (r7, v9, s8)))))
def fX2_firstFault (σ : St) : Option (Int32 × St) := nm (put σ 2 (fun _ => (0 : Int32))) fun s1 => bnd (lp (fun t : (Int32 × Int32 × St) => bX2_firstFault_9  t.1 t.2.1 t.2.2) FU ((1 : Int32), (0 : Int32), s1)) (fun e0 : ((Int32 × Int32 × St) ⊕ (Int32 × St)) => el e0 (fun e : (Int32 × Int32 × St) => nm e.1 fun x10 => nm e.2.1 fun x11 => nm e.2.2 fun s12 => if (s12 1 0) ≤ (s12 2 0) then (some ((-6 : Int32), s12)) else (some (s12 2 0, s12))) (fun r : (Int32 × St) => some r))
abbrev rmX2_firstFault : Room := { frames := 5, cells := 0, slots := 0, locals := 111 }
set_option maxHeartbeats 4000000 in
set_option maxRecDepth 100000 in
theorem kX2_firstFault (l : Launch) (dC : Nat → ClassId) (dI : Nat → Nat → Nat) (cA : Nat → ClassId) (h : Nat) (ad : Nat → Nat) (σ : St) (R0 : Int32) (σ' : St) (h0 : fX2_firstFault σ = some (R0, σ')) : CI l yX2_firstFault wsX2_firstFault rmX2_firstFault (dC, dI) vwCl (tysW cA) [.ref h] (wP cA h ad σ) R0 (wP cA h ad σ') := by
  refine CGI_of (cc := cX2_firstFault) (nL := 3) (ret := (some .int)) (by decide) rfl (Nat.le_of_ble_eq_true rfl) ?_
  intro p e s m av below meth c A ls H locs hC hl
  obtain ⟨hC, hr, hlocks, hV, hN, hK, hP, hD, hS, hA⟩ := hC
  have hC : CallFix p m c cX2_firstFault 3 s _ wsX2_firstFault RX2 := hC
  obtain ⟨hx, hb, hml, hown, hts⟩ := id hC
  have hin0 : ∀ w ∈ u_ws RX2 TX2 8, w ∈ wsX2_firstFault := fun _ h => (List.mem_cons_of_mem _ (List.mem_append_right _ h))
  have hl : lv_has ls 3 [(0, .ref h)] := hl
  unfold fX2_firstFault at h0
  refine lv_aload_n hx hb dX2_firstFault_0 rfl (lv_at hl 0 rfl) ?_
  refine lv_iconst (v := (0 : Int32)) hx hb dX2_firstFault_1 (by decide) ?_
  obtain ⟨s1, es1, h0⟩ := nm_some h0
  refine x_put (D := (dC, dI)) (ws' := wP cA h ad s1) (ci := 2) (fs := [.ref (ad 0), .int (σ 1 0), .int (σ 2 0), .int (σ 3 0), .int (σ 4 0), .int (σ 5 0), .int (σ 6 0), .int (σ 7 0)]) (v := .int (0 : Int32)) (ty := .int) (C := RX2) (T := TX2) (N := 8) hC hin0 tyX2 tyX2_ok nmX2 hK hP hD hS 0 rfl rfl 2 (by decide) (hts (.fieldLink RX2 25 "MeanLocks$Pad" "position" "I") (List.mem_of_getElem? (i := 1) rfl)) rfl rfl rfl rfl (by decide +kernel) (Nat.le_of_ble_eq_true rfl) (by rw [es1]; exact wP_s2 _ _ _ _ _) dX2_firstFault_2 (fun H locs hP hD hS => ?_)
  refine lv_iconst (v := (1 : Int32)) hx hb dX2_firstFault_5 (by decide) ?_
  refine lv_istore_n (lv' := [(1, .int (1 : Int32)), (0, .ref h)]) hx hb dX2_firstFault_6 rfl hl (by decide) rfl (fun ls hl => ?_)
  refine lv_iconst (v := (0 : Int32)) hx hb dX2_firstFault_7 (by decide) ?_
  refine lv_istore_n (lv' := [(2, .int (0 : Int32)), (1, .int (1 : Int32)), (0, .ref h)]) hx hb dX2_firstFault_8 rfl hl (by decide) rfl (fun ls hl => ?_)
  obtain ⟨ε1, hl1, h0⟩ := bnd_some h0
  have KN1 : ∀ (x10 : Int32) (x11 : Int32) (s12 : St), ε1 = .inl (x10, x11, s12) → ∀ (H : Heap) (locs : List Loc), va_P (dC, dI) vwCl (wP cA h ad s12) H → va_D A (wP cA h ad s12) → va_S A s.heap H locs → ∀ (ls : Array Slot), lv_has ls 3 [(2, .int x11), (1, .int x10), (0, .ref h)] → W p l e (headSpec wsX2_firstFault rmX2_firstFault).room s m av below meth c H locs 0 0 (MQ below (qI (dC, dI) A R0 (wP cA h ad σ')) av s 0 0 A) (F0 m 44 ls []) := by
    intro x10 x11 s12 hε H locs hP hD hS ls hl
    rw [hε] at h0
    have h0 := el_l h0
    have h0 := nm_at (z := x10) rfl h0
    have h0 := nm_at (z := x11) rfl h0
    have h0 := nm_at (z := s12) rfl h0
    refine lv_aload_n hx hb dX2_firstFault_44 rfl (lv_at hl 2 rfl) ?_
    refine va_get (D := (dC, dI)) (ci := 2) (v := .int (s12 2 0)) (C := RX2) (T := TX2) (N := 8) hx hb hts hin0 hown hK hP 0 rfl rfl 2 (by decide) (hts (.fieldLink RX2 25 "MeanLocks$Pad" "position" "I") (List.mem_of_getElem? (i := 1) rfl)) (fun _ h9 => h9) rfl dX2_firstFault_45 ?_
    refine lv_aload_n hx hb dX2_firstFault_48 rfl (lv_at hl 2 rfl) ?_
    refine va_get (D := (dC, dI)) (ci := 2) (v := .int (s12 1 0)) (C := RX2) (T := TX2) (N := 8) hx hb hts hin0 hown hK hP 0 rfl rfl 1 (by decide) (hts (.fieldLink RX2 21 "MeanLocks$Pad" "length" "I") (List.mem_of_getElem? (i := 2) rfl)) (fun _ h9 => h9) rfl dX2_firstFault_49 ?_
    refine lv_icmp_ge (tgt := 62) hx hb dX2_firstFault_52 (by decide) (fun hc => ?_) (fun hc => ?_)
    · have h0 := it_t h0 hc
      refine lv_bipush (v := (-6 : Int32)) hx hb dX2_firstFault_62 (by decide) ?_
      obtain ⟨e1, e2⟩ := Prod.mk.inj (Option.some.inj h0)
      exact x_retI hC hr hlocks rfl hP hD hS dX2_firstFault_64 ⟨e1, by rw [← e2]⟩
    · have h0 := it_f h0 hc
      refine lv_aload_n hx hb dX2_firstFault_55 rfl (lv_at hl 2 rfl) ?_
      refine va_get (D := (dC, dI)) (ci := 2) (v := .int (s12 2 0)) (C := RX2) (T := TX2) (N := 8) hx hb hts hin0 hown hK hP 0 rfl rfl 2 (by decide) (hts (.fieldLink RX2 25 "MeanLocks$Pad" "position" "I") (List.mem_of_getElem? (i := 1) rfl)) (fun _ h9 => h9) rfl dX2_firstFault_56 ?_
      refine lv_goto (tgt := 64) hx hb dX2_firstFault_59 (by decide) ?_
      obtain ⟨e1, e2⟩ := Prod.mk.inj (Option.some.inj h0)
      exact x_retI hC hr hlocks rfl hP hD hS dX2_firstFault_64 ⟨e1, by rw [← e2]⟩
  have LP1 : ∀ (n : Nat) (x3 : Int32) (x2 : Int32) (s4 : St), lp (fun t : (Int32 × Int32 × St) => bX2_firstFault_9  t.1 t.2.1 t.2.2) n (x3, x2, s4) = some ε1 → ∀ (H : Heap) (locs : List Loc), va_P (dC, dI) vwCl (wP cA h ad s4) H → va_D A (wP cA h ad s4) → va_S A s.heap H locs → ∀ (ls : Array Slot), lv_has ls 3 [(2, .int x2), (1, .int x3), (0, .ref h)] → W p l e (headSpec wsX2_firstFault rmX2_firstFault).room s m av below meth c H locs 0 0 (MQ below (qI (dC, dI) A R0 (wP cA h ad σ')) av s 0 0 A) (F0 m 9 ls []) := by
    intro n
    induction n with
    | zero => intro x3 x2 s4 hl0; exact (lp_0 hl0).elim
    | succ n ih1 =>
      intro x3 x2 s4 hl0 H locs hP hD hS ls hl
      obtain ⟨z1, h1, hz1⟩ := lp_s hl0
      have h1 : bX2_firstFault_9  x3 x2 s4 = some z1 := h1
      unfold bX2_firstFault_9 at h1
      refine lv_iload_n hx hb dX2_firstFault_9 rfl (lv_at hl 0 rfl) ?_
      refine lv_bipush (v := (80 : Int32)) hx hb dX2_firstFault_10 (by decide) ?_
      refine lv_icmp_ge (tgt := 44) hx hb dX2_firstFault_12 (by decide) (fun hc => ?_) (fun hc => ?_)
      · have h1 := it_t h1 hc
        have he := lp_r h1 hz1
        exact KN1 x3 x2 s4 he _ _ hP hD hS ls (lv_sub hl [0, 1, 2] rfl)
      · have h1 := it_f h1 hc
        refine lv_iload_n hx hb dX2_firstFault_15 rfl (lv_at hl 1 rfl) ?_
        refine lv_if_eq (tgt := 44) hx hb dX2_firstFault_16 (by decide) (fun hc => ?_) (fun hc => ?_)
        · have h1 := it_t h1 hc
          have he := lp_r h1 hz1
          exact KN1 x3 x2 s4 he _ _ hP hD hS ls (lv_sub hl [0, 1, 2] rfl)
        · have h1 := it_f h1 hc
          refine lv_aload_n hx hb dX2_firstFault_19 rfl (lv_at hl 2 rfl) ?_
          obtain ⟨r5, s6, hf2, h1⟩ := bn2_some h1
          refine x_VI (As := []) (rest := []) hC (kX2_readOrder l dC dI cA h ad s4 r5 s6 hf2) (cwV 0 hts gX2_firstFault_X2_readOrder rfl rfl rfl (by decide +kernel) ⟨Nat.le_of_ble_eq_true rfl, Nat.le_of_ble_eq_true rfl⟩) 0 2 hV hN hK hP hD hS hA rfl rfl rfl rfl hl.1 rfl (Nat.le_of_ble_eq_true rfl) ⟨Nat.zero_le _, Nat.zero_le _⟩ dX2_firstFault_20 (fun H locs hP hD hS => ?_)
          refine lv_if_ne (tgt := 31) hx hb dX2_firstFault_23 (by decide) (fun hc => ?_) (fun hc => ?_)
          · have h1 := it_f h1 hc
            refine lv_aload_n hx hb dX2_firstFault_31 rfl (lv_at hl 2 rfl) ?_
            refine lv_bipush (v := (59 : Int32)) hx hb dX2_firstFault_32 (by decide) ?_
            obtain ⟨r7, s8, hf3, h1⟩ := bn2_some h1
            refine x_VI (As := [.int (59 : Int32)]) (rest := []) hC (kX2_skip l dC dI cA h ad (59 : Int32) s6 r7 s8 hf3) (cwV 1 hts gX2_firstFault_X2_skip rfl rfl rfl (by decide +kernel) ⟨Nat.le_of_ble_eq_true rfl, Nat.le_of_ble_eq_true rfl⟩) 0 2 hV hN hK hP hD hS hA rfl rfl rfl rfl hl.1 rfl (Nat.le_of_ble_eq_true rfl) ⟨Nat.zero_le _, Nat.zero_le _⟩ dX2_firstFault_34 (fun H locs hP hD hS => ?_)
            refine lv_istore_n (lv' := [(1, .int r7), (2, .int x2), (0, .ref h)]) hx hb dX2_firstFault_37 rfl hl (by decide) rfl (fun ls hl => ?_)
            obtain ⟨v9, ev9, h1⟩ := nm_some h1
            refine lv_iinc (v := v9) (lv' := [(2, .int v9), (1, .int r7), (0, .ref h)]) hx hb dX2_firstFault_38 hl (k := 1) rfl (by rw [ev9]; rfl) (by decide) rfl (fun ls hl => ?_)
            refine lv_goto (tgt := 9) hx hb dX2_firstFault_41 (by decide) ?_
            have hc := lp_l h1 hz1
            exact ih1 r7 v9 s8 hc _ _ hP hD hS ls (lv_sub hl [0, 1, 2] rfl)
          · have h1 := it_t h1 hc
            refine lv_aload_n hx hb dX2_firstFault_26 rfl (lv_at hl 2 rfl) ?_
            refine va_get (D := (dC, dI)) (ci := 2) (v := .int (s6 2 0)) (C := RX2) (T := TX2) (N := 8) hx hb hts hin0 hown hK hP 0 rfl rfl 2 (by decide) (hts (.fieldLink RX2 25 "MeanLocks$Pad" "position" "I") (List.mem_of_getElem? (i := 1) rfl)) (fun _ h9 => h9) rfl dX2_firstFault_27 ?_
            have he := lp_r h1 hz1
            rw [he] at h0
            have h0 := el_r h0
            obtain ⟨e1, e2⟩ := Prod.mk.inj (Option.some.inj h0)
            exact x_retI hC hr hlocks rfl hP hD hS dX2_firstFault_30 ⟨e1, by rw [← e2]⟩
  exact LP1 FU (1 : Int32) (0 : Int32) s1 hl1 _ _ hP hD hS ls hl
def fX3_fault (σN : St) (σW : St) (σP : St) (κ : St) : Option (Int32 × St) := bn2 (fX2_firstFault  σP) fun r1 s2 => some (r1, s2)
abbrev rmX3_fault : Room := { frames := 6, cells := 0, slots := 0, locals := 133 }
set_option maxHeartbeats 4000000 in
set_option maxRecDepth 100000 in
theorem kX3_fault (l : Launch) (dC : Nat → ClassId) (dI : Nat → Nat → Nat) (cA : Nat → ClassId) (q : Nat → Nat) (rest : va_W) (σN : St) (σW : St) (σP : St) (κ : St) (R0 : Int32) (σ' : St) (h0 : fX3_fault σN σW σP κ = some (R0, σ')) : CI l yX3_fault wsX3_fault rmX3_fault (dC, dI) vwCl (tysW cA) [.ref (q 0)] ((wX cA q σN σW σP κ rest)) R0 ((wX cA q σN σW σ' κ rest)) := by
  refine CGI_of (cc := cX3_fault) (nL := 1) (ret := (some .int)) (by decide) rfl (Nat.le_of_ble_eq_true rfl) ?_
  intro p e s m av below meth c A ls H locs hC hl
  obtain ⟨hC, hr, hlocks, hV, hN, hK, hP, hD, hS, hA⟩ := hC
  have hC : CallFix p m c cX3_fault 1 s _ wsX3_fault RX3 := hC
  obtain ⟨hx, hb, hml, hown, hts⟩ := id hC
  have hl : lv_has ls 1 [(0, .ref (q 0))] := hl
  unfold fX3_fault at h0
  refine lv_aload_n hx hb dX3_fault_0 rfl (lv_at hl 0 rfl) ?_
  refine va_get (D := (dC, dI)) (ci := 3) (v := .ref (q 5)) (C := RX3) (T := TX3) (N := 5) hx hb hts (fun _ h => (List.mem_cons_of_mem _ (List.mem_append_left _ (List.mem_append_right _ h)))) hown hK hP 0 rfl rfl 4 (by decide) (hts (.fieldLink RX3 33 "MeanLocks" "pad" "LMeanLocks$Pad;") (List.mem_of_getElem? (i := 1) rfl)) (fun _ h9 => h9) rfl dX3_fault_1 ?_
  obtain ⟨r1, s2, hf1, h0⟩ := bn2_some h0
  refine x_PI (As := []) (rest := []) hC (kX2_firstFault l dC dI cA (q 5) (fun k => q (70 + k)) σP r1 s2 hf1) (cwV 0 hts gX3_fault_X2_firstFault rfl rfl rfl (by decide +kernel) ⟨Nat.le_of_ble_eq_true rfl, Nat.le_of_ble_eq_true rfl⟩) 35 2 hV hN hK hP hD hS hA (pm_P cA q σN σW σP κ rest) (pm_P cA q σN σW s2 κ rest).symm rfl rfl rfl rfl hl.1 rfl (Nat.le_of_ble_eq_true rfl) ⟨Nat.zero_le _, Nat.zero_le _⟩ dX3_fault_4 (fun H locs hP hD hS => ?_)
  obtain ⟨e1, e2⟩ := Prod.mk.inj (Option.some.inj h0)
  exact x_retI hC hr hlocks rfl hP hD hS dX3_fault_7 ⟨e1, by rw [← e2]⟩
def fX3_obey (σN : St) (σW : St) (σP : St) (κ : St) : Option (Int32 × St) := bnd (fJ0_indexOf_0f7a4 1 (σP 3 0)) fun r1 => nm (r1 + (1 : Int32)) fun v2 => if (v2 : Int32) = (0 : Int32) then (if ((σP 3 0) : Int32) = (102 : Int32) then (bn2 (fX1_release (σP 4 0) (σP 5 0) (σP 6 0) σN) fun r9 s10 => some (r9, s10)) else (if ((σP 3 0) : Int32) = (99 : Int32) then (bn2 (fX1_withdraw (σP 4 0) σN) fun r7 s8 => some (r7, s8)) else (if ((σP 3 0) : Int32) = (120 : Int32) then (bn2 (fX1_depart (σP 4 0) σN) fun r5 s6 => some (r5, s6)) else (bn2 (fX1_pass (σP 5 0) σN) fun r3 s4 => some (r3, s4))))) else (bn2 (fX1_ask (σP 4 0) v2 (σP 5 0) (σP 6 0) (σP 7 0) σN) fun r11 s12 => some (r11, s12))
abbrev rmX3_obey : Room := { frames := 5, cells := 0, slots := 0, locals := 133 }
set_option maxHeartbeats 4000000 in
set_option maxRecDepth 100000 in
theorem kX3_obey (l : Launch) (dC : Nat → ClassId) (dI : Nat → Nat → Nat) (cA : Nat → ClassId) (q : Nat → Nat) (rest : va_W) (σN : St) (σW : St) (σP : St) (κ : St) (R0 : Int32) (σ' : St) (h0 : fX3_obey σN σW σP κ = some (R0, σ')) : CI l yX3_obey wsX3_obey rmX3_obey (dC, dI) vwCl (tysW cA) [.ref (q 0)] ((wX cA q σN σW σP κ rest)) R0 ((wX cA q σ' σW σP κ rest)) := by
  refine CGI_of (cc := cX3_obey) (nL := 2) (ret := (some .int)) (by decide) rfl (Nat.le_of_ble_eq_true rfl) ?_
  intro p e s m av below meth c A ls H locs hC hl
  obtain ⟨hC, hr, hlocks, hV, hN, hK, hP, hD, hS, hA⟩ := hC
  have hC : CallFix p m c cX3_obey 2 s _ wsX3_obey RX3 := hC
  obtain ⟨hx, hb, hml, hown, hts⟩ := id hC
  have hl : lv_has ls 2 [(0, .ref (q 0))] := hl
  obtain ⟨adK, adV, hE, hr0, hr1, hZ⟩ := id hV
  unfold fX3_obey at h0
  refine va_ldcS hx hb hown hr1 dX3_obey_0 ?_
  refine lv_aload_n hx hb dX3_obey_2 rfl (lv_at hl 0 rfl) ?_
  refine va_get (D := (dC, dI)) (ci := 3) (v := .ref (q 5)) (C := RX3) (T := TX3) (N := 5) hx hb hts (fun _ h => (List.mem_cons_of_mem _ (List.mem_append_left _ (List.mem_append_left _ (List.mem_append_right _ h))))) hown hK hP 0 rfl rfl 4 (by decide) (hts (.fieldLink RX3 33 "MeanLocks" "pad" "LMeanLocks$Pad;") (List.mem_of_getElem? (i := 1) rfl)) (fun _ h9 => h9) rfl dX3_obey_3 ?_
  refine va_get (D := (dC, dI)) (ci := 2) (v := .int (σP 3 0)) (C := RX2) (T := TX2) (N := 8) hx hb hts (fun _ h => (List.mem_cons_of_mem _ (List.mem_append_left _ (List.mem_append_right _ h)))) hown hK hP 35 rfl rfl 3 (by decide) (hts (.fieldLink RX3 229 "MeanLocks$Pad" "letter" "C") (List.mem_of_getElem? (i := 2) rfl)) (fun _ h9 => h9) rfl dX3_obey_6 ?_
  obtain ⟨r1, hf1, h0⟩ := bnd_some h0
  refine xs_V (As := [.int (σP 3 0)]) (rest := []) hC (kJ0_indexOf_0f7a4 l dC dI cA adK adV 1 (σP 3 0) r1 hf1 (by decide)) (cwV 1 hts gX3_obey_J0_indexOf_0f7a4 rfl rfl rfl (by decide +kernel) ⟨Nat.le_of_ble_eq_true rfl, Nat.le_of_ble_eq_true rfl⟩) hE hZ hS hA (vk_recv hE (i := 1) (by decide) hS) rfl hl.1 rfl (Nat.le_of_ble_eq_true rfl) ⟨Nat.zero_le _, Nat.zero_le _⟩ dX3_obey_9 (fun H locs hkeep hS => ?_)
  have hP := hP.kept (fun k q hk => hkeep q.1 ((hP k q hk).lt))
  refine lv_iconst (v := (1 : Int32)) hx hb dX3_obey_12 (by decide) ?_
  refine lv_iadd hx hb dX3_obey_13 ?_
  refine lv_topi (fun v2 ev2 => ?_)
  have h0 := nm_at ev2 h0
  refine lv_istore_n (lv' := [(1, .int v2), (0, .ref (q 0))]) hx hb dX3_obey_14 rfl hl (by decide) rfl (fun ls hl => ?_)
  refine lv_iload_n hx hb dX3_obey_15 rfl (lv_at hl 0 rfl) ?_
  refine lv_if_eq (tgt := 56) hx hb dX3_obey_16 (by decide) (fun hc => ?_) (fun hc => ?_)
  · have h0 := it_t h0 hc
    refine lv_aload_n hx hb dX3_obey_56 rfl (lv_at hl 1 rfl) ?_
    refine va_get (D := (dC, dI)) (ci := 3) (v := .ref (q 5)) (C := RX3) (T := TX3) (N := 5) hx hb hts (fun _ h => (List.mem_cons_of_mem _ (List.mem_append_left _ (List.mem_append_left _ (List.mem_append_right _ h))))) hown hK hP 0 rfl rfl 4 (by decide) (hts (.fieldLink RX3 33 "MeanLocks" "pad" "LMeanLocks$Pad;") (List.mem_of_getElem? (i := 1) rfl)) (fun _ h9 => h9) rfl dX3_obey_57 ?_
    refine va_get (D := (dC, dI)) (ci := 2) (v := .int (σP 3 0)) (C := RX2) (T := TX2) (N := 8) hx hb hts (fun _ h => (List.mem_cons_of_mem _ (List.mem_append_left _ (List.mem_append_right _ h)))) hown hK hP 35 rfl rfl 3 (by decide) (hts (.fieldLink RX3 229 "MeanLocks$Pad" "letter" "C") (List.mem_of_getElem? (i := 2) rfl)) (fun _ h9 => h9) rfl dX3_obey_60 ?_
    refine lv_bipush (v := (102 : Int32)) hx hb dX3_obey_63 (by decide) ?_
    refine lv_icmp_ne (tgt := 97) hx hb dX3_obey_65 (by decide) (fun hc => ?_) (fun hc => ?_)
    · have h0 := it_f h0 hc
      refine lv_aload_n hx hb dX3_obey_97 rfl (lv_at hl 1 rfl) ?_
      refine va_get (D := (dC, dI)) (ci := 3) (v := .ref (q 5)) (C := RX3) (T := TX3) (N := 5) hx hb hts (fun _ h => (List.mem_cons_of_mem _ (List.mem_append_left _ (List.mem_append_left _ (List.mem_append_right _ h))))) hown hK hP 0 rfl rfl 4 (by decide) (hts (.fieldLink RX3 33 "MeanLocks" "pad" "LMeanLocks$Pad;") (List.mem_of_getElem? (i := 1) rfl)) (fun _ h9 => h9) rfl dX3_obey_98 ?_
      refine va_get (D := (dC, dI)) (ci := 2) (v := .int (σP 3 0)) (C := RX2) (T := TX2) (N := 8) hx hb hts (fun _ h => (List.mem_cons_of_mem _ (List.mem_append_left _ (List.mem_append_right _ h)))) hown hK hP 35 rfl rfl 3 (by decide) (hts (.fieldLink RX3 229 "MeanLocks$Pad" "letter" "C") (List.mem_of_getElem? (i := 2) rfl)) (fun _ h9 => h9) rfl dX3_obey_101 ?_
      refine lv_bipush (v := (99 : Int32)) hx hb dX3_obey_104 (by decide) ?_
      refine lv_icmp_ne (tgt := 124) hx hb dX3_obey_106 (by decide) (fun hc => ?_) (fun hc => ?_)
      · have h0 := it_f h0 hc
        refine lv_aload_n hx hb dX3_obey_124 rfl (lv_at hl 1 rfl) ?_
        refine va_get (D := (dC, dI)) (ci := 3) (v := .ref (q 5)) (C := RX3) (T := TX3) (N := 5) hx hb hts (fun _ h => (List.mem_cons_of_mem _ (List.mem_append_left _ (List.mem_append_left _ (List.mem_append_right _ h))))) hown hK hP 0 rfl rfl 4 (by decide) (hts (.fieldLink RX3 33 "MeanLocks" "pad" "LMeanLocks$Pad;") (List.mem_of_getElem? (i := 1) rfl)) (fun _ h9 => h9) rfl dX3_obey_125 ?_
        refine va_get (D := (dC, dI)) (ci := 2) (v := .int (σP 3 0)) (C := RX2) (T := TX2) (N := 8) hx hb hts (fun _ h => (List.mem_cons_of_mem _ (List.mem_append_left _ (List.mem_append_right _ h)))) hown hK hP 35 rfl rfl 3 (by decide) (hts (.fieldLink RX3 229 "MeanLocks$Pad" "letter" "C") (List.mem_of_getElem? (i := 2) rfl)) (fun _ h9 => h9) rfl dX3_obey_128 ?_
        refine lv_bipush (v := (120 : Int32)) hx hb dX3_obey_131 (by decide) ?_
        refine lv_icmp_ne (tgt := 151) hx hb dX3_obey_133 (by decide) (fun hc => ?_) (fun hc => ?_)
        · have h0 := it_f h0 hc
          refine lv_aload_n hx hb dX3_obey_151 rfl (lv_at hl 1 rfl) ?_
          refine va_get (D := (dC, dI)) (ci := 3) (v := .ref (q 1)) (C := RX3) (T := TX3) (N := 5) hx hb hts (fun _ h => (List.mem_cons_of_mem _ (List.mem_append_left _ (List.mem_append_left _ (List.mem_append_right _ h))))) hown hK hP 0 rfl rfl 0 (by decide) (hts (.fieldLink RX3 12 "MeanLocks" "now" "LMeanLocks$Locks;") (List.mem_of_getElem? (i := 3) rfl)) (fun _ h9 => h9) rfl dX3_obey_152 ?_
          refine lv_aload_n hx hb dX3_obey_155 rfl (lv_at hl 1 rfl) ?_
          refine va_get (D := (dC, dI)) (ci := 3) (v := .ref (q 5)) (C := RX3) (T := TX3) (N := 5) hx hb hts (fun _ h => (List.mem_cons_of_mem _ (List.mem_append_left _ (List.mem_append_left _ (List.mem_append_right _ h))))) hown hK hP 0 rfl rfl 4 (by decide) (hts (.fieldLink RX3 33 "MeanLocks" "pad" "LMeanLocks$Pad;") (List.mem_of_getElem? (i := 1) rfl)) (fun _ h9 => h9) rfl dX3_obey_156 ?_
          refine va_get (D := (dC, dI)) (ci := 2) (v := .int (σP 5 0)) (C := RX2) (T := TX2) (N := 8) hx hb hts (fun _ h => (List.mem_cons_of_mem _ (List.mem_append_left _ (List.mem_append_right _ h)))) hown hK hP 35 rfl rfl 5 (by decide) (hts (.fieldLink RX3 241 "MeanLocks$Pad" "first" "I") (List.mem_of_getElem? (i := 5) rfl)) (fun _ h9 => h9) rfl dX3_obey_159 ?_
          obtain ⟨r3, s4, hf2, h0⟩ := bn2_some h0
          refine x_PI (As := [.int (σP 5 0)]) (rest := []) hC (kX1_pass l dC dI cA (q 1) (fun k => q (10 + k)) (σP 5 0) σN r3 s4 hf2) (cwV 1 hts gX3_obey_X1_pass rfl rfl rfl (by decide +kernel) ⟨Nat.le_of_ble_eq_true rfl, Nat.le_of_ble_eq_true rfl⟩) 1 1 hV hN hK hP hD hS hA (pm_N cA q σN σW σP κ rest) (pm_N cA q s4 σW σP κ rest).symm rfl rfl rfl rfl hl.1 rfl (Nat.le_of_ble_eq_true rfl) ⟨Nat.zero_le _, Nat.zero_le _⟩ dX3_obey_162 (fun H locs hP hD hS => ?_)
          obtain ⟨e1, e2⟩ := Prod.mk.inj (Option.some.inj h0)
          exact x_retI hC hr hlocks rfl hP hD hS dX3_obey_165 ⟨e1, by rw [← e2]⟩
        · have h0 := it_t h0 hc
          refine lv_aload_n hx hb dX3_obey_136 rfl (lv_at hl 1 rfl) ?_
          refine va_get (D := (dC, dI)) (ci := 3) (v := .ref (q 1)) (C := RX3) (T := TX3) (N := 5) hx hb hts (fun _ h => (List.mem_cons_of_mem _ (List.mem_append_left _ (List.mem_append_left _ (List.mem_append_right _ h))))) hown hK hP 0 rfl rfl 0 (by decide) (hts (.fieldLink RX3 12 "MeanLocks" "now" "LMeanLocks$Locks;") (List.mem_of_getElem? (i := 3) rfl)) (fun _ h9 => h9) rfl dX3_obey_137 ?_
          refine lv_aload_n hx hb dX3_obey_140 rfl (lv_at hl 1 rfl) ?_
          refine va_get (D := (dC, dI)) (ci := 3) (v := .ref (q 5)) (C := RX3) (T := TX3) (N := 5) hx hb hts (fun _ h => (List.mem_cons_of_mem _ (List.mem_append_left _ (List.mem_append_left _ (List.mem_append_right _ h))))) hown hK hP 0 rfl rfl 4 (by decide) (hts (.fieldLink RX3 33 "MeanLocks" "pad" "LMeanLocks$Pad;") (List.mem_of_getElem? (i := 1) rfl)) (fun _ h9 => h9) rfl dX3_obey_141 ?_
          refine va_get (D := (dC, dI)) (ci := 2) (v := .int (σP 4 0)) (C := RX2) (T := TX2) (N := 8) hx hb hts (fun _ h => (List.mem_cons_of_mem _ (List.mem_append_left _ (List.mem_append_right _ h)))) hown hK hP 35 rfl rfl 4 (by decide) (hts (.fieldLink RX3 238 "MeanLocks$Pad" "owner" "I") (List.mem_of_getElem? (i := 4) rfl)) (fun _ h9 => h9) rfl dX3_obey_144 ?_
          obtain ⟨r5, s6, hf3, h0⟩ := bn2_some h0
          refine x_PI (As := [.int (σP 4 0)]) (rest := []) hC (kX1_depart l dC dI cA (q 1) (fun k => q (10 + k)) (σP 4 0) σN r5 s6 hf3) (cwV 1 hts gX3_obey_X1_depart rfl rfl rfl (by decide +kernel) ⟨Nat.le_of_ble_eq_true rfl, Nat.le_of_ble_eq_true rfl⟩) 1 1 hV hN hK hP hD hS hA (pm_N cA q σN σW σP κ rest) (pm_N cA q s6 σW σP κ rest).symm rfl rfl rfl rfl hl.1 rfl (Nat.le_of_ble_eq_true rfl) ⟨Nat.zero_le _, Nat.zero_le _⟩ dX3_obey_147 (fun H locs hP hD hS => ?_)
          obtain ⟨e1, e2⟩ := Prod.mk.inj (Option.some.inj h0)
          exact x_retI hC hr hlocks rfl hP hD hS dX3_obey_150 ⟨e1, by rw [← e2]⟩
      · have h0 := it_t h0 hc
        refine lv_aload_n hx hb dX3_obey_109 rfl (lv_at hl 1 rfl) ?_
        refine va_get (D := (dC, dI)) (ci := 3) (v := .ref (q 1)) (C := RX3) (T := TX3) (N := 5) hx hb hts (fun _ h => (List.mem_cons_of_mem _ (List.mem_append_left _ (List.mem_append_left _ (List.mem_append_right _ h))))) hown hK hP 0 rfl rfl 0 (by decide) (hts (.fieldLink RX3 12 "MeanLocks" "now" "LMeanLocks$Locks;") (List.mem_of_getElem? (i := 3) rfl)) (fun _ h9 => h9) rfl dX3_obey_110 ?_
        refine lv_aload_n hx hb dX3_obey_113 rfl (lv_at hl 1 rfl) ?_
        refine va_get (D := (dC, dI)) (ci := 3) (v := .ref (q 5)) (C := RX3) (T := TX3) (N := 5) hx hb hts (fun _ h => (List.mem_cons_of_mem _ (List.mem_append_left _ (List.mem_append_left _ (List.mem_append_right _ h))))) hown hK hP 0 rfl rfl 4 (by decide) (hts (.fieldLink RX3 33 "MeanLocks" "pad" "LMeanLocks$Pad;") (List.mem_of_getElem? (i := 1) rfl)) (fun _ h9 => h9) rfl dX3_obey_114 ?_
        refine va_get (D := (dC, dI)) (ci := 2) (v := .int (σP 4 0)) (C := RX2) (T := TX2) (N := 8) hx hb hts (fun _ h => (List.mem_cons_of_mem _ (List.mem_append_left _ (List.mem_append_right _ h)))) hown hK hP 35 rfl rfl 4 (by decide) (hts (.fieldLink RX3 238 "MeanLocks$Pad" "owner" "I") (List.mem_of_getElem? (i := 4) rfl)) (fun _ h9 => h9) rfl dX3_obey_117 ?_
        obtain ⟨r7, s8, hf4, h0⟩ := bn2_some h0
        refine x_PI (As := [.int (σP 4 0)]) (rest := []) hC (kX1_withdraw l dC dI cA (q 1) (fun k => q (10 + k)) (σP 4 0) σN r7 s8 hf4) (cwV 1 hts gX3_obey_X1_withdraw rfl rfl rfl (by decide +kernel) ⟨Nat.le_of_ble_eq_true rfl, Nat.le_of_ble_eq_true rfl⟩) 1 1 hV hN hK hP hD hS hA (pm_N cA q σN σW σP κ rest) (pm_N cA q s8 σW σP κ rest).symm rfl rfl rfl rfl hl.1 rfl (Nat.le_of_ble_eq_true rfl) ⟨Nat.zero_le _, Nat.zero_le _⟩ dX3_obey_120 (fun H locs hP hD hS => ?_)
        obtain ⟨e1, e2⟩ := Prod.mk.inj (Option.some.inj h0)
        exact x_retI hC hr hlocks rfl hP hD hS dX3_obey_123 ⟨e1, by rw [← e2]⟩
    · have h0 := it_t h0 hc
      refine lv_aload_n hx hb dX3_obey_68 rfl (lv_at hl 1 rfl) ?_
      refine va_get (D := (dC, dI)) (ci := 3) (v := .ref (q 1)) (C := RX3) (T := TX3) (N := 5) hx hb hts (fun _ h => (List.mem_cons_of_mem _ (List.mem_append_left _ (List.mem_append_left _ (List.mem_append_right _ h))))) hown hK hP 0 rfl rfl 0 (by decide) (hts (.fieldLink RX3 12 "MeanLocks" "now" "LMeanLocks$Locks;") (List.mem_of_getElem? (i := 3) rfl)) (fun _ h9 => h9) rfl dX3_obey_69 ?_
      refine lv_aload_n hx hb dX3_obey_72 rfl (lv_at hl 1 rfl) ?_
      refine va_get (D := (dC, dI)) (ci := 3) (v := .ref (q 5)) (C := RX3) (T := TX3) (N := 5) hx hb hts (fun _ h => (List.mem_cons_of_mem _ (List.mem_append_left _ (List.mem_append_left _ (List.mem_append_right _ h))))) hown hK hP 0 rfl rfl 4 (by decide) (hts (.fieldLink RX3 33 "MeanLocks" "pad" "LMeanLocks$Pad;") (List.mem_of_getElem? (i := 1) rfl)) (fun _ h9 => h9) rfl dX3_obey_73 ?_
      refine va_get (D := (dC, dI)) (ci := 2) (v := .int (σP 4 0)) (C := RX2) (T := TX2) (N := 8) hx hb hts (fun _ h => (List.mem_cons_of_mem _ (List.mem_append_left _ (List.mem_append_right _ h)))) hown hK hP 35 rfl rfl 4 (by decide) (hts (.fieldLink RX3 238 "MeanLocks$Pad" "owner" "I") (List.mem_of_getElem? (i := 4) rfl)) (fun _ h9 => h9) rfl dX3_obey_76 ?_
      refine lv_aload_n hx hb dX3_obey_79 rfl (lv_at hl 1 rfl) ?_
      refine va_get (D := (dC, dI)) (ci := 3) (v := .ref (q 5)) (C := RX3) (T := TX3) (N := 5) hx hb hts (fun _ h => (List.mem_cons_of_mem _ (List.mem_append_left _ (List.mem_append_left _ (List.mem_append_right _ h))))) hown hK hP 0 rfl rfl 4 (by decide) (hts (.fieldLink RX3 33 "MeanLocks" "pad" "LMeanLocks$Pad;") (List.mem_of_getElem? (i := 1) rfl)) (fun _ h9 => h9) rfl dX3_obey_80 ?_
      refine va_get (D := (dC, dI)) (ci := 2) (v := .int (σP 5 0)) (C := RX2) (T := TX2) (N := 8) hx hb hts (fun _ h => (List.mem_cons_of_mem _ (List.mem_append_left _ (List.mem_append_right _ h)))) hown hK hP 35 rfl rfl 5 (by decide) (hts (.fieldLink RX3 241 "MeanLocks$Pad" "first" "I") (List.mem_of_getElem? (i := 5) rfl)) (fun _ h9 => h9) rfl dX3_obey_83 ?_
      refine lv_aload_n hx hb dX3_obey_86 rfl (lv_at hl 1 rfl) ?_
      refine va_get (D := (dC, dI)) (ci := 3) (v := .ref (q 5)) (C := RX3) (T := TX3) (N := 5) hx hb hts (fun _ h => (List.mem_cons_of_mem _ (List.mem_append_left _ (List.mem_append_left _ (List.mem_append_right _ h))))) hown hK hP 0 rfl rfl 4 (by decide) (hts (.fieldLink RX3 33 "MeanLocks" "pad" "LMeanLocks$Pad;") (List.mem_of_getElem? (i := 1) rfl)) (fun _ h9 => h9) rfl dX3_obey_87 ?_
      refine va_get (D := (dC, dI)) (ci := 2) (v := .int (σP 6 0)) (C := RX2) (T := TX2) (N := 8) hx hb hts (fun _ h => (List.mem_cons_of_mem _ (List.mem_append_left _ (List.mem_append_right _ h)))) hown hK hP 35 rfl rfl 6 (by decide) (hts (.fieldLink RX3 244 "MeanLocks$Pad" "second" "I") (List.mem_of_getElem? (i := 6) rfl)) (fun _ h9 => h9) rfl dX3_obey_90 ?_
      obtain ⟨r9, s10, hf5, h0⟩ := bn2_some h0
      refine x_PI (As := [.int (σP 4 0), .int (σP 5 0), .int (σP 6 0)]) (rest := []) hC (kX1_release l dC dI cA (q 1) (fun k => q (10 + k)) (σP 4 0) (σP 5 0) (σP 6 0) σN r9 s10 hf5) (cwV 3 hts gX3_obey_X1_release rfl rfl rfl (by decide +kernel) ⟨Nat.le_of_ble_eq_true rfl, Nat.le_of_ble_eq_true rfl⟩) 1 1 hV hN hK hP hD hS hA (pm_N cA q σN σW σP κ rest) (pm_N cA q s10 σW σP κ rest).symm rfl rfl rfl rfl hl.1 rfl (Nat.le_of_ble_eq_true rfl) ⟨Nat.zero_le _, Nat.zero_le _⟩ dX3_obey_93 (fun H locs hP hD hS => ?_)
      obtain ⟨e1, e2⟩ := Prod.mk.inj (Option.some.inj h0)
      exact x_retI hC hr hlocks rfl hP hD hS dX3_obey_96 ⟨e1, by rw [← e2]⟩
  · have h0 := it_f h0 hc
    refine lv_aload_n hx hb dX3_obey_19 rfl (lv_at hl 1 rfl) ?_
    refine va_get (D := (dC, dI)) (ci := 3) (v := .ref (q 1)) (C := RX3) (T := TX3) (N := 5) hx hb hts (fun _ h => (List.mem_cons_of_mem _ (List.mem_append_left _ (List.mem_append_left _ (List.mem_append_right _ h))))) hown hK hP 0 rfl rfl 0 (by decide) (hts (.fieldLink RX3 12 "MeanLocks" "now" "LMeanLocks$Locks;") (List.mem_of_getElem? (i := 3) rfl)) (fun _ h9 => h9) rfl dX3_obey_20 ?_
    refine lv_aload_n hx hb dX3_obey_23 rfl (lv_at hl 1 rfl) ?_
    refine va_get (D := (dC, dI)) (ci := 3) (v := .ref (q 5)) (C := RX3) (T := TX3) (N := 5) hx hb hts (fun _ h => (List.mem_cons_of_mem _ (List.mem_append_left _ (List.mem_append_left _ (List.mem_append_right _ h))))) hown hK hP 0 rfl rfl 4 (by decide) (hts (.fieldLink RX3 33 "MeanLocks" "pad" "LMeanLocks$Pad;") (List.mem_of_getElem? (i := 1) rfl)) (fun _ h9 => h9) rfl dX3_obey_24 ?_
    refine va_get (D := (dC, dI)) (ci := 2) (v := .int (σP 4 0)) (C := RX2) (T := TX2) (N := 8) hx hb hts (fun _ h => (List.mem_cons_of_mem _ (List.mem_append_left _ (List.mem_append_right _ h)))) hown hK hP 35 rfl rfl 4 (by decide) (hts (.fieldLink RX3 238 "MeanLocks$Pad" "owner" "I") (List.mem_of_getElem? (i := 4) rfl)) (fun _ h9 => h9) rfl dX3_obey_27 ?_
    refine lv_iload_n hx hb dX3_obey_30 rfl (lv_at hl 0 rfl) ?_
    refine lv_aload_n hx hb dX3_obey_31 rfl (lv_at hl 1 rfl) ?_
    refine va_get (D := (dC, dI)) (ci := 3) (v := .ref (q 5)) (C := RX3) (T := TX3) (N := 5) hx hb hts (fun _ h => (List.mem_cons_of_mem _ (List.mem_append_left _ (List.mem_append_left _ (List.mem_append_right _ h))))) hown hK hP 0 rfl rfl 4 (by decide) (hts (.fieldLink RX3 33 "MeanLocks" "pad" "LMeanLocks$Pad;") (List.mem_of_getElem? (i := 1) rfl)) (fun _ h9 => h9) rfl dX3_obey_32 ?_
    refine va_get (D := (dC, dI)) (ci := 2) (v := .int (σP 5 0)) (C := RX2) (T := TX2) (N := 8) hx hb hts (fun _ h => (List.mem_cons_of_mem _ (List.mem_append_left _ (List.mem_append_right _ h)))) hown hK hP 35 rfl rfl 5 (by decide) (hts (.fieldLink RX3 241 "MeanLocks$Pad" "first" "I") (List.mem_of_getElem? (i := 5) rfl)) (fun _ h9 => h9) rfl dX3_obey_35 ?_
    refine lv_aload_n hx hb dX3_obey_38 rfl (lv_at hl 1 rfl) ?_
    refine va_get (D := (dC, dI)) (ci := 3) (v := .ref (q 5)) (C := RX3) (T := TX3) (N := 5) hx hb hts (fun _ h => (List.mem_cons_of_mem _ (List.mem_append_left _ (List.mem_append_left _ (List.mem_append_right _ h))))) hown hK hP 0 rfl rfl 4 (by decide) (hts (.fieldLink RX3 33 "MeanLocks" "pad" "LMeanLocks$Pad;") (List.mem_of_getElem? (i := 1) rfl)) (fun _ h9 => h9) rfl dX3_obey_39 ?_
    refine va_get (D := (dC, dI)) (ci := 2) (v := .int (σP 6 0)) (C := RX2) (T := TX2) (N := 8) hx hb hts (fun _ h => (List.mem_cons_of_mem _ (List.mem_append_left _ (List.mem_append_right _ h)))) hown hK hP 35 rfl rfl 6 (by decide) (hts (.fieldLink RX3 244 "MeanLocks$Pad" "second" "I") (List.mem_of_getElem? (i := 6) rfl)) (fun _ h9 => h9) rfl dX3_obey_42 ?_
    refine lv_aload_n hx hb dX3_obey_45 rfl (lv_at hl 1 rfl) ?_
    refine va_get (D := (dC, dI)) (ci := 3) (v := .ref (q 5)) (C := RX3) (T := TX3) (N := 5) hx hb hts (fun _ h => (List.mem_cons_of_mem _ (List.mem_append_left _ (List.mem_append_left _ (List.mem_append_right _ h))))) hown hK hP 0 rfl rfl 4 (by decide) (hts (.fieldLink RX3 33 "MeanLocks" "pad" "LMeanLocks$Pad;") (List.mem_of_getElem? (i := 1) rfl)) (fun _ h9 => h9) rfl dX3_obey_46 ?_
    refine va_get (D := (dC, dI)) (ci := 2) (v := .int (σP 7 0)) (C := RX2) (T := TX2) (N := 8) hx hb hts (fun _ h => (List.mem_cons_of_mem _ (List.mem_append_left _ (List.mem_append_right _ h)))) hown hK hP 35 rfl rfl 7 (by decide) (hts (.fieldLink RX3 247 "MeanLocks$Pad" "wait" "I") (List.mem_of_getElem? (i := 7) rfl)) (fun _ h9 => h9) rfl dX3_obey_49 ?_
    obtain ⟨r11, s12, hf6, h0⟩ := bn2_some h0
    refine x_PI (As := [.int (σP 4 0), .int v2, .int (σP 5 0), .int (σP 6 0), .int (σP 7 0)]) (rest := []) hC (kX1_ask l dC dI cA (q 1) (fun k => q (10 + k)) (σP 4 0) v2 (σP 5 0) (σP 6 0) (σP 7 0) σN r11 s12 hf6) (cwV 5 hts gX3_obey_X1_ask rfl rfl rfl (by decide +kernel) ⟨Nat.le_of_ble_eq_true rfl, Nat.le_of_ble_eq_true rfl⟩) 1 1 hV hN hK hP hD hS hA (pm_N cA q σN σW σP κ rest) (pm_N cA q s12 σW σP κ rest).symm rfl rfl rfl rfl hl.1 rfl (Nat.le_of_ble_eq_true rfl) ⟨Nat.zero_le _, Nat.zero_le _⟩ dX3_obey_52 (fun H locs hP hD hS => ?_)
    obtain ⟨e1, e2⟩ := Prod.mk.inj (Option.some.inj h0)
    exact x_retI hC hr hlocks rfl hP hD hS dX3_obey_55 ⟨e1, by rw [← e2]⟩
