def fX4_count (a1 : Int32) (σ : St) : Option Int32 := if (a1 : Int32) = (0 : Int32) then (ax (0 : Int32) 2488 (some (σ 0 ((0 : Int32) : Int32).toNatClampNeg))) else (if (a1 : Int32) = (1 : Int32) then (ax (1 : Int32) 2488 (some (σ 0 ((1 : Int32) : Int32).toNatClampNeg))) else (if (a1 : Int32) = (2 : Int32) then (bnd (fX4_placesTaken  σ) fun r1 => some r1) else (if (a1 : Int32) = (3 : Int32) ∨ (a1 : Int32) = (4 : Int32) ∨ (a1 : Int32) = (5 : Int32) then (ax (((2 : Int32) + a1) - (3 : Int32)) 2488 (some (σ 0 (((2 : Int32) + a1) - (3 : Int32) : Int32).toNatClampNeg))) else (if (a1 : Int32) = (6 : Int32) then (bnd (fX4_sum (4 : Int32) σ) fun r2 => some r2) else (if (a1 : Int32) = (7 : Int32) then (ax (5 : Int32) 2488 (some (σ 0 ((5 : Int32) : Int32).toNatClampNeg))) else (if (a1 : Int32) = (8 : Int32) then (ax (6 : Int32) 2488 (some (σ 0 ((6 : Int32) : Int32).toNatClampNeg))) else (if (a1 : Int32) = (9 : Int32) then (some (σ 8 0)) else (if (a1 : Int32) = (10 : Int32) then (some (σ 3 0)) else (some (-2 : Int32))))))))))
abbrev rmX4_count : Room := { frames := 3, cells := 0, slots := 0, locals := 68 }
set_option maxHeartbeats 4000000 in
set_option maxRecDepth 100000 in
theorem kX4_count (l : Launch) (dC : Nat → ClassId) (dI : Nat → Nat → Nat) (cA : Nat → ClassId) (h : Nat) (ad : Nat → Nat) (a1 : Int32) (σ : St) (R0 : Int32) (h0 : fX4_count a1 σ = some R0) : CI l yX4_count wsX4_count rmX4_count (dC, dI) vwCl (tysW cA) [.ref h, .int a1] (wM cA h ad σ) R0 (wM cA h ad σ) := by
  refine CGI_of (cc := cX4_count) (nL := 2) (ret := (some .int)) (by decide) rfl (Nat.le_of_ble_eq_true rfl) ?_
  intro p e s m av below meth c A ls H locs hC hl
  obtain ⟨hC, hr, hlocks, hV, hN, hK, hP, hD, hS, hA⟩ := hC
  have hC : CallFix p m c cX4_count 2 s _ wsX4_count RX4 := hC
  obtain ⟨hx, hb, hml, hown, hts⟩ := id hC
  have hin0 : ∀ w ∈ u_ws RX4 TX4 16, w ∈ wsX4_count := fun _ h => (List.mem_cons_of_mem _ (List.mem_append_right _ h))
  have hl : lv_has ls 2 [(0, .ref h), (1, .int a1)] := hl
  unfold fX4_count at h0
  refine lv_iload_n hx hb dX4_count_0 rfl (lv_at hl 1 rfl) ?_
  by_cases hq0 : (a1 : Int32) = (0 : Int32)
  · have h0 := it_t h0 hq0
    refine lv_tableIn (tgt := 60) hx hb dX4_count_1 (by rw [hq0]; decide) (by rw [hq0]; decide) (off := 59) (by rw [hq0]; rfl) (by decide) ?_
    refine lv_aload_n hx hb dX4_count_60 rfl (lv_at hl 0 rfl) ?_
    refine va_get (D := (dC, dI)) (ci := 4) (v := .ref (ad 0)) (C := RX4) (T := TX4) (N := 16) hx hb hts hin0 hown hK hP 0 rfl rfl 0 (by decide) (hts (.fieldLink RX4 7 "MeanLocksModel" "at" "[I") (List.mem_of_getElem? (i := 1) rfl)) (fun _ h9 => h9) rfl dX4_count_61 ?_
    refine lv_iconst (v := (0 : Int32)) hx hb dX4_count_64 (by decide) ?_
    obtain ⟨hi, h0⟩ := ax_some h0
    refine va_iald hx hb hK hP 1 0 rfl rfl hi dX4_count_65 ?_
    have e1 := Option.some.inj h0
    exact x_retI hC hr hlocks rfl hP hD hS dX4_count_66 ⟨e1, rfl⟩
  have h0 := it_f h0 hq0
  by_cases hq1 : (a1 : Int32) = (1 : Int32)
  · have h0 := it_t h0 hq1
    refine lv_tableIn (tgt := 67) hx hb dX4_count_1 (by rw [hq1]; decide) (by rw [hq1]; decide) (off := 66) (by rw [hq1]; rfl) (by decide) ?_
    refine lv_aload_n hx hb dX4_count_67 rfl (lv_at hl 0 rfl) ?_
    refine va_get (D := (dC, dI)) (ci := 4) (v := .ref (ad 0)) (C := RX4) (T := TX4) (N := 16) hx hb hts hin0 hown hK hP 0 rfl rfl 0 (by decide) (hts (.fieldLink RX4 7 "MeanLocksModel" "at" "[I") (List.mem_of_getElem? (i := 1) rfl)) (fun _ h9 => h9) rfl dX4_count_68 ?_
    refine lv_iconst (v := (1 : Int32)) hx hb dX4_count_71 (by decide) ?_
    obtain ⟨hi, h0⟩ := ax_some h0
    refine va_iald hx hb hK hP 1 0 rfl rfl hi dX4_count_72 ?_
    have e1 := Option.some.inj h0
    exact x_retI hC hr hlocks rfl hP hD hS dX4_count_73 ⟨e1, rfl⟩
  have h0 := it_f h0 hq1
  by_cases hq2 : (a1 : Int32) = (2 : Int32)
  · have h0 := it_t h0 hq2
    refine lv_tableIn (tgt := 74) hx hb dX4_count_1 (by rw [hq2]; decide) (by rw [hq2]; decide) (off := 73) (by rw [hq2]; rfl) (by decide) ?_
    refine lv_aload_n hx hb dX4_count_74 rfl (lv_at hl 0 rfl) ?_
    obtain ⟨r1, hf1, h0⟩ := bnd_some h0
    refine x_VI (As := []) (rest := []) hC (kX4_placesTaken l dC dI cA h ad σ r1  hf1) (cwV 0 hts gX4_count_X4_placesTaken rfl rfl rfl (by decide +kernel) ⟨Nat.le_of_ble_eq_true rfl, Nat.le_of_ble_eq_true rfl⟩) 0 4 hV hN hK hP hD hS hA rfl rfl rfl rfl hl.1 rfl (Nat.le_of_ble_eq_true rfl) ⟨Nat.zero_le _, Nat.zero_le _⟩ dX4_count_75 (fun H locs hP hD hS => ?_)
    have e1 := Option.some.inj h0
    exact x_retI hC hr hlocks rfl hP hD hS dX4_count_78 ⟨e1, rfl⟩
  have h0 := it_f h0 hq2
  by_cases hq3 : (a1 : Int32) = (3 : Int32) ∨ (a1 : Int32) = (4 : Int32) ∨ (a1 : Int32) = (5 : Int32)
  · have h0 := it_t h0 hq3
    have hg : W p l e (headSpec wsX4_count rmX4_count).room s m av below meth c H locs 0 0 (MQ below (qI (dC, dI) A R0 (wM cA h ad σ)) av s 0 0 A) (F0 m 79 ls []) := by
      refine lv_aload_n hx hb dX4_count_79 rfl (lv_at hl 0 rfl) ?_
      refine va_get (D := (dC, dI)) (ci := 4) (v := .ref (ad 0)) (C := RX4) (T := TX4) (N := 16) hx hb hts hin0 hown hK hP 0 rfl rfl 0 (by decide) (hts (.fieldLink RX4 7 "MeanLocksModel" "at" "[I") (List.mem_of_getElem? (i := 1) rfl)) (fun _ h9 => h9) rfl dX4_count_80 ?_
      refine lv_iconst (v := (2 : Int32)) hx hb dX4_count_83 (by decide) ?_
      refine lv_iload_n hx hb dX4_count_84 rfl (lv_at hl 1 rfl) ?_
      refine lv_iadd hx hb dX4_count_85 ?_
      refine lv_iconst (v := (3 : Int32)) hx hb dX4_count_86 (by decide) ?_
      refine lv_isub hx hb dX4_count_87 ?_
      obtain ⟨hi, h0⟩ := ax_some h0
      refine va_iald hx hb hK hP 1 0 rfl rfl hi dX4_count_88 ?_
      have e1 := Option.some.inj h0
      exact x_retI hC hr hlocks rfl hP hD hS dX4_count_89 ⟨e1, rfl⟩
    rcases hq3 with hk | hk | hk
    · refine lv_tableIn (tgt := 79) hx hb dX4_count_1 (by rw [hk]; decide) (by rw [hk]; decide) (off := 78) (by rw [hk]; rfl) (by decide) ?_
      exact hg
    · refine lv_tableIn (tgt := 79) hx hb dX4_count_1 (by rw [hk]; decide) (by rw [hk]; decide) (off := 78) (by rw [hk]; rfl) (by decide) ?_
      exact hg
    · refine lv_tableIn (tgt := 79) hx hb dX4_count_1 (by rw [hk]; decide) (by rw [hk]; decide) (off := 78) (by rw [hk]; rfl) (by decide) ?_
      exact hg
  have h0 := it_f h0 hq3
  by_cases hq6 : (a1 : Int32) = (6 : Int32)
  · have h0 := it_t h0 hq6
    refine lv_tableIn (tgt := 90) hx hb dX4_count_1 (by rw [hq6]; decide) (by rw [hq6]; decide) (off := 89) (by rw [hq6]; rfl) (by decide) ?_
    refine lv_aload_n hx hb dX4_count_90 rfl (lv_at hl 0 rfl) ?_
    refine lv_iconst (v := (4 : Int32)) hx hb dX4_count_91 (by decide) ?_
    obtain ⟨r2, hf2, h0⟩ := bnd_some h0
    refine x_VI (As := [.int (4 : Int32)]) (rest := []) hC (kX4_sum l dC dI cA h ad (4 : Int32) σ r2  hf2) (cwV 1 hts gX4_count_X4_sum rfl rfl rfl (by decide +kernel) ⟨Nat.le_of_ble_eq_true rfl, Nat.le_of_ble_eq_true rfl⟩) 0 4 hV hN hK hP hD hS hA rfl rfl rfl rfl hl.1 rfl (Nat.le_of_ble_eq_true rfl) ⟨Nat.zero_le _, Nat.zero_le _⟩ dX4_count_92 (fun H locs hP hD hS => ?_)
    have e1 := Option.some.inj h0
    exact x_retI hC hr hlocks rfl hP hD hS dX4_count_95 ⟨e1, rfl⟩
  have h0 := it_f h0 hq6
  by_cases hq7 : (a1 : Int32) = (7 : Int32)
  · have h0 := it_t h0 hq7
    refine lv_tableIn (tgt := 96) hx hb dX4_count_1 (by rw [hq7]; decide) (by rw [hq7]; decide) (off := 95) (by rw [hq7]; rfl) (by decide) ?_
    refine lv_aload_n hx hb dX4_count_96 rfl (lv_at hl 0 rfl) ?_
    refine va_get (D := (dC, dI)) (ci := 4) (v := .ref (ad 0)) (C := RX4) (T := TX4) (N := 16) hx hb hts hin0 hown hK hP 0 rfl rfl 0 (by decide) (hts (.fieldLink RX4 7 "MeanLocksModel" "at" "[I") (List.mem_of_getElem? (i := 1) rfl)) (fun _ h9 => h9) rfl dX4_count_97 ?_
    refine lv_iconst (v := (5 : Int32)) hx hb dX4_count_100 (by decide) ?_
    obtain ⟨hi, h0⟩ := ax_some h0
    refine va_iald hx hb hK hP 1 0 rfl rfl hi dX4_count_101 ?_
    have e1 := Option.some.inj h0
    exact x_retI hC hr hlocks rfl hP hD hS dX4_count_102 ⟨e1, rfl⟩
  have h0 := it_f h0 hq7
  by_cases hq8 : (a1 : Int32) = (8 : Int32)
  · have h0 := it_t h0 hq8
    refine lv_tableIn (tgt := 103) hx hb dX4_count_1 (by rw [hq8]; decide) (by rw [hq8]; decide) (off := 102) (by rw [hq8]; rfl) (by decide) ?_
    refine lv_aload_n hx hb dX4_count_103 rfl (lv_at hl 0 rfl) ?_
    refine va_get (D := (dC, dI)) (ci := 4) (v := .ref (ad 0)) (C := RX4) (T := TX4) (N := 16) hx hb hts hin0 hown hK hP 0 rfl rfl 0 (by decide) (hts (.fieldLink RX4 7 "MeanLocksModel" "at" "[I") (List.mem_of_getElem? (i := 1) rfl)) (fun _ h9 => h9) rfl dX4_count_104 ?_
    refine lv_bipush (v := (6 : Int32)) hx hb dX4_count_107 (by decide) ?_
    obtain ⟨hi, h0⟩ := ax_some h0
    refine va_iald hx hb hK hP 1 0 rfl rfl hi dX4_count_109 ?_
    have e1 := Option.some.inj h0
    exact x_retI hC hr hlocks rfl hP hD hS dX4_count_110 ⟨e1, rfl⟩
  have h0 := it_f h0 hq8
  by_cases hq9 : (a1 : Int32) = (9 : Int32)
  · have h0 := it_t h0 hq9
    refine lv_tableIn (tgt := 111) hx hb dX4_count_1 (by rw [hq9]; decide) (by rw [hq9]; decide) (off := 110) (by rw [hq9]; rfl) (by decide) ?_
    refine lv_aload_n hx hb dX4_count_111 rfl (lv_at hl 0 rfl) ?_
    refine va_get (D := (dC, dI)) (ci := 4) (v := .int (σ 8 0)) (C := RX4) (T := TX4) (N := 16) hx hb hts hin0 hown hK hP 0 rfl rfl 8 (by decide) (hts (.fieldLink RX4 193 "MeanLocksModel" "padMany" "I") (List.mem_of_getElem? (i := 2) rfl)) (fun _ h9 => h9) rfl dX4_count_112 ?_
    have e1 := Option.some.inj h0
    exact x_retI hC hr hlocks rfl hP hD hS dX4_count_115 ⟨e1, rfl⟩
  have h0 := it_f h0 hq9
  by_cases hq10 : (a1 : Int32) = (10 : Int32)
  · have h0 := it_t h0 hq10
    refine lv_tableIn (tgt := 116) hx hb dX4_count_1 (by rw [hq10]; decide) (by rw [hq10]; decide) (off := 115) (by rw [hq10]; rfl) (by decide) ?_
    refine lv_aload_n hx hb dX4_count_116 rfl (lv_at hl 0 rfl) ?_
    refine va_get (D := (dC, dI)) (ci := 4) (v := .int (σ 3 0)) (C := RX4) (T := TX4) (N := 16) hx hb hts hin0 hown hK hP 0 rfl rfl 3 (by decide) (hts (.fieldLink RX4 45 "MeanLocksModel" "pastMany" "I") (List.mem_of_getElem? (i := 3) rfl)) (fun _ h9 => h9) rfl dX4_count_117 ?_
    have e1 := Option.some.inj h0
    exact x_retI hC hr hlocks rfl hP hD hS dX4_count_120 ⟨e1, rfl⟩
  have h0 := it_f h0 hq10
  have hg : W p l e (headSpec wsX4_count rmX4_count).room s m av below meth c H locs 0 0 (MQ below (qI (dC, dI) A R0 (wM cA h ad σ)) av s 0 0 A) (F0 m 121 ls []) := by
    refine lv_bipush (v := (-2 : Int32)) hx hb dX4_count_121 (by decide) ?_
    have e1 := Option.some.inj h0
    exact x_retI hC hr hlocks rfl hP hD hS dX4_count_123 ⟨e1, rfl⟩
  by_cases hin : 0 ≤ (a1 : Int32).toInt ∧ (a1 : Int32).toInt ≤ 10
  · obtain ⟨k, hk⟩ : ∃ k : Int, (a1 : Int32).toInt = k := ⟨_, rfl⟩
    rw [hk] at hin
    rcases (show k = 0 ∨ k = 1 ∨ k = 2 ∨ k = 3 ∨ k = 4 ∨ k = 5 ∨ k = 6 ∨ k = 7 ∨ k = 8 ∨ k = 9 ∨ k = 10 by omega) with rfl | rfl | rfl | rfl | rfl | rfl | rfl | rfl | rfl | rfl | rfl
    · exact absurd (sw_eq (n := (0 : Int32)) hk rfl) hq0
    · exact absurd (sw_eq (n := (1 : Int32)) hk rfl) hq1
    · exact absurd (sw_eq (n := (2 : Int32)) hk rfl) hq2
    · exact absurd (Or.inl (sw_eq (n := (3 : Int32)) hk rfl)) hq3
    · exact absurd (Or.inr (Or.inl (sw_eq (n := (4 : Int32)) hk rfl))) hq3
    · exact absurd (Or.inr (Or.inr (sw_eq (n := (5 : Int32)) hk rfl))) hq3
    · exact absurd (sw_eq (n := (6 : Int32)) hk rfl) hq6
    · exact absurd (sw_eq (n := (7 : Int32)) hk rfl) hq7
    · exact absurd (sw_eq (n := (8 : Int32)) hk rfl) hq8
    · exact absurd (sw_eq (n := (9 : Int32)) hk rfl) hq9
    · exact absurd (sw_eq (n := (10 : Int32)) hk rfl) hq10
  · exact lv_tableOut (tgt := 121) hx hb dX4_count_1 (by omega) (by decide) hg
def bX4_firstFor_51 (a1 : Int32) (a2 : Int32) (a3 : Int32) (σ : St) (x6 : Int32) (x5 : Int32) : Option ((Int32 × Int32) ⊕ ((Int32 × Int32) ⊕ Int32)) := if (300 : Int32) ≤ x5 then (some (.inr (.inl (x6, x5)))) else (ax (1 : Int32) 2488 (bnd (fX4_stoppedBy a1 a2 x5 (σ 0 ((1 : Int32) : Int32).toNatClampNeg) σ) fun r7 => if (r7 : Int32) = (0 : Int32) then (nm (x6 + (1 : Int32)) fun v9 => if (v9 : Int32) = a3 then (some (.inr (.inr ((x5 + (1 : Int32)) - a3)))) else (nm (x5 + (1 : Int32)) fun v10 => some (.inl (v9, v10)))) else (if ((0 : Int32) : Int32) = a3 then (some (.inr (.inr ((x5 + (1 : Int32)) - a3)))) else (nm (x5 + (1 : Int32)) fun v8 => some (.inl ((0 : Int32), v8))))))
def fX4_firstFor (a1 : Int32) (a2 : Int32) (a3 : Int32) (a4 : Int32) (σ : St) : Option Int32 := bnd (fX4_isOwner a1) fun r1 => if (r1 : Int32) = (0 : Int32) then (some (-1 : Int32)) else (bnd (fX4_in a2 (1 : Int32) (3 : Int32)) fun r2 => if (r2 : Int32) = (0 : Int32) then (some (-2 : Int32)) else (bnd (fX4_in a3 (1 : Int32) (300 : Int32)) fun r3 => if (r3 : Int32) = (0 : Int32) then (some (-2 : Int32)) else (bnd (fX4_in a4 (0 : Int32) (299 : Int32)) fun r4 => if (r4 : Int32) = (0 : Int32) then (some (-2 : Int32)) else (bnd (lp (fun t : (Int32 × Int32) => bX4_firstFor_51 a1 a2 a3 σ t.1 t.2) FU ((0 : Int32), a4)) (fun e0 : ((Int32 × Int32) ⊕ Int32) => el e0 (fun e : (Int32 × Int32) => nm e.1 fun x11 => nm e.2 fun x12 => some (-6 : Int32)) (fun r : Int32 => some r))))))
abbrev rmX4_firstFor : Room := { frames := 3, cells := 0, slots := 0, locals := 74 }
set_option maxHeartbeats 4000000 in
set_option maxRecDepth 100000 in
theorem kX4_firstFor (l : Launch) (dC : Nat → ClassId) (dI : Nat → Nat → Nat) (cA : Nat → ClassId) (h : Nat) (ad : Nat → Nat) (a1 : Int32) (a2 : Int32) (a3 : Int32) (a4 : Int32) (σ : St) (R0 : Int32) (h0 : fX4_firstFor a1 a2 a3 a4 σ = some R0) : CI l yX4_firstFor wsX4_firstFor rmX4_firstFor (dC, dI) vwCl (tysW cA) [.ref h, .int a1, .int a2, .int a3, .int a4] (wM cA h ad σ) R0 (wM cA h ad σ) := by
  refine CGI_of (cc := cX4_firstFor) (nL := 7) (ret := (some .int)) (by decide) rfl (Nat.le_of_ble_eq_true rfl) ?_
  intro p e s m av below meth c A ls H locs hC hl
  obtain ⟨hC, hr, hlocks, hV, hN, hK, hP, hD, hS, hA⟩ := hC
  have hC : CallFix p m c cX4_firstFor 7 s _ wsX4_firstFor RX4 := hC
  obtain ⟨hx, hb, hml, hown, hts⟩ := id hC
  have hin0 : ∀ w ∈ u_ws RX4 TX4 16, w ∈ wsX4_firstFor := fun _ h => (List.mem_cons_of_mem _ (List.mem_append_right _ h))
  have hl : lv_has ls 7 [(0, .ref h), (1, .int a1), (2, .int a2), (3, .int a3), (4, .int a4)] := hl
  unfold fX4_firstFor at h0
  refine lv_iload_n hx hb dX4_firstFor_0 rfl (lv_at hl 1 rfl) ?_
  obtain ⟨r1, hf1, h0⟩ := bnd_some h0
  refine x_SI (As := [.int a1]) (rest := []) hC (kX4_isOwner l dC dI cA a1 r1 hf1) (cwS 1 hts gX4_firstFor_X4_isOwner rfl rfl rfl (by decide +kernel) ⟨Nat.le_of_ble_eq_true rfl, Nat.le_of_ble_eq_true rfl⟩) hV hN hK hP hD hS hA rfl hl.1 rfl (Nat.le_of_ble_eq_true rfl) ⟨Nat.zero_le _, Nat.zero_le _⟩ dX4_firstFor_1 (fun H locs hP hD hS => ?_)
  refine lv_if_ne (tgt := 9) hx hb dX4_firstFor_4 (by decide) (fun hc => ?_) (fun hc => ?_)
  · have h0 := it_f h0 hc
    refine lv_iload_n hx hb dX4_firstFor_9 rfl (lv_at hl 2 rfl) ?_
    refine lv_iconst (v := (1 : Int32)) hx hb dX4_firstFor_10 (by decide) ?_
    refine lv_iconst (v := (3 : Int32)) hx hb dX4_firstFor_11 (by decide) ?_
    obtain ⟨r2, hf2, h0⟩ := bnd_some h0
    refine x_SI (As := [.int a2, .int (1 : Int32), .int (3 : Int32)]) (rest := []) hC (kX4_in l dC dI cA a2 (1 : Int32) (3 : Int32) r2 hf2) (cwS 3 hts gX4_firstFor_X4_in rfl rfl rfl (by decide +kernel) ⟨Nat.le_of_ble_eq_true rfl, Nat.le_of_ble_eq_true rfl⟩) hV hN hK hP hD hS hA rfl hl.1 rfl (Nat.le_of_ble_eq_true rfl) ⟨Nat.zero_le _, Nat.zero_le _⟩ dX4_firstFor_12 (fun H locs hP hD hS => ?_)
    refine lv_if_eq (tgt := 41) hx hb dX4_firstFor_15 (by decide) (fun hc => ?_) (fun hc => ?_)
    · have h0 := it_t h0 hc
      refine lv_bipush (v := (-2 : Int32)) hx hb dX4_firstFor_41 (by decide) ?_
      have e1 := Option.some.inj h0
      exact x_retI hC hr hlocks rfl hP hD hS dX4_firstFor_43 ⟨e1, rfl⟩
    · have h0 := it_f h0 hc
      refine lv_iload_n hx hb dX4_firstFor_18 rfl (lv_at hl 3 rfl) ?_
      refine lv_iconst (v := (1 : Int32)) hx hb dX4_firstFor_19 (by decide) ?_
      refine lv_sipush (v := (300 : Int32)) hx hb dX4_firstFor_20 (by decide) ?_
      obtain ⟨r3, hf3, h0⟩ := bnd_some h0
      refine x_SI (As := [.int a3, .int (1 : Int32), .int (300 : Int32)]) (rest := []) hC (kX4_in l dC dI cA a3 (1 : Int32) (300 : Int32) r3 hf3) (cwS 3 hts gX4_firstFor_X4_in rfl rfl rfl (by decide +kernel) ⟨Nat.le_of_ble_eq_true rfl, Nat.le_of_ble_eq_true rfl⟩) hV hN hK hP hD hS hA rfl hl.1 rfl (Nat.le_of_ble_eq_true rfl) ⟨Nat.zero_le _, Nat.zero_le _⟩ dX4_firstFor_23 (fun H locs hP hD hS => ?_)
      refine lv_if_eq (tgt := 41) hx hb dX4_firstFor_26 (by decide) (fun hc => ?_) (fun hc => ?_)
      · have h0 := it_t h0 hc
        refine lv_bipush (v := (-2 : Int32)) hx hb dX4_firstFor_41 (by decide) ?_
        have e1 := Option.some.inj h0
        exact x_retI hC hr hlocks rfl hP hD hS dX4_firstFor_43 ⟨e1, rfl⟩
      · have h0 := it_f h0 hc
        refine lv_iload hx hb dX4_firstFor_29 (lv_at hl 4 rfl) ?_
        refine lv_iconst (v := (0 : Int32)) hx hb dX4_firstFor_31 (by decide) ?_
        refine lv_sipush (v := (299 : Int32)) hx hb dX4_firstFor_32 (by decide) ?_
        obtain ⟨r4, hf4, h0⟩ := bnd_some h0
        refine x_SI (As := [.int a4, .int (0 : Int32), .int (299 : Int32)]) (rest := []) hC (kX4_in l dC dI cA a4 (0 : Int32) (299 : Int32) r4 hf4) (cwS 3 hts gX4_firstFor_X4_in rfl rfl rfl (by decide +kernel) ⟨Nat.le_of_ble_eq_true rfl, Nat.le_of_ble_eq_true rfl⟩) hV hN hK hP hD hS hA rfl hl.1 rfl (Nat.le_of_ble_eq_true rfl) ⟨Nat.zero_le _, Nat.zero_le _⟩ dX4_firstFor_35 (fun H locs hP hD hS => ?_)
        refine lv_if_ne (tgt := 44) hx hb dX4_firstFor_38 (by decide) (fun hc => ?_) (fun hc => ?_)
        · have h0 := it_f h0 hc
          refine lv_iconst (v := (0 : Int32)) hx hb dX4_firstFor_44 (by decide) ?_
          refine lv_istore (lv' := [(5, .int (0 : Int32)), (0, .ref h), (1, .int a1), (2, .int a2), (3, .int a3), (4, .int a4)]) hx hb dX4_firstFor_45 hl (by decide) rfl (fun ls hl => ?_)
          refine lv_iload hx hb dX4_firstFor_47 (lv_at hl 5 rfl) ?_
          refine lv_istore (lv' := [(6, .int a4), (5, .int (0 : Int32)), (0, .ref h), (1, .int a1), (2, .int a2), (3, .int a3), (4, .int a4)]) hx hb dX4_firstFor_49 hl (by decide) rfl (fun ls hl => ?_)
          obtain ⟨ε5, hl5, h0⟩ := bnd_some h0
          have KN5 : ∀ (x11 : Int32) (x12 : Int32), ε5 = .inl (x11, x12) → ∀ (H : Heap) (locs : List Loc), va_P (dC, dI) vwCl (wM cA h ad σ) H → va_D A (wM cA h ad σ) → va_S A s.heap H locs → ∀ (ls : Array Slot), lv_has ls 7 [(6, .int x12), (5, .int x11), (0, .ref h), (1, .int a1), (2, .int a2), (3, .int a3), (4, .int a4)] → W p l e (headSpec wsX4_firstFor rmX4_firstFor).room s m av below meth c H locs 0 0 (MQ below (qI (dC, dI) A R0 (wM cA h ad σ)) av s 0 0 A) (F0 m 105 ls []) := by
            intro x11 x12 hε H locs hP hD hS ls hl
            rw [hε] at h0
            have h0 := el_l h0
            have h0 := nm_at (z := x11) rfl h0
            have h0 := nm_at (z := x12) rfl h0
            refine lv_bipush (v := (-6 : Int32)) hx hb dX4_firstFor_105 (by decide) ?_
            have e1 := Option.some.inj h0
            exact x_retI hC hr hlocks rfl hP hD hS dX4_firstFor_107 ⟨e1, rfl⟩
          have LP5 : ∀ (n : Nat) (x6 : Int32) (x5 : Int32), lp (fun t : (Int32 × Int32) => bX4_firstFor_51 a1 a2 a3 σ t.1 t.2) n (x6, x5) = some ε5 → ∀ (H : Heap) (locs : List Loc), va_P (dC, dI) vwCl (wM cA h ad σ) H → va_D A (wM cA h ad σ) → va_S A s.heap H locs → ∀ (ls : Array Slot), lv_has ls 7 [(6, .int x5), (5, .int x6), (0, .ref h), (1, .int a1), (2, .int a2), (3, .int a3), (4, .int a4)] → W p l e (headSpec wsX4_firstFor rmX4_firstFor).room s m av below meth c H locs 0 0 (MQ below (qI (dC, dI) A R0 (wM cA h ad σ)) av s 0 0 A) (F0 m 51 ls []) := by
            intro n
            induction n with
            | zero => intro x6 x5 hl0; exact (lp_0 hl0).elim
            | succ n ih5 =>
              intro x6 x5 hl0 H locs hP hD hS ls hl
              obtain ⟨z5, h1, hz5⟩ := lp_s hl0
              have h1 : bX4_firstFor_51 a1 a2 a3 σ x6 x5 = some z5 := h1
              unfold bX4_firstFor_51 at h1
              refine lv_iload hx hb dX4_firstFor_51 (lv_at hl 0 rfl) ?_
              refine lv_sipush (v := (300 : Int32)) hx hb dX4_firstFor_53 (by decide) ?_
              refine lv_icmp_ge (tgt := 105) hx hb dX4_firstFor_56 (by decide) (fun hc => ?_) (fun hc => ?_)
              · have h1 := it_t h1 hc
                have he := lp_r h1 hz5
                exact KN5 x6 x5 he _ _ hP hD hS ls (lv_sub hl [0, 1, 2, 3, 4, 5, 6] rfl)
              · have h1 := it_f h1 hc
                refine lv_aload_n hx hb dX4_firstFor_59 rfl (lv_at hl 2 rfl) ?_
                refine lv_iload_n hx hb dX4_firstFor_60 rfl (lv_at hl 3 rfl) ?_
                refine lv_iload_n hx hb dX4_firstFor_61 rfl (lv_at hl 4 rfl) ?_
                refine lv_iload hx hb dX4_firstFor_62 (lv_at hl 0 rfl) ?_
                refine lv_aload_n hx hb dX4_firstFor_64 rfl (lv_at hl 2 rfl) ?_
                refine va_get (D := (dC, dI)) (ci := 4) (v := .ref (ad 0)) (C := RX4) (T := TX4) (N := 16) hx hb hts hin0 hown hK hP 0 rfl rfl 0 (by decide) (hts (.fieldLink RX4 7 "MeanLocksModel" "at" "[I") (List.mem_of_getElem? (i := 1) rfl)) (fun _ h9 => h9) rfl dX4_firstFor_65 ?_
                refine lv_iconst (v := (1 : Int32)) hx hb dX4_firstFor_68 (by decide) ?_
                obtain ⟨hi, h1⟩ := ax_some h1
                refine va_iald hx hb hK hP 1 0 rfl rfl hi dX4_firstFor_69 ?_
                obtain ⟨r7, hf6, h1⟩ := bnd_some h1
                refine x_VI (As := [.int a1, .int a2, .int x5, .int (σ 0 ((1 : Int32) : Int32).toNatClampNeg)]) (rest := []) hC (kX4_stoppedBy l dC dI cA h ad a1 a2 x5 (σ 0 ((1 : Int32) : Int32).toNatClampNeg) σ r7  hf6) (cwV 4 hts gX4_firstFor_X4_stoppedBy rfl rfl rfl (by decide +kernel) ⟨Nat.le_of_ble_eq_true rfl, Nat.le_of_ble_eq_true rfl⟩) 0 4 hV hN hK hP hD hS hA rfl rfl rfl rfl hl.1 rfl (Nat.le_of_ble_eq_true rfl) ⟨Nat.zero_le _, Nat.zero_le _⟩ dX4_firstFor_70 (fun H locs hP hD hS => ?_)
                refine lv_if_ne (tgt := 83) hx hb dX4_firstFor_73 (by decide) (fun hc => ?_) (fun hc => ?_)
                · have h1 := it_f h1 hc
                  refine lv_iconst (v := (0 : Int32)) hx hb dX4_firstFor_83 (by decide) ?_
                  refine lv_istore (lv' := [(5, .int (0 : Int32)), (6, .int x5), (0, .ref h), (1, .int a1), (2, .int a2), (3, .int a3), (4, .int a4)]) hx hb dX4_firstFor_84 hl (by decide) rfl (fun ls hl => ?_)
                  refine lv_iload hx hb dX4_firstFor_86 (lv_at hl 0 rfl) ?_
                  refine lv_iload_n hx hb dX4_firstFor_88 rfl (lv_at hl 5 rfl) ?_
                  refine lv_icmp_ne (tgt := 99) hx hb dX4_firstFor_89 (by decide) (fun hc => ?_) (fun hc => ?_)
                  · have h1 := it_f h1 hc
                    obtain ⟨v8, ev8, h1⟩ := nm_some h1
                    refine lv_iinc (v := v8) (lv' := [(6, .int v8), (5, .int (0 : Int32)), (0, .ref h), (1, .int a1), (2, .int a2), (3, .int a3), (4, .int a4)]) hx hb dX4_firstFor_99 hl (k := 1) rfl (by rw [ev8]; rfl) (by decide) rfl (fun ls hl => ?_)
                    refine lv_goto (tgt := 51) hx hb dX4_firstFor_102 (by decide) ?_
                    have hc := lp_l h1 hz5
                    exact ih5 (0 : Int32) v8 hc _ _ hP hD hS ls (lv_sub hl [0, 1, 2, 3, 4, 5, 6] rfl)
                  · have h1 := it_t h1 hc
                    refine lv_iload hx hb dX4_firstFor_92 (lv_at hl 1 rfl) ?_
                    refine lv_iconst (v := (1 : Int32)) hx hb dX4_firstFor_94 (by decide) ?_
                    refine lv_iadd hx hb dX4_firstFor_95 ?_
                    refine lv_iload_n hx hb dX4_firstFor_96 rfl (lv_at hl 5 rfl) ?_
                    refine lv_isub hx hb dX4_firstFor_97 ?_
                    have he := lp_r h1 hz5
                    rw [he] at h0
                    have h0 := el_r h0
                    have e1 := Option.some.inj h0
                    exact x_retI hC hr hlocks rfl hP hD hS dX4_firstFor_98 ⟨e1, rfl⟩
                · have h1 := it_t h1 hc
                  refine lv_iload hx hb dX4_firstFor_76 (lv_at hl 1 rfl) ?_
                  refine lv_iconst (v := (1 : Int32)) hx hb dX4_firstFor_78 (by decide) ?_
                  refine lv_iadd hx hb dX4_firstFor_79 ?_
                  refine lv_goto (tgt := 84) hx hb dX4_firstFor_80 (by decide) ?_
                  refine lv_topi (fun v9 ev9 => ?_)
                  have h1 := nm_at ev9 h1
                  refine lv_istore (lv' := [(5, .int v9), (6, .int x5), (0, .ref h), (1, .int a1), (2, .int a2), (3, .int a3), (4, .int a4)]) hx hb dX4_firstFor_84 hl (by decide) rfl (fun ls hl => ?_)
                  refine lv_iload hx hb dX4_firstFor_86 (lv_at hl 0 rfl) ?_
                  refine lv_iload_n hx hb dX4_firstFor_88 rfl (lv_at hl 5 rfl) ?_
                  refine lv_icmp_ne (tgt := 99) hx hb dX4_firstFor_89 (by decide) (fun hc => ?_) (fun hc => ?_)
                  · have h1 := it_f h1 hc
                    obtain ⟨v10, ev10, h1⟩ := nm_some h1
                    refine lv_iinc (v := v10) (lv' := [(6, .int v10), (5, .int v9), (0, .ref h), (1, .int a1), (2, .int a2), (3, .int a3), (4, .int a4)]) hx hb dX4_firstFor_99 hl (k := 1) rfl (by rw [ev10]; rfl) (by decide) rfl (fun ls hl => ?_)
                    refine lv_goto (tgt := 51) hx hb dX4_firstFor_102 (by decide) ?_
                    have hc := lp_l h1 hz5
                    exact ih5 v9 v10 hc _ _ hP hD hS ls (lv_sub hl [0, 1, 2, 3, 4, 5, 6] rfl)
                  · have h1 := it_t h1 hc
                    refine lv_iload hx hb dX4_firstFor_92 (lv_at hl 1 rfl) ?_
                    refine lv_iconst (v := (1 : Int32)) hx hb dX4_firstFor_94 (by decide) ?_
                    refine lv_iadd hx hb dX4_firstFor_95 ?_
                    refine lv_iload_n hx hb dX4_firstFor_96 rfl (lv_at hl 5 rfl) ?_
                    refine lv_isub hx hb dX4_firstFor_97 ?_
                    have he := lp_r h1 hz5
                    rw [he] at h0
                    have h0 := el_r h0
                    have e1 := Option.some.inj h0
                    exact x_retI hC hr hlocks rfl hP hD hS dX4_firstFor_98 ⟨e1, rfl⟩
          exact LP5 FU (0 : Int32) a4 hl5 _ _ hP hD hS ls hl
        · have h0 := it_t h0 hc
          refine lv_bipush (v := (-2 : Int32)) hx hb dX4_firstFor_41 (by decide) ?_
          have e1 := Option.some.inj h0
          exact x_retI hC hr hlocks rfl hP hD hS dX4_firstFor_43 ⟨e1, rfl⟩
  · have h0 := it_t h0 hc
    refine lv_iconst (v := (-1 : Int32)) hx hb dX4_firstFor_7 (by decide) ?_
    have e1 := Option.some.inj h0
    exact x_retI hC hr hlocks rfl hP hD hS dX4_firstFor_8 ⟨e1, rfl⟩
def fX4_free (a1 : Int32) (a2 : Int32) (a3 : Int32) (σ : St) : Option (Int32 × St) := bn2 (fX4_tryFree a1 a2 a3 (1 : Int32) σ) fun r1 s2 => some (r1, s2)
abbrev rmX4_free : Room := { frames := 8, cells := 0, slots := 0, locals := 192 }
set_option maxHeartbeats 4000000 in
set_option maxRecDepth 100000 in
theorem kX4_free (l : Launch) (dC : Nat → ClassId) (dI : Nat → Nat → Nat) (cA : Nat → ClassId) (h : Nat) (ad : Nat → Nat) (a1 : Int32) (a2 : Int32) (a3 : Int32) (σ : St) (R0 : Int32) (σ' : St) (h0 : fX4_free a1 a2 a3 σ = some (R0, σ')) : CI l yX4_free wsX4_free rmX4_free (dC, dI) vwCl (tysW cA) [.ref h, .int a1, .int a2, .int a3] (wM cA h ad σ) R0 (wM cA h ad σ') := by
  refine CGI_of (cc := cX4_free) (nL := 4) (ret := (some .int)) (by decide) rfl (Nat.le_of_ble_eq_true rfl) ?_
  intro p e s m av below meth c A ls H locs hC hl
  obtain ⟨hC, hr, hlocks, hV, hN, hK, hP, hD, hS, hA⟩ := hC
  have hC : CallFix p m c cX4_free 4 s _ wsX4_free RX4 := hC
  obtain ⟨hx, hb, hml, hown, hts⟩ := id hC
  have hin0 : ∀ w ∈ u_ws RX4 TX4 16, w ∈ wsX4_free := fun _ h => (List.mem_cons_of_mem _ (List.mem_append_right _ h))
  have hl : lv_has ls 4 [(0, .ref h), (1, .int a1), (2, .int a2), (3, .int a3)] := hl
  unfold fX4_free at h0
  refine lv_aload_n hx hb dX4_free_0 rfl (lv_at hl 0 rfl) ?_
  refine lv_iload_n hx hb dX4_free_1 rfl (lv_at hl 1 rfl) ?_
  refine lv_iload_n hx hb dX4_free_2 rfl (lv_at hl 2 rfl) ?_
  refine lv_iload_n hx hb dX4_free_3 rfl (lv_at hl 3 rfl) ?_
  refine lv_iconst (v := (1 : Int32)) hx hb dX4_free_4 (by decide) ?_
  obtain ⟨r1, s2, hf1, h0⟩ := bn2_some h0
  refine x_VI (As := [.int a1, .int a2, .int a3, .int (1 : Int32)]) (rest := []) hC (kX4_tryFree l dC dI cA h ad a1 a2 a3 (1 : Int32) σ r1 s2 hf1) (cwV 4 hts gX4_free_X4_tryFree rfl rfl rfl (by decide +kernel) ⟨Nat.le_of_ble_eq_true rfl, Nat.le_of_ble_eq_true rfl⟩) 0 4 hV hN hK hP hD hS hA rfl rfl rfl rfl hl.1 rfl (Nat.le_of_ble_eq_true rfl) ⟨Nat.zero_le _, Nat.zero_le _⟩ dX4_free_5 (fun H locs hP hD hS => ?_)
  obtain ⟨e1, e2⟩ := Prod.mk.inj (Option.some.inj h0)
  exact x_retI hC hr hlocks rfl hP hD hS dX4_free_8 ⟨e1, by rw [← e2]⟩
def bX4_layAside_2  (x1 : Int32) (s2 : St) : Option ((Int32 × St) ⊕ (Int32 × St)) := if (2488 : Int32) ≤ x1 then (some (.inr (x1, s2))) else (ax x1 2488 (ax x1 2488 (nm (put s2 6 (upd (s2 6) (x1 : Int32).toNatClampNeg (s2 0 (x1 : Int32).toNatClampNeg))) fun s3 => nm (x1 + (1 : Int32)) fun v4 => some (.inl (v4, s3)))))
def fX4_layAside (σ : St) : Option St := bnd (lp (fun t : (Int32 × St) => bX4_layAside_2  t.1 t.2) FU ((0 : Int32), σ)) (fun e : (Int32 × St) => nm e.1 fun x5 => nm e.2 fun s6 => some s6)
abbrev rmX4_layAside : Room := { frames := 0, cells := 0, slots := 0, locals := 0 }
set_option maxHeartbeats 4000000 in
set_option maxRecDepth 100000 in
theorem kX4_layAside (l : Launch) (dC : Nat → ClassId) (dI : Nat → Nat → Nat) (cA : Nat → ClassId) (h : Nat) (ad : Nat → Nat) (σ : St) (σ' : St) (h0 : fX4_layAside σ = some σ') : CV l yX4_layAside wsX4_layAside rmX4_layAside (dC, dI) vwCl (tysW cA) [.ref h] (wM cA h ad σ) (wM cA h ad σ') := by
  refine CGV_of (cc := cX4_layAside) (nL := 2) (ret := none) (by decide) rfl (Nat.le_of_ble_eq_true rfl) ?_
  intro p e s m av below meth c A ls H locs hC hl
  obtain ⟨hC, hr, hlocks, hV, hN, hK, hP, hD, hS, hA⟩ := hC
  have hC : CallFix p m c cX4_layAside 2 s _ wsX4_layAside RX4 := hC
  obtain ⟨hx, hb, hml, hown, hts⟩ := id hC
  have hin0 : ∀ w ∈ u_ws RX4 TX4 16, w ∈ wsX4_layAside := fun _ h => (List.mem_cons_of_mem _ (List.mem_append_right _ h))
  have hl : lv_has ls 2 [(0, .ref h)] := hl
  unfold fX4_layAside at h0
  refine lv_iconst (v := (0 : Int32)) hx hb dX4_layAside_0 (by decide) ?_
  refine lv_istore_n (lv' := [(1, .int (0 : Int32)), (0, .ref h)]) hx hb dX4_layAside_1 rfl hl (by decide) rfl (fun ls hl => ?_)
  obtain ⟨ε1, hl1, h0⟩ := bnd_some h0
  have KN1 : ∀ (x5 : Int32) (s6 : St), ε1 = (x5, s6) → ∀ (H : Heap) (locs : List Loc), va_P (dC, dI) vwCl (wM cA h ad s6) H → va_D A (wM cA h ad s6) → va_S A s.heap H locs → ∀ (ls : Array Slot), lv_has ls 2 [(1, .int x5), (0, .ref h)] → W p l e (headSpec wsX4_layAside rmX4_layAside).room s m av below meth c H locs 0 0 (MQ below (qV (dC, dI) A (wM cA h ad σ')) av s 0 0 A) (F0 m 27 ls []) := by
    intro x5 s6 hε H locs hP hD hS ls hl
    rw [hε] at h0
    have h0 := nm_at (z := x5) rfl h0
    have h0 := nm_at (z := s6) rfl h0
    have e1 := Option.some.inj h0
    exact x_retV hC hr hlocks hP hD hS dX4_layAside_27 (by rw [← e1])
  have LP1 : ∀ (n : Nat) (x1 : Int32) (s2 : St), lp (fun t : (Int32 × St) => bX4_layAside_2  t.1 t.2) n (x1, s2) = some ε1 → ∀ (H : Heap) (locs : List Loc), va_P (dC, dI) vwCl (wM cA h ad s2) H → va_D A (wM cA h ad s2) → va_S A s.heap H locs → ∀ (ls : Array Slot), lv_has ls 2 [(1, .int x1), (0, .ref h)] → W p l e (headSpec wsX4_layAside rmX4_layAside).room s m av below meth c H locs 0 0 (MQ below (qV (dC, dI) A (wM cA h ad σ')) av s 0 0 A) (F0 m 2 ls []) := by
    intro n
    induction n with
    | zero => intro x1 s2 hl0; exact (lp_0 hl0).elim
    | succ n ih1 =>
      intro x1 s2 hl0 H locs hP hD hS ls hl
      obtain ⟨z1, h1, hz1⟩ := lp_s hl0
      have h1 : bX4_layAside_2  x1 s2 = some z1 := h1
      unfold bX4_layAside_2 at h1
      refine lv_iload_n hx hb dX4_layAside_2 rfl (lv_at hl 0 rfl) ?_
      refine lv_sipush (v := (2488 : Int32)) hx hb dX4_layAside_3 (by decide) ?_
      refine lv_icmp_ge (tgt := 27) hx hb dX4_layAside_6 (by decide) (fun hc => ?_) (fun hc => ?_)
      · have h1 := it_t h1 hc
        have he := lp_r h1 hz1
        exact KN1 x1 s2 he _ _ hP hD hS ls (lv_sub hl [0, 1] rfl)
      · have h1 := it_f h1 hc
        refine lv_aload_n hx hb dX4_layAside_9 rfl (lv_at hl 1 rfl) ?_
        refine va_get (D := (dC, dI)) (ci := 4) (v := .ref (ad 6)) (C := RX4) (T := TX4) (N := 16) hx hb hts hin0 hown hK hP 0 rfl rfl 6 (by decide) (hts (.fieldLink RX4 23 "MeanLocksModel" "aside" "[I") (List.mem_of_getElem? (i := 1) rfl)) (fun _ h9 => h9) rfl dX4_layAside_10 ?_
        refine lv_iload_n hx hb dX4_layAside_13 rfl (lv_at hl 0 rfl) ?_
        refine lv_aload_n hx hb dX4_layAside_14 rfl (lv_at hl 1 rfl) ?_
        refine va_get (D := (dC, dI)) (ci := 4) (v := .ref (ad 0)) (C := RX4) (T := TX4) (N := 16) hx hb hts hin0 hown hK hP 0 rfl rfl 0 (by decide) (hts (.fieldLink RX4 7 "MeanLocksModel" "at" "[I") (List.mem_of_getElem? (i := 2) rfl)) (fun _ h9 => h9) rfl dX4_layAside_15 ?_
        refine lv_iload_n hx hb dX4_layAside_18 rfl (lv_at hl 0 rfl) ?_
        obtain ⟨hi, h1⟩ := ax_some h1
        refine va_iald hx hb hK hP 1 0 rfl rfl hi dX4_layAside_19 ?_
        obtain ⟨hi, h1⟩ := ax_some h1
        obtain ⟨s3, es3, h1⟩ := nm_some h1
        refine x_iast (ws' := wM cA h ad s3) hC hK hP hD hS 5 0 rfl rfl (by rw [es3]; exact wM_s6 _ _ _ _ _) hi dX4_layAside_20 (fun H locs hP hD hS => ?_)
        obtain ⟨v4, ev4, h1⟩ := nm_some h1
        refine lv_iinc (v := v4) (lv' := [(1, .int v4), (0, .ref h)]) hx hb dX4_layAside_21 hl (k := 0) rfl (by rw [ev4]; rfl) (by decide) rfl (fun ls hl => ?_)
        refine lv_goto (tgt := 2) hx hb dX4_layAside_24 (by decide) ?_
        have hc := lp_l h1 hz1
        exact ih1 v4 s3 hc _ _ hP hD hS ls (lv_sub hl [0, 1] rfl)
  exact LP1 FU (0 : Int32) σ hl1 _ _ hP hD hS ls hl
def bX4_waitingNow_4 (σ : St) (x2 : Int32) (x1 : Int32) : Option ((Int32 × Int32) ⊕ (Int32 × Int32)) := if (8 : Int32) ≤ x1 then (some (.inr (x2, x1))) else (bnd (fX4_of x1 (0 : Int32) σ) fun r3 => if (r3 : Int32) ≤ (0 : Int32) then (nm (x2 ||| (0 : Int32)) fun v4 => nm (x1 + (1 : Int32)) fun v5 => some (.inl (v4, v5))) else (nm (x2 ||| ((1 : Int32) <<< (x1 &&& 31))) fun v6 => nm (x1 + (1 : Int32)) fun v7 => some (.inl (v6, v7))))
def fX4_waitingNow (σ : St) : Option Int32 := bnd (lp (fun t : (Int32 × Int32) => bX4_waitingNow_4 σ t.1 t.2) FU ((0 : Int32), (0 : Int32))) (fun e : (Int32 × Int32) => nm e.1 fun x8 => nm e.2 fun x9 => some x8)
abbrev rmX4_waitingNow : Room := { frames := 1, cells := 0, slots := 0, locals := 22 }
set_option maxHeartbeats 4000000 in
set_option maxRecDepth 100000 in
theorem kX4_waitingNow (l : Launch) (dC : Nat → ClassId) (dI : Nat → Nat → Nat) (cA : Nat → ClassId) (h : Nat) (ad : Nat → Nat) (σ : St) (R0 : Int32) (h0 : fX4_waitingNow σ = some R0) : CI l yX4_waitingNow wsX4_waitingNow rmX4_waitingNow (dC, dI) vwCl (tysW cA) [.ref h] (wM cA h ad σ) R0 (wM cA h ad σ) := by
  refine CGI_of (cc := cX4_waitingNow) (nL := 3) (ret := (some .int)) (by decide) rfl (Nat.le_of_ble_eq_true rfl) ?_
  intro p e s m av below meth c A ls H locs hC hl
  obtain ⟨hC, hr, hlocks, hV, hN, hK, hP, hD, hS, hA⟩ := hC
  have hC : CallFix p m c cX4_waitingNow 3 s _ wsX4_waitingNow RX4 := hC
  obtain ⟨hx, hb, hml, hown, hts⟩ := id hC
  have hin0 : ∀ w ∈ u_ws RX4 TX4 16, w ∈ wsX4_waitingNow := fun _ h => (List.mem_cons_of_mem _ (List.mem_append_right _ h))
  have hl : lv_has ls 3 [(0, .ref h)] := hl
  unfold fX4_waitingNow at h0
  refine lv_iconst (v := (0 : Int32)) hx hb dX4_waitingNow_0 (by decide) ?_
  refine lv_istore_n (lv' := [(1, .int (0 : Int32)), (0, .ref h)]) hx hb dX4_waitingNow_1 rfl hl (by decide) rfl (fun ls hl => ?_)
  refine lv_iconst (v := (0 : Int32)) hx hb dX4_waitingNow_2 (by decide) ?_
  refine lv_istore_n (lv' := [(2, .int (0 : Int32)), (1, .int (0 : Int32)), (0, .ref h)]) hx hb dX4_waitingNow_3 rfl hl (by decide) rfl (fun ls hl => ?_)
  obtain ⟨ε1, hl1, h0⟩ := bnd_some h0
  have KN1 : ∀ (x8 : Int32) (x9 : Int32), ε1 = (x8, x9) → ∀ (H : Heap) (locs : List Loc), va_P (dC, dI) vwCl (wM cA h ad σ) H → va_D A (wM cA h ad σ) → va_S A s.heap H locs → ∀ (ls : Array Slot), lv_has ls 3 [(2, .int x9), (1, .int x8), (0, .ref h)] → W p l e (headSpec wsX4_waitingNow rmX4_waitingNow).room s m av below meth c H locs 0 0 (MQ below (qI (dC, dI) A R0 (wM cA h ad σ)) av s 0 0 A) (F0 m 35 ls []) := by
    intro x8 x9 hε H locs hP hD hS ls hl
    rw [hε] at h0
    have h0 := nm_at (z := x8) rfl h0
    have h0 := nm_at (z := x9) rfl h0
    refine lv_iload_n hx hb dX4_waitingNow_35 rfl (lv_at hl 1 rfl) ?_
    have e1 := Option.some.inj h0
    exact x_retI hC hr hlocks rfl hP hD hS dX4_waitingNow_36 ⟨e1, rfl⟩
  have LP1 : ∀ (n : Nat) (x2 : Int32) (x1 : Int32), lp (fun t : (Int32 × Int32) => bX4_waitingNow_4 σ t.1 t.2) n (x2, x1) = some ε1 → ∀ (H : Heap) (locs : List Loc), va_P (dC, dI) vwCl (wM cA h ad σ) H → va_D A (wM cA h ad σ) → va_S A s.heap H locs → ∀ (ls : Array Slot), lv_has ls 3 [(2, .int x1), (1, .int x2), (0, .ref h)] → W p l e (headSpec wsX4_waitingNow rmX4_waitingNow).room s m av below meth c H locs 0 0 (MQ below (qI (dC, dI) A R0 (wM cA h ad σ)) av s 0 0 A) (F0 m 4 ls []) := by
    intro n
    induction n with
    | zero => intro x2 x1 hl0; exact (lp_0 hl0).elim
    | succ n ih1 =>
      intro x2 x1 hl0 H locs hP hD hS ls hl
      obtain ⟨z1, h1, hz1⟩ := lp_s hl0
      have h1 : bX4_waitingNow_4 σ x2 x1 = some z1 := h1
      unfold bX4_waitingNow_4 at h1
      refine lv_iload_n hx hb dX4_waitingNow_4 rfl (lv_at hl 0 rfl) ?_
      refine lv_bipush (v := (8 : Int32)) hx hb dX4_waitingNow_5 (by decide) ?_
      refine lv_icmp_ge (tgt := 35) hx hb dX4_waitingNow_7 (by decide) (fun hc => ?_) (fun hc => ?_)
      · have h1 := it_t h1 hc
        have he := lp_r h1 hz1
        exact KN1 x2 x1 he _ _ hP hD hS ls (lv_sub hl [0, 1, 2] rfl)
      · have h1 := it_f h1 hc
        refine lv_iload_n hx hb dX4_waitingNow_10 rfl (lv_at hl 1 rfl) ?_
        refine lv_aload_n hx hb dX4_waitingNow_11 rfl (lv_at hl 2 rfl) ?_
        refine lv_iload_n hx hb dX4_waitingNow_12 rfl (lv_at hl 0 rfl) ?_
        refine lv_iconst (v := (0 : Int32)) hx hb dX4_waitingNow_13 (by decide) ?_
        obtain ⟨r3, hf2, h1⟩ := bnd_some h1
        refine x_VI (As := [.int x1, .int (0 : Int32)]) (rest := [.int x2]) hC (kX4_of l dC dI cA h ad x1 (0 : Int32) σ r3  hf2) (cwV 2 hts gX4_waitingNow_X4_of rfl rfl rfl (by decide +kernel) ⟨Nat.le_of_ble_eq_true rfl, Nat.le_of_ble_eq_true rfl⟩) 0 4 hV hN hK hP hD hS hA rfl rfl rfl rfl hl.1 rfl (Nat.le_of_ble_eq_true rfl) ⟨Nat.zero_le _, Nat.zero_le _⟩ dX4_waitingNow_14 (fun H locs hP hD hS => ?_)
        refine lv_if_le (tgt := 26) hx hb dX4_waitingNow_17 (by decide) (fun hc => ?_) (fun hc => ?_)
        · have h1 := it_t h1 hc
          refine lv_iconst (v := (0 : Int32)) hx hb dX4_waitingNow_26 (by decide) ?_
          refine lv_ior hx hb dX4_waitingNow_27 ?_
          refine lv_topi (fun v4 ev4 => ?_)
          have h1 := nm_at ev4 h1
          refine lv_istore_n (lv' := [(1, .int v4), (2, .int x1), (0, .ref h)]) hx hb dX4_waitingNow_28 rfl hl (by decide) rfl (fun ls hl => ?_)
          obtain ⟨v5, ev5, h1⟩ := nm_some h1
          refine lv_iinc (v := v5) (lv' := [(2, .int v5), (1, .int v4), (0, .ref h)]) hx hb dX4_waitingNow_29 hl (k := 1) rfl (by rw [ev5]; rfl) (by decide) rfl (fun ls hl => ?_)
          refine lv_goto (tgt := 4) hx hb dX4_waitingNow_32 (by decide) ?_
          have hc := lp_l h1 hz1
          exact ih1 v4 v5 hc _ _ hP hD hS ls (lv_sub hl [0, 1, 2] rfl)
        · have h1 := it_f h1 hc
          refine lv_iconst (v := (1 : Int32)) hx hb dX4_waitingNow_20 (by decide) ?_
          refine lv_iload_n hx hb dX4_waitingNow_21 rfl (lv_at hl 0 rfl) ?_
          refine lv_ishl hx hb dX4_waitingNow_22 ?_
          refine lv_goto (tgt := 27) hx hb dX4_waitingNow_23 (by decide) ?_
          refine lv_ior hx hb dX4_waitingNow_27 ?_
          refine lv_topi (fun v6 ev6 => ?_)
          have h1 := nm_at ev6 h1
          refine lv_istore_n (lv' := [(1, .int v6), (2, .int x1), (0, .ref h)]) hx hb dX4_waitingNow_28 rfl hl (by decide) rfl (fun ls hl => ?_)
          obtain ⟨v7, ev7, h1⟩ := nm_some h1
          refine lv_iinc (v := v7) (lv' := [(2, .int v7), (1, .int v6), (0, .ref h)]) hx hb dX4_waitingNow_29 hl (k := 1) rfl (by rw [ev7]; rfl) (by decide) rfl (fun ls hl => ?_)
          refine lv_goto (tgt := 4) hx hb dX4_waitingNow_32 (by decide) ?_
          have hc := lp_l h1 hz1
          exact ih1 v6 v7 hc _ _ hP hD hS ls (lv_sub hl [0, 1, 2] rfl)
  exact LP1 FU (0 : Int32) (0 : Int32) hl1 _ _ hP hD hS ls hl
def bX4_layBack_2  (x1 : Int32) (s2 : St) : Option ((Int32 × St) ⊕ (Int32 × St)) := if (2488 : Int32) ≤ x1 then (some (.inr (x1, s2))) else (ax x1 2488 (ax x1 2488 (nm (put s2 0 (upd (s2 0) (x1 : Int32).toNatClampNeg (s2 6 (x1 : Int32).toNatClampNeg))) fun s3 => nm (x1 + (1 : Int32)) fun v4 => some (.inl (v4, s3)))))
def fX4_layBack (σ : St) : Option St := bnd (lp (fun t : (Int32 × St) => bX4_layBack_2  t.1 t.2) FU ((0 : Int32), σ)) (fun e : (Int32 × St) => nm e.1 fun x5 => nm e.2 fun s6 => some s6)
abbrev rmX4_layBack : Room := { frames := 0, cells := 0, slots := 0, locals := 0 }
set_option maxHeartbeats 4000000 in
set_option maxRecDepth 100000 in
theorem kX4_layBack (l : Launch) (dC : Nat → ClassId) (dI : Nat → Nat → Nat) (cA : Nat → ClassId) (h : Nat) (ad : Nat → Nat) (σ : St) (σ' : St) (h0 : fX4_layBack σ = some σ') : CV l yX4_layBack wsX4_layBack rmX4_layBack (dC, dI) vwCl (tysW cA) [.ref h] (wM cA h ad σ) (wM cA h ad σ') := by
  refine CGV_of (cc := cX4_layBack) (nL := 2) (ret := none) (by decide) rfl (Nat.le_of_ble_eq_true rfl) ?_
  intro p e s m av below meth c A ls H locs hC hl
  obtain ⟨hC, hr, hlocks, hV, hN, hK, hP, hD, hS, hA⟩ := hC
  have hC : CallFix p m c cX4_layBack 2 s _ wsX4_layBack RX4 := hC
  obtain ⟨hx, hb, hml, hown, hts⟩ := id hC
  have hin0 : ∀ w ∈ u_ws RX4 TX4 16, w ∈ wsX4_layBack := fun _ h => (List.mem_cons_of_mem _ (List.mem_append_right _ h))
  have hl : lv_has ls 2 [(0, .ref h)] := hl
  unfold fX4_layBack at h0
  refine lv_iconst (v := (0 : Int32)) hx hb dX4_layBack_0 (by decide) ?_
  refine lv_istore_n (lv' := [(1, .int (0 : Int32)), (0, .ref h)]) hx hb dX4_layBack_1 rfl hl (by decide) rfl (fun ls hl => ?_)
  obtain ⟨ε1, hl1, h0⟩ := bnd_some h0
  have KN1 : ∀ (x5 : Int32) (s6 : St), ε1 = (x5, s6) → ∀ (H : Heap) (locs : List Loc), va_P (dC, dI) vwCl (wM cA h ad s6) H → va_D A (wM cA h ad s6) → va_S A s.heap H locs → ∀ (ls : Array Slot), lv_has ls 2 [(1, .int x5), (0, .ref h)] → W p l e (headSpec wsX4_layBack rmX4_layBack).room s m av below meth c H locs 0 0 (MQ below (qV (dC, dI) A (wM cA h ad σ')) av s 0 0 A) (F0 m 27 ls []) := by
    intro x5 s6 hε H locs hP hD hS ls hl
    rw [hε] at h0
    have h0 := nm_at (z := x5) rfl h0
    have h0 := nm_at (z := s6) rfl h0
    have e1 := Option.some.inj h0
    exact x_retV hC hr hlocks hP hD hS dX4_layBack_27 (by rw [← e1])
  have LP1 : ∀ (n : Nat) (x1 : Int32) (s2 : St), lp (fun t : (Int32 × St) => bX4_layBack_2  t.1 t.2) n (x1, s2) = some ε1 → ∀ (H : Heap) (locs : List Loc), va_P (dC, dI) vwCl (wM cA h ad s2) H → va_D A (wM cA h ad s2) → va_S A s.heap H locs → ∀ (ls : Array Slot), lv_has ls 2 [(1, .int x1), (0, .ref h)] → W p l e (headSpec wsX4_layBack rmX4_layBack).room s m av below meth c H locs 0 0 (MQ below (qV (dC, dI) A (wM cA h ad σ')) av s 0 0 A) (F0 m 2 ls []) := by
    intro n
    induction n with
    | zero => intro x1 s2 hl0; exact (lp_0 hl0).elim
    | succ n ih1 =>
      intro x1 s2 hl0 H locs hP hD hS ls hl
      obtain ⟨z1, h1, hz1⟩ := lp_s hl0
      have h1 : bX4_layBack_2  x1 s2 = some z1 := h1
      unfold bX4_layBack_2 at h1
      refine lv_iload_n hx hb dX4_layBack_2 rfl (lv_at hl 0 rfl) ?_
      refine lv_sipush (v := (2488 : Int32)) hx hb dX4_layBack_3 (by decide) ?_
      refine lv_icmp_ge (tgt := 27) hx hb dX4_layBack_6 (by decide) (fun hc => ?_) (fun hc => ?_)
      · have h1 := it_t h1 hc
        have he := lp_r h1 hz1
        exact KN1 x1 s2 he _ _ hP hD hS ls (lv_sub hl [0, 1] rfl)
      · have h1 := it_f h1 hc
        refine lv_aload_n hx hb dX4_layBack_9 rfl (lv_at hl 1 rfl) ?_
        refine va_get (D := (dC, dI)) (ci := 4) (v := .ref (ad 0)) (C := RX4) (T := TX4) (N := 16) hx hb hts hin0 hown hK hP 0 rfl rfl 0 (by decide) (hts (.fieldLink RX4 7 "MeanLocksModel" "at" "[I") (List.mem_of_getElem? (i := 1) rfl)) (fun _ h9 => h9) rfl dX4_layBack_10 ?_
        refine lv_iload_n hx hb dX4_layBack_13 rfl (lv_at hl 0 rfl) ?_
        refine lv_aload_n hx hb dX4_layBack_14 rfl (lv_at hl 1 rfl) ?_
        refine va_get (D := (dC, dI)) (ci := 4) (v := .ref (ad 6)) (C := RX4) (T := TX4) (N := 16) hx hb hts hin0 hown hK hP 0 rfl rfl 6 (by decide) (hts (.fieldLink RX4 23 "MeanLocksModel" "aside" "[I") (List.mem_of_getElem? (i := 2) rfl)) (fun _ h9 => h9) rfl dX4_layBack_15 ?_
        refine lv_iload_n hx hb dX4_layBack_18 rfl (lv_at hl 0 rfl) ?_
        obtain ⟨hi, h1⟩ := ax_some h1
        refine va_iald hx hb hK hP 5 0 rfl rfl hi dX4_layBack_19 ?_
        obtain ⟨hi, h1⟩ := ax_some h1
        obtain ⟨s3, es3, h1⟩ := nm_some h1
        refine x_iast (ws' := wM cA h ad s3) hC hK hP hD hS 1 0 rfl rfl (by rw [es3]; exact wM_s0 _ _ _ _ _) hi dX4_layBack_20 (fun H locs hP hD hS => ?_)
        obtain ⟨v4, ev4, h1⟩ := nm_some h1
        refine lv_iinc (v := v4) (lv' := [(1, .int v4), (0, .ref h)]) hx hb dX4_layBack_21 hl (k := 0) rfl (by rw [ev4]; rfl) (by decide) rfl (fun ls hl => ?_)
        refine lv_goto (tgt := 2) hx hb dX4_layBack_24 (by decide) ?_
        have hc := lp_l h1 hz1
        exact ih1 v4 s3 hc _ _ hP hD hS ls (lv_sub hl [0, 1] rfl)
  exact LP1 FU (0 : Int32) σ hl1 _ _ hP hD hS ls hl
def fX4_givenWithout (a1 : Int32) (σ : St) : Option (Int32 × St) := bnd (fX4_layAside  σ) fun s2 => bnd (fX4_waitingNow  s2) fun r3 => nm (r3 &&& (((1 : Int32) <<< (a1 &&& 31)) ^^^ (-1 : Int32))) fun v4 => bn2 (fX4_goAway a1 s2) fun r5 s6 => bnd (fX4_waitingNow  s6) fun r7 => bnd (fX4_layBack  s6) fun s9 => some (v4 &&& (r7 ^^^ (-1 : Int32)), s9)
abbrev rmX4_givenWithout : Room := { frames := 8, cells := 0, slots := 0, locals := 189 }
set_option maxHeartbeats 4000000 in
set_option maxRecDepth 100000 in
theorem kX4_givenWithout (l : Launch) (dC : Nat → ClassId) (dI : Nat → Nat → Nat) (cA : Nat → ClassId) (h : Nat) (ad : Nat → Nat) (a1 : Int32) (σ : St) (R0 : Int32) (σ' : St) (h0 : fX4_givenWithout a1 σ = some (R0, σ')) : CI l yX4_givenWithout wsX4_givenWithout rmX4_givenWithout (dC, dI) vwCl (tysW cA) [.ref h, .int a1] (wM cA h ad σ) R0 (wM cA h ad σ') := by
  refine CGI_of (cc := cX4_givenWithout) (nL := 4) (ret := (some .int)) (by decide) rfl (Nat.le_of_ble_eq_true rfl) ?_
  intro p e s m av below meth c A ls H locs hC hl
  obtain ⟨hC, hr, hlocks, hV, hN, hK, hP, hD, hS, hA⟩ := hC
  have hC : CallFix p m c cX4_givenWithout 4 s _ wsX4_givenWithout RX4 := hC
  obtain ⟨hx, hb, hml, hown, hts⟩ := id hC
  have hin0 : ∀ w ∈ u_ws RX4 TX4 16, w ∈ wsX4_givenWithout := fun _ h => (List.mem_cons_of_mem _ (List.mem_append_right _ h))
  have hl : lv_has ls 4 [(0, .ref h), (1, .int a1)] := hl
  unfold fX4_givenWithout at h0
  refine lv_aload_n hx hb dX4_givenWithout_0 rfl (lv_at hl 0 rfl) ?_
  obtain ⟨s2, hf1, h0⟩ := bnd_some h0
  refine x_VV (As := []) (rest := []) hC (kX4_layAside l dC dI cA h ad σ s2 hf1) (cwV 0 hts gX4_givenWithout_X4_layAside rfl rfl rfl (by decide +kernel) ⟨Nat.le_of_ble_eq_true rfl, Nat.le_of_ble_eq_true rfl⟩) 0 4 hV hN hK hP hD hS hA rfl rfl rfl rfl hl.1 rfl (Nat.le_of_ble_eq_true rfl) ⟨Nat.zero_le _, Nat.zero_le _⟩ dX4_givenWithout_1 (fun H locs hP hD hS => ?_)
  refine lv_aload_n hx hb dX4_givenWithout_4 rfl (lv_at hl 0 rfl) ?_
  obtain ⟨r3, hf2, h0⟩ := bnd_some h0
  refine x_VI (As := []) (rest := []) hC (kX4_waitingNow l dC dI cA h ad s2 r3  hf2) (cwV 0 hts gX4_givenWithout_X4_waitingNow rfl rfl rfl (by decide +kernel) ⟨Nat.le_of_ble_eq_true rfl, Nat.le_of_ble_eq_true rfl⟩) 0 4 hV hN hK hP hD hS hA rfl rfl rfl rfl hl.1 rfl (Nat.le_of_ble_eq_true rfl) ⟨Nat.zero_le _, Nat.zero_le _⟩ dX4_givenWithout_5 (fun H locs hP hD hS => ?_)
  refine lv_iconst (v := (1 : Int32)) hx hb dX4_givenWithout_8 (by decide) ?_
  refine lv_iload_n hx hb dX4_givenWithout_9 rfl (lv_at hl 1 rfl) ?_
  refine lv_ishl hx hb dX4_givenWithout_10 ?_
  refine lv_iconst (v := (-1 : Int32)) hx hb dX4_givenWithout_11 (by decide) ?_
  refine lv_ixor hx hb dX4_givenWithout_12 ?_
  refine lv_iand hx hb dX4_givenWithout_13 ?_
  refine lv_topi (fun v4 ev4 => ?_)
  have h0 := nm_at ev4 h0
  refine lv_istore_n (lv' := [(2, .int v4), (0, .ref h), (1, .int a1)]) hx hb dX4_givenWithout_14 rfl hl (by decide) rfl (fun ls hl => ?_)
  refine lv_aload_n hx hb dX4_givenWithout_15 rfl (lv_at hl 1 rfl) ?_
  refine lv_iload_n hx hb dX4_givenWithout_16 rfl (lv_at hl 2 rfl) ?_
  obtain ⟨r5, s6, hf3, h0⟩ := bn2_some h0
  refine x_VI (As := [.int a1]) (rest := []) hC (kX4_goAway l dC dI cA h ad a1 s2 r5 s6 hf3) (cwV 1 hts gX4_givenWithout_X4_goAway rfl rfl rfl (by decide +kernel) ⟨Nat.le_of_ble_eq_true rfl, Nat.le_of_ble_eq_true rfl⟩) 0 4 hV hN hK hP hD hS hA rfl rfl rfl rfl hl.1 rfl (Nat.le_of_ble_eq_true rfl) ⟨Nat.zero_le _, Nat.zero_le _⟩ dX4_givenWithout_17 (fun H locs hP hD hS => ?_)
  refine lv_pop hx hb dX4_givenWithout_20 rfl ?_
  refine lv_aload_n hx hb dX4_givenWithout_21 rfl (lv_at hl 1 rfl) ?_
  obtain ⟨r7, hf4, h0⟩ := bnd_some h0
  refine x_VI (As := []) (rest := []) hC (kX4_waitingNow l dC dI cA h ad s6 r7  hf4) (cwV 0 hts gX4_givenWithout_X4_waitingNow rfl rfl rfl (by decide +kernel) ⟨Nat.le_of_ble_eq_true rfl, Nat.le_of_ble_eq_true rfl⟩) 0 4 hV hN hK hP hD hS hA rfl rfl rfl rfl hl.1 rfl (Nat.le_of_ble_eq_true rfl) ⟨Nat.zero_le _, Nat.zero_le _⟩ dX4_givenWithout_22 (fun H locs hP hD hS => ?_)
  refine lv_istore_n (lv' := [(3, .int r7), (2, .int v4), (0, .ref h), (1, .int a1)]) hx hb dX4_givenWithout_25 rfl hl (by decide) rfl (fun ls hl => ?_)
  refine lv_aload_n hx hb dX4_givenWithout_26 rfl (lv_at hl 2 rfl) ?_
  obtain ⟨s9, hf5, h0⟩ := bnd_some h0
  refine x_VV (As := []) (rest := []) hC (kX4_layBack l dC dI cA h ad s6 s9 hf5) (cwV 0 hts gX4_givenWithout_X4_layBack rfl rfl rfl (by decide +kernel) ⟨Nat.le_of_ble_eq_true rfl, Nat.le_of_ble_eq_true rfl⟩) 0 4 hV hN hK hP hD hS hA rfl rfl rfl rfl hl.1 rfl (Nat.le_of_ble_eq_true rfl) ⟨Nat.zero_le _, Nat.zero_le _⟩ dX4_givenWithout_27 (fun H locs hP hD hS => ?_)
  refine lv_iload_n hx hb dX4_givenWithout_30 rfl (lv_at hl 1 rfl) ?_
  refine lv_iload_n hx hb dX4_givenWithout_31 rfl (lv_at hl 0 rfl) ?_
  refine lv_iconst (v := (-1 : Int32)) hx hb dX4_givenWithout_32 (by decide) ?_
  refine lv_ixor hx hb dX4_givenWithout_33 ?_
  refine lv_iand hx hb dX4_givenWithout_34 ?_
  obtain ⟨e1, e2⟩ := Prod.mk.inj (Option.some.inj h0)
  exact x_retI hC hr hlocks rfl hP hD hS dX4_givenWithout_35 ⟨e1, by rw [← e2]⟩
def fX4_givenIf (a1 : Int32) (σ : St) : Option (Int32 × St) := bnd (fX4_isOwner a1) fun r1 => if (r1 : Int32) = (0 : Int32) then (some ((-1 : Int32), σ)) else (bn2 (fX4_givenWithout a1 σ) fun r2 s3 => some (r2, s3))
abbrev rmX4_givenIf : Room := { frames := 9, cells := 0, slots := 0, locals := 212 }
set_option maxHeartbeats 4000000 in
set_option maxRecDepth 100000 in
theorem kX4_givenIf (l : Launch) (dC : Nat → ClassId) (dI : Nat → Nat → Nat) (cA : Nat → ClassId) (h : Nat) (ad : Nat → Nat) (a1 : Int32) (σ : St) (R0 : Int32) (σ' : St) (h0 : fX4_givenIf a1 σ = some (R0, σ')) : CI l yX4_givenIf wsX4_givenIf rmX4_givenIf (dC, dI) vwCl (tysW cA) [.ref h, .int a1] (wM cA h ad σ) R0 (wM cA h ad σ') := by
  refine CGI_of (cc := cX4_givenIf) (nL := 2) (ret := (some .int)) (by decide) rfl (Nat.le_of_ble_eq_true rfl) ?_
  intro p e s m av below meth c A ls H locs hC hl
  obtain ⟨hC, hr, hlocks, hV, hN, hK, hP, hD, hS, hA⟩ := hC
  have hC : CallFix p m c cX4_givenIf 2 s _ wsX4_givenIf RX4 := hC
  obtain ⟨hx, hb, hml, hown, hts⟩ := id hC
  have hin0 : ∀ w ∈ u_ws RX4 TX4 16, w ∈ wsX4_givenIf := fun _ h => (List.mem_cons_of_mem _ (List.mem_append_right _ h))
  have hl : lv_has ls 2 [(0, .ref h), (1, .int a1)] := hl
  unfold fX4_givenIf at h0
  refine lv_iload_n hx hb dX4_givenIf_0 rfl (lv_at hl 1 rfl) ?_
  obtain ⟨r1, hf1, h0⟩ := bnd_some h0
  refine x_SI (As := [.int a1]) (rest := []) hC (kX4_isOwner l dC dI cA a1 r1 hf1) (cwS 1 hts gX4_givenIf_X4_isOwner rfl rfl rfl (by decide +kernel) ⟨Nat.le_of_ble_eq_true rfl, Nat.le_of_ble_eq_true rfl⟩) hV hN hK hP hD hS hA rfl hl.1 rfl (Nat.le_of_ble_eq_true rfl) ⟨Nat.zero_le _, Nat.zero_le _⟩ dX4_givenIf_1 (fun H locs hP hD hS => ?_)
  refine lv_if_eq (tgt := 15) hx hb dX4_givenIf_4 (by decide) (fun hc => ?_) (fun hc => ?_)
  · have h0 := it_t h0 hc
    refine lv_iconst (v := (-1 : Int32)) hx hb dX4_givenIf_15 (by decide) ?_
    obtain ⟨e1, e2⟩ := Prod.mk.inj (Option.some.inj h0)
    exact x_retI hC hr hlocks rfl hP hD hS dX4_givenIf_16 ⟨e1, by rw [← e2]⟩
  · have h0 := it_f h0 hc
    refine lv_aload_n hx hb dX4_givenIf_7 rfl (lv_at hl 0 rfl) ?_
    refine lv_iload_n hx hb dX4_givenIf_8 rfl (lv_at hl 1 rfl) ?_
    obtain ⟨r2, s3, hf2, h0⟩ := bn2_some h0
    refine x_VI (As := [.int a1]) (rest := []) hC (kX4_givenWithout l dC dI cA h ad a1 σ r2 s3 hf2) (cwV 1 hts gX4_givenIf_X4_givenWithout rfl rfl rfl (by decide +kernel) ⟨Nat.le_of_ble_eq_true rfl, Nat.le_of_ble_eq_true rfl⟩) 0 4 hV hN hK hP hD hS hA rfl rfl rfl rfl hl.1 rfl (Nat.le_of_ble_eq_true rfl) ⟨Nat.zero_le _, Nat.zero_le _⟩ dX4_givenIf_9 (fun H locs hP hD hS => ?_)
    refine lv_goto (tgt := 16) hx hb dX4_givenIf_12 (by decide) ?_
    obtain ⟨e1, e2⟩ := Prod.mk.inj (Option.some.inj h0)
    exact x_retI hC hr hlocks rfl hP hD hS dX4_givenIf_16 ⟨e1, by rw [← e2]⟩
def bX4_many_4 (a1 : Int32) (x2 : Int32) (x1 : Int32) : Option ((Int32 × Int32) ⊕ (Int32 × Int32)) := if (8 : Int32) ≤ x1 then (some (.inr (x2, x1))) else (bnd (fX4_has a1 x1) fun r3 => if (r3 : Int32) = (0 : Int32) then (nm (x2 + (0 : Int32)) fun v4 => nm (x1 + (1 : Int32)) fun v5 => some (.inl (v4, v5))) else (nm (x2 + (1 : Int32)) fun v6 => nm (x1 + (1 : Int32)) fun v7 => some (.inl (v6, v7))))
def fX4_many (a1 : Int32) : Option Int32 := bnd (lp (fun t : (Int32 × Int32) => bX4_many_4 a1 t.1 t.2) FU ((0 : Int32), (0 : Int32))) (fun e : (Int32 × Int32) => nm e.1 fun x8 => nm e.2 fun x9 => some x8)
abbrev rmX4_many : Room := { frames := 1, cells := 0, slots := 0, locals := 21 }
set_option maxHeartbeats 4000000 in
set_option maxRecDepth 100000 in
theorem kX4_many (l : Launch) (dC : Nat → ClassId) (dI : Nat → Nat → Nat) (cA : Nat → ClassId) (a1 : Int32) (R0 : Int32) (h0 : fX4_many a1 = some R0) : CI l yX4_many wsX4_many rmX4_many (dC, dI) vwCl (tysW cA) [.int a1] [] R0 [] := by
  refine CGI_of (cc := cX4_many) (nL := 3) (ret := (some .int)) (by decide) rfl (Nat.le_of_ble_eq_true rfl) ?_
  intro p e s m av below meth c A ls H locs hC hl
  obtain ⟨hC, hr, hlocks, hV, hN, hK, hP, hD, hS, hA⟩ := hC
  have hC : CallFix p m c cX4_many 3 s _ wsX4_many RX4 := hC
  obtain ⟨hx, hb, hml, hown, hts⟩ := id hC
  have hl : lv_has ls 3 [(0, .int a1)] := hl
  unfold fX4_many at h0
  refine lv_iconst (v := (0 : Int32)) hx hb dX4_many_0 (by decide) ?_
  refine lv_istore_n (lv' := [(1, .int (0 : Int32)), (0, .int a1)]) hx hb dX4_many_1 rfl hl (by decide) rfl (fun ls hl => ?_)
  refine lv_iconst (v := (0 : Int32)) hx hb dX4_many_2 (by decide) ?_
  refine lv_istore_n (lv' := [(2, .int (0 : Int32)), (1, .int (0 : Int32)), (0, .int a1)]) hx hb dX4_many_3 rfl hl (by decide) rfl (fun ls hl => ?_)
  obtain ⟨ε1, hl1, h0⟩ := bnd_some h0
  have KN1 : ∀ (x8 : Int32) (x9 : Int32), ε1 = (x8, x9) → ∀ (H : Heap) (locs : List Loc), va_P (dC, dI) vwCl (([] : va_W)) H → va_D A (([] : va_W)) → va_S A s.heap H locs → ∀ (ls : Array Slot), lv_has ls 3 [(2, .int x9), (1, .int x8), (0, .int a1)] → W p l e (headSpec wsX4_many rmX4_many).room s m av below meth c H locs 0 0 (MQ below (qI (dC, dI) A R0 []) av s 0 0 A) (F0 m 32 ls []) := by
    intro x8 x9 hε H locs hP hD hS ls hl
    rw [hε] at h0
    have h0 := nm_at (z := x8) rfl h0
    have h0 := nm_at (z := x9) rfl h0
    refine lv_iload_n hx hb dX4_many_32 rfl (lv_at hl 1 rfl) ?_
    have e1 := Option.some.inj h0
    exact x_retI hC hr hlocks rfl hP hD hS dX4_many_33 ⟨e1, rfl⟩
  have LP1 : ∀ (n : Nat) (x2 : Int32) (x1 : Int32), lp (fun t : (Int32 × Int32) => bX4_many_4 a1 t.1 t.2) n (x2, x1) = some ε1 → ∀ (H : Heap) (locs : List Loc), va_P (dC, dI) vwCl (([] : va_W)) H → va_D A (([] : va_W)) → va_S A s.heap H locs → ∀ (ls : Array Slot), lv_has ls 3 [(2, .int x1), (1, .int x2), (0, .int a1)] → W p l e (headSpec wsX4_many rmX4_many).room s m av below meth c H locs 0 0 (MQ below (qI (dC, dI) A R0 []) av s 0 0 A) (F0 m 4 ls []) := by
    intro n
    induction n with
    | zero => intro x2 x1 hl0; exact (lp_0 hl0).elim
    | succ n ih1 =>
      intro x2 x1 hl0 H locs hP hD hS ls hl
      obtain ⟨z1, h1, hz1⟩ := lp_s hl0
      have h1 : bX4_many_4 a1 x2 x1 = some z1 := h1
      unfold bX4_many_4 at h1
      refine lv_iload_n hx hb dX4_many_4 rfl (lv_at hl 0 rfl) ?_
      refine lv_bipush (v := (8 : Int32)) hx hb dX4_many_5 (by decide) ?_
      refine lv_icmp_ge (tgt := 32) hx hb dX4_many_7 (by decide) (fun hc => ?_) (fun hc => ?_)
      · have h1 := it_t h1 hc
        have he := lp_r h1 hz1
        exact KN1 x2 x1 he _ _ hP hD hS ls (lv_sub hl [0, 1, 2] rfl)
      · have h1 := it_f h1 hc
        refine lv_iload_n hx hb dX4_many_10 rfl (lv_at hl 1 rfl) ?_
        refine lv_iload_n hx hb dX4_many_11 rfl (lv_at hl 2 rfl) ?_
        refine lv_iload_n hx hb dX4_many_12 rfl (lv_at hl 0 rfl) ?_
        obtain ⟨r3, hf2, h1⟩ := bnd_some h1
        refine x_SI (As := [.int a1, .int x1]) (rest := [.int x2]) hC (kX4_has l dC dI cA a1 x1 r3 hf2) (cwS 2 hts gX4_many_X4_has rfl rfl rfl (by decide +kernel) ⟨Nat.le_of_ble_eq_true rfl, Nat.le_of_ble_eq_true rfl⟩) hV hN hK hP hD hS hA rfl hl.1 rfl (Nat.le_of_ble_eq_true rfl) ⟨Nat.zero_le _, Nat.zero_le _⟩ dX4_many_13 (fun H locs hP hD hS => ?_)
        refine lv_if_eq (tgt := 23) hx hb dX4_many_16 (by decide) (fun hc => ?_) (fun hc => ?_)
        · have h1 := it_t h1 hc
          refine lv_iconst (v := (0 : Int32)) hx hb dX4_many_23 (by decide) ?_
          refine lv_iadd hx hb dX4_many_24 ?_
          refine lv_topi (fun v4 ev4 => ?_)
          have h1 := nm_at ev4 h1
          refine lv_istore_n (lv' := [(1, .int v4), (2, .int x1), (0, .int a1)]) hx hb dX4_many_25 rfl hl (by decide) rfl (fun ls hl => ?_)
          obtain ⟨v5, ev5, h1⟩ := nm_some h1
          refine lv_iinc (v := v5) (lv' := [(2, .int v5), (1, .int v4), (0, .int a1)]) hx hb dX4_many_26 hl (k := 1) rfl (by rw [ev5]; rfl) (by decide) rfl (fun ls hl => ?_)
          refine lv_goto (tgt := 4) hx hb dX4_many_29 (by decide) ?_
          have hc := lp_l h1 hz1
          exact ih1 v4 v5 hc _ _ hP hD hS ls (lv_sub hl [0, 1, 2] rfl)
        · have h1 := it_f h1 hc
          refine lv_iconst (v := (1 : Int32)) hx hb dX4_many_19 (by decide) ?_
          refine lv_goto (tgt := 24) hx hb dX4_many_20 (by decide) ?_
          refine lv_iadd hx hb dX4_many_24 ?_
          refine lv_topi (fun v6 ev6 => ?_)
          have h1 := nm_at ev6 h1
          refine lv_istore_n (lv' := [(1, .int v6), (2, .int x1), (0, .int a1)]) hx hb dX4_many_25 rfl hl (by decide) rfl (fun ls hl => ?_)
          obtain ⟨v7, ev7, h1⟩ := nm_some h1
          refine lv_iinc (v := v7) (lv' := [(2, .int v7), (1, .int v6), (0, .int a1)]) hx hb dX4_many_26 hl (k := 1) rfl (by rw [ev7]; rfl) (by decide) rfl (fun ls hl => ?_)
          refine lv_goto (tgt := 4) hx hb dX4_many_29 (by decide) ?_
          have hc := lp_l h1 hz1
          exact ih1 v6 v7 hc _ _ hP hD hS ls (lv_sub hl [0, 1, 2] rfl)
  exact LP1 FU (0 : Int32) (0 : Int32) hl1 _ _ hP hD hS ls hl
def bX4_greatestBar_20  (x4 : Int32) (x3 : Int32) (x2 : Int32) (s5 : St) : Option ((Int32 × Int32 × Int32 × St) ⊕ (Int32 × Int32 × Int32 × St)) := if (8 : Int32) ≤ x2 then (some (.inr (x4, x3, x2, s5))) else (bn2 (fX4_givenWithout x2 s5) fun r6 s7 => bnd (fX4_many r6) fun r8 => if (r8 : Int32) ≤ x3 then (if (r8 : Int32) ≤ x3 then (nm (x2 + (1 : Int32)) fun v9 => some (.inl (x4, x3, v9, s7))) else (nm (x2 + (1 : Int32)) fun v10 => some (.inl (x4, r8, v10, s7)))) else (if (r8 : Int32) ≤ x3 then (nm (x2 + (1 : Int32)) fun v11 => some (.inl (x2, x3, v11, s7))) else (nm (x2 + (1 : Int32)) fun v12 => some (.inl (x2, r8, v12, s7)))))
def fX4_greatestBar (a1 : Int32) (σ : St) : Option (Int32 × St) := bnd (fX4_in a1 (0 : Int32) (1 : Int32)) fun r1 => if (r1 : Int32) = (0 : Int32) then (some ((-2 : Int32), σ)) else (bnd (lp (fun t : (Int32 × Int32 × Int32 × St) => bX4_greatestBar_20  t.1 t.2.1 t.2.2.1 t.2.2.2) FU ((-6 : Int32), (0 : Int32), (0 : Int32), σ)) (fun e : (Int32 × Int32 × Int32 × St) => nm e.1 fun x13 => nm e.2.1 fun x14 => nm e.2.2.1 fun x15 => nm e.2.2.2 fun s16 => if (x13 : Int32) < (0 : Int32) then (some (x13, s16)) else (if (a1 : Int32) = (0 : Int32) then (some (x13, s16)) else (some (x14, s16)))))
abbrev rmX4_greatestBar : Room := { frames := 9, cells := 0, slots := 0, locals := 212 }
set_option maxHeartbeats 4000000 in
set_option maxRecDepth 100000 in
theorem kX4_greatestBar (l : Launch) (dC : Nat → ClassId) (dI : Nat → Nat → Nat) (cA : Nat → ClassId) (h : Nat) (ad : Nat → Nat) (a1 : Int32) (σ : St) (R0 : Int32) (σ' : St) (h0 : fX4_greatestBar a1 σ = some (R0, σ')) : CI l yX4_greatestBar wsX4_greatestBar rmX4_greatestBar (dC, dI) vwCl (tysW cA) [.ref h, .int a1] (wM cA h ad σ) R0 (wM cA h ad σ') := by
  refine CGI_of (cc := cX4_greatestBar) (nL := 6) (ret := (some .int)) (by decide) rfl (Nat.le_of_ble_eq_true rfl) ?_
  intro p e s m av below meth c A ls H locs hC hl
  obtain ⟨hC, hr, hlocks, hV, hN, hK, hP, hD, hS, hA⟩ := hC
  have hC : CallFix p m c cX4_greatestBar 6 s _ wsX4_greatestBar RX4 := hC
  obtain ⟨hx, hb, hml, hown, hts⟩ := id hC
  have hin0 : ∀ w ∈ u_ws RX4 TX4 16, w ∈ wsX4_greatestBar := fun _ h => (List.mem_cons_of_mem _ (List.mem_append_right _ h))
  have hl : lv_has ls 6 [(0, .ref h), (1, .int a1)] := hl
  unfold fX4_greatestBar at h0
  refine lv_iload_n hx hb dX4_greatestBar_0 rfl (lv_at hl 1 rfl) ?_
  refine lv_iconst (v := (0 : Int32)) hx hb dX4_greatestBar_1 (by decide) ?_
  refine lv_iconst (v := (1 : Int32)) hx hb dX4_greatestBar_2 (by decide) ?_
  obtain ⟨r1, hf1, h0⟩ := bnd_some h0
  refine x_SI (As := [.int a1, .int (0 : Int32), .int (1 : Int32)]) (rest := []) hC (kX4_in l dC dI cA a1 (0 : Int32) (1 : Int32) r1 hf1) (cwS 3 hts gX4_greatestBar_X4_in rfl rfl rfl (by decide +kernel) ⟨Nat.le_of_ble_eq_true rfl, Nat.le_of_ble_eq_true rfl⟩) hV hN hK hP hD hS hA rfl hl.1 rfl (Nat.le_of_ble_eq_true rfl) ⟨Nat.zero_le _, Nat.zero_le _⟩ dX4_greatestBar_3 (fun H locs hP hD hS => ?_)
  refine lv_if_ne (tgt := 12) hx hb dX4_greatestBar_6 (by decide) (fun hc => ?_) (fun hc => ?_)
  · have h0 := it_f h0 hc
    refine lv_bipush (v := (-6 : Int32)) hx hb dX4_greatestBar_12 (by decide) ?_
    refine lv_istore_n (lv' := [(2, .int (-6 : Int32)), (0, .ref h), (1, .int a1)]) hx hb dX4_greatestBar_14 rfl hl (by decide) rfl (fun ls hl => ?_)
    refine lv_iconst (v := (0 : Int32)) hx hb dX4_greatestBar_15 (by decide) ?_
    refine lv_istore_n (lv' := [(3, .int (0 : Int32)), (2, .int (-6 : Int32)), (0, .ref h), (1, .int a1)]) hx hb dX4_greatestBar_16 rfl hl (by decide) rfl (fun ls hl => ?_)
    refine lv_iconst (v := (0 : Int32)) hx hb dX4_greatestBar_17 (by decide) ?_
    refine lv_istore (lv' := [(4, .int (0 : Int32)), (3, .int (0 : Int32)), (2, .int (-6 : Int32)), (0, .ref h), (1, .int a1)]) hx hb dX4_greatestBar_18 hl (by decide) rfl (fun ls hl => ?_)
    obtain ⟨ε2, hl2, h0⟩ := bnd_some h0
    have KN2 : ∀ (x13 : Int32) (x14 : Int32) (x15 : Int32) (s16 : St), ε2 = (x13, x14, x15, s16) → ∀ (H : Heap) (locs : List Loc), va_P (dC, dI) vwCl (wM cA h ad s16) H → va_D A (wM cA h ad s16) → va_S A s.heap H locs → ∀ (ls : Array Slot), lv_has ls 6 [(4, .int x15), (3, .int x14), (2, .int x13), (0, .ref h), (1, .int a1)] → W p l e (headSpec wsX4_greatestBar rmX4_greatestBar).room s m av below meth c H locs 0 0 (MQ below (qI (dC, dI) A R0 (wM cA h ad σ')) av s 0 0 A) (F0 m 70 ls []) := by
      intro x13 x14 x15 s16 hε H locs hP hD hS ls hl
      rw [hε] at h0
      have h0 := nm_at (z := x13) rfl h0
      have h0 := nm_at (z := x14) rfl h0
      have h0 := nm_at (z := x15) rfl h0
      have h0 := nm_at (z := s16) rfl h0
      refine lv_iload_n hx hb dX4_greatestBar_70 rfl (lv_at hl 2 rfl) ?_
      refine lv_if_lt (tgt := 78) hx hb dX4_greatestBar_71 (by decide) (fun hc => ?_) (fun hc => ?_)
      · have h0 := it_t h0 hc
        refine lv_iload_n hx hb dX4_greatestBar_78 rfl (lv_at hl 2 rfl) ?_
        refine lv_goto (tgt := 83) hx hb dX4_greatestBar_79 (by decide) ?_
        obtain ⟨e1, e2⟩ := Prod.mk.inj (Option.some.inj h0)
        exact x_retI hC hr hlocks rfl hP hD hS dX4_greatestBar_83 ⟨e1, by rw [← e2]⟩
      · have h0 := it_f h0 hc
        refine lv_iload_n hx hb dX4_greatestBar_74 rfl (lv_at hl 4 rfl) ?_
        refine lv_if_ne (tgt := 82) hx hb dX4_greatestBar_75 (by decide) (fun hc => ?_) (fun hc => ?_)
        · have h0 := it_f h0 hc
          refine lv_iload_n hx hb dX4_greatestBar_82 rfl (lv_at hl 1 rfl) ?_
          obtain ⟨e1, e2⟩ := Prod.mk.inj (Option.some.inj h0)
          exact x_retI hC hr hlocks rfl hP hD hS dX4_greatestBar_83 ⟨e1, by rw [← e2]⟩
        · have h0 := it_t h0 hc
          refine lv_iload_n hx hb dX4_greatestBar_78 rfl (lv_at hl 2 rfl) ?_
          refine lv_goto (tgt := 83) hx hb dX4_greatestBar_79 (by decide) ?_
          obtain ⟨e1, e2⟩ := Prod.mk.inj (Option.some.inj h0)
          exact x_retI hC hr hlocks rfl hP hD hS dX4_greatestBar_83 ⟨e1, by rw [← e2]⟩
    have LP2 : ∀ (n : Nat) (x4 : Int32) (x3 : Int32) (x2 : Int32) (s5 : St), lp (fun t : (Int32 × Int32 × Int32 × St) => bX4_greatestBar_20  t.1 t.2.1 t.2.2.1 t.2.2.2) n (x4, x3, x2, s5) = some ε2 → ∀ (H : Heap) (locs : List Loc), va_P (dC, dI) vwCl (wM cA h ad s5) H → va_D A (wM cA h ad s5) → va_S A s.heap H locs → ∀ (ls : Array Slot), lv_has ls 6 [(4, .int x2), (3, .int x3), (2, .int x4), (0, .ref h), (1, .int a1)] → W p l e (headSpec wsX4_greatestBar rmX4_greatestBar).room s m av below meth c H locs 0 0 (MQ below (qI (dC, dI) A R0 (wM cA h ad σ')) av s 0 0 A) (F0 m 20 ls []) := by
      intro n
      induction n with
      | zero => intro x4 x3 x2 s5 hl0; exact (lp_0 hl0).elim
      | succ n ih2 =>
        intro x4 x3 x2 s5 hl0 H locs hP hD hS ls hl
        obtain ⟨z2, h1, hz2⟩ := lp_s hl0
        have h1 : bX4_greatestBar_20  x4 x3 x2 s5 = some z2 := h1
        unfold bX4_greatestBar_20 at h1
        refine lv_iload hx hb dX4_greatestBar_20 (lv_at hl 0 rfl) ?_
        refine lv_bipush (v := (8 : Int32)) hx hb dX4_greatestBar_22 (by decide) ?_
        refine lv_icmp_ge (tgt := 70) hx hb dX4_greatestBar_24 (by decide) (fun hc => ?_) (fun hc => ?_)
        · have h1 := it_t h1 hc
          have he := lp_r h1 hz2
          exact KN2 x4 x3 x2 s5 he _ _ hP hD hS ls (lv_sub hl [0, 1, 2, 3, 4] rfl)
        · have h1 := it_f h1 hc
          refine lv_aload_n hx hb dX4_greatestBar_27 rfl (lv_at hl 3 rfl) ?_
          refine lv_iload hx hb dX4_greatestBar_28 (lv_at hl 0 rfl) ?_
          obtain ⟨r6, s7, hf3, h1⟩ := bn2_some h1
          refine x_VI (As := [.int x2]) (rest := []) hC (kX4_givenWithout l dC dI cA h ad x2 s5 r6 s7 hf3) (cwV 1 hts gX4_greatestBar_X4_givenWithout rfl rfl rfl (by decide +kernel) ⟨Nat.le_of_ble_eq_true rfl, Nat.le_of_ble_eq_true rfl⟩) 0 4 hV hN hK hP hD hS hA rfl rfl rfl rfl hl.1 rfl (Nat.le_of_ble_eq_true rfl) ⟨Nat.zero_le _, Nat.zero_le _⟩ dX4_greatestBar_30 (fun H locs hP hD hS => ?_)
          obtain ⟨r8, hf4, h1⟩ := bnd_some h1
          refine x_SI (As := [.int r6]) (rest := []) hC (kX4_many l dC dI cA r6 r8 hf4) (cwS 1 hts gX4_greatestBar_X4_many rfl rfl rfl (by decide +kernel) ⟨Nat.le_of_ble_eq_true rfl, Nat.le_of_ble_eq_true rfl⟩) hV hN hK hP hD hS hA rfl hl.1 rfl (Nat.le_of_ble_eq_true rfl) ⟨Nat.zero_le _, Nat.zero_le _⟩ dX4_greatestBar_33 (fun H locs hP hD hS => ?_)
          refine lv_istore (lv' := [(5, .int r8), (4, .int x2), (3, .int x3), (2, .int x4), (0, .ref h), (1, .int a1)]) hx hb dX4_greatestBar_36 hl (by decide) rfl (fun ls hl => ?_)
          refine lv_iload hx hb dX4_greatestBar_38 (lv_at hl 0 rfl) ?_
          refine lv_iload_n hx hb dX4_greatestBar_40 rfl (lv_at hl 2 rfl) ?_
          refine lv_icmp_le (tgt := 49) hx hb dX4_greatestBar_41 (by decide) (fun hc => ?_) (fun hc => ?_)
          · have h1 := it_t h1 hc
            refine lv_iload_n hx hb dX4_greatestBar_49 rfl (lv_at hl 3 rfl) ?_
            refine lv_istore_n (lv' := [(2, .int x4), (5, .int r8), (4, .int x2), (3, .int x3), (0, .ref h), (1, .int a1)]) hx hb dX4_greatestBar_50 rfl hl (by decide) rfl (fun ls hl => ?_)
            refine lv_iload hx hb dX4_greatestBar_51 (lv_at hl 1 rfl) ?_
            refine lv_iload_n hx hb dX4_greatestBar_53 rfl (lv_at hl 3 rfl) ?_
            refine lv_icmp_le (tgt := 62) hx hb dX4_greatestBar_54 (by decide) (fun hc => ?_) (fun hc => ?_)
            · have h1 := it_t h1 hc
              refine lv_iload_n hx hb dX4_greatestBar_62 rfl (lv_at hl 3 rfl) ?_
              refine lv_istore_n (lv' := [(3, .int x3), (2, .int x4), (5, .int r8), (4, .int x2), (0, .ref h), (1, .int a1)]) hx hb dX4_greatestBar_63 rfl hl (by decide) rfl (fun ls hl => ?_)
              obtain ⟨v9, ev9, h1⟩ := nm_some h1
              refine lv_iinc (v := v9) (lv' := [(4, .int v9), (3, .int x3), (2, .int x4), (5, .int r8), (0, .ref h), (1, .int a1)]) hx hb dX4_greatestBar_64 hl (k := 3) rfl (by rw [ev9]; rfl) (by decide) rfl (fun ls hl => ?_)
              refine lv_goto (tgt := 20) hx hb dX4_greatestBar_67 (by decide) ?_
              have hc := lp_l h1 hz2
              exact ih2 x4 x3 v9 s7 hc _ _ hP hD hS ls (lv_sub hl [0, 1, 2, 4, 5] rfl)
            · have h1 := it_f h1 hc
              refine lv_iload hx hb dX4_greatestBar_57 (lv_at hl 1 rfl) ?_
              refine lv_goto (tgt := 63) hx hb dX4_greatestBar_59 (by decide) ?_
              refine lv_istore_n (lv' := [(3, .int r8), (2, .int x4), (5, .int r8), (4, .int x2), (0, .ref h), (1, .int a1)]) hx hb dX4_greatestBar_63 rfl hl (by decide) rfl (fun ls hl => ?_)
              obtain ⟨v10, ev10, h1⟩ := nm_some h1
              refine lv_iinc (v := v10) (lv' := [(4, .int v10), (3, .int r8), (2, .int x4), (5, .int r8), (0, .ref h), (1, .int a1)]) hx hb dX4_greatestBar_64 hl (k := 3) rfl (by rw [ev10]; rfl) (by decide) rfl (fun ls hl => ?_)
              refine lv_goto (tgt := 20) hx hb dX4_greatestBar_67 (by decide) ?_
              have hc := lp_l h1 hz2
              exact ih2 x4 r8 v10 s7 hc _ _ hP hD hS ls (lv_sub hl [0, 1, 2, 4, 5] rfl)
          · have h1 := it_f h1 hc
            refine lv_iload hx hb dX4_greatestBar_44 (lv_at hl 1 rfl) ?_
            refine lv_goto (tgt := 50) hx hb dX4_greatestBar_46 (by decide) ?_
            refine lv_istore_n (lv' := [(2, .int x2), (5, .int r8), (4, .int x2), (3, .int x3), (0, .ref h), (1, .int a1)]) hx hb dX4_greatestBar_50 rfl hl (by decide) rfl (fun ls hl => ?_)
            refine lv_iload hx hb dX4_greatestBar_51 (lv_at hl 1 rfl) ?_
            refine lv_iload_n hx hb dX4_greatestBar_53 rfl (lv_at hl 3 rfl) ?_
            refine lv_icmp_le (tgt := 62) hx hb dX4_greatestBar_54 (by decide) (fun hc => ?_) (fun hc => ?_)
            · have h1 := it_t h1 hc
              refine lv_iload_n hx hb dX4_greatestBar_62 rfl (lv_at hl 3 rfl) ?_
              refine lv_istore_n (lv' := [(3, .int x3), (2, .int x2), (5, .int r8), (4, .int x2), (0, .ref h), (1, .int a1)]) hx hb dX4_greatestBar_63 rfl hl (by decide) rfl (fun ls hl => ?_)
              obtain ⟨v11, ev11, h1⟩ := nm_some h1
              refine lv_iinc (v := v11) (lv' := [(4, .int v11), (3, .int x3), (2, .int x2), (5, .int r8), (0, .ref h), (1, .int a1)]) hx hb dX4_greatestBar_64 hl (k := 3) rfl (by rw [ev11]; rfl) (by decide) rfl (fun ls hl => ?_)
              refine lv_goto (tgt := 20) hx hb dX4_greatestBar_67 (by decide) ?_
              have hc := lp_l h1 hz2
              exact ih2 x2 x3 v11 s7 hc _ _ hP hD hS ls (lv_sub hl [0, 1, 2, 4, 5] rfl)
            · have h1 := it_f h1 hc
              refine lv_iload hx hb dX4_greatestBar_57 (lv_at hl 1 rfl) ?_
              refine lv_goto (tgt := 63) hx hb dX4_greatestBar_59 (by decide) ?_
              refine lv_istore_n (lv' := [(3, .int r8), (2, .int x2), (5, .int r8), (4, .int x2), (0, .ref h), (1, .int a1)]) hx hb dX4_greatestBar_63 rfl hl (by decide) rfl (fun ls hl => ?_)
              obtain ⟨v12, ev12, h1⟩ := nm_some h1
              refine lv_iinc (v := v12) (lv' := [(4, .int v12), (3, .int r8), (2, .int x2), (5, .int r8), (0, .ref h), (1, .int a1)]) hx hb dX4_greatestBar_64 hl (k := 3) rfl (by rw [ev12]; rfl) (by decide) rfl (fun ls hl => ?_)
              refine lv_goto (tgt := 20) hx hb dX4_greatestBar_67 (by decide) ?_
              have hc := lp_l h1 hz2
              exact ih2 x2 r8 v12 s7 hc _ _ hP hD hS ls (lv_sub hl [0, 1, 2, 4, 5] rfl)
    exact LP2 FU (-6 : Int32) (0 : Int32) (0 : Int32) σ hl2 _ _ hP hD hS ls hl
  · have h0 := it_t h0 hc
    refine lv_bipush (v := (-2 : Int32)) hx hb dX4_greatestBar_9 (by decide) ?_
    obtain ⟨e1, e2⟩ := Prod.mk.inj (Option.some.inj h0)
    exact x_retI hC hr hlocks rfl hP hD hS dX4_greatestBar_11 ⟨e1, by rw [← e2]⟩
def fX4_inRow (a1 : Int32) (σ : St) : Option Int32 := ax (1 : Int32) 2488 (bnd (fX4_in a1 (0 : Int32) ((σ 0 ((1 : Int32) : Int32).toNatClampNeg) - (1 : Int32))) fun r1 => if (r1 : Int32) = (0 : Int32) then (some (-1 : Int32)) else (ax ((8 : Int32) + a1) 2488 (some (σ 0 ((8 : Int32) + a1 : Int32).toNatClampNeg))))
abbrev rmX4_inRow : Room := { frames := 1, cells := 0, slots := 0, locals := 22 }
set_option maxHeartbeats 4000000 in
set_option maxRecDepth 100000 in
theorem kX4_inRow (l : Launch) (dC : Nat → ClassId) (dI : Nat → Nat → Nat) (cA : Nat → ClassId) (h : Nat) (ad : Nat → Nat) (a1 : Int32) (σ : St) (R0 : Int32) (h0 : fX4_inRow a1 σ = some R0) : CI l yX4_inRow wsX4_inRow rmX4_inRow (dC, dI) vwCl (tysW cA) [.ref h, .int a1] (wM cA h ad σ) R0 (wM cA h ad σ) := by
  refine CGI_of (cc := cX4_inRow) (nL := 2) (ret := (some .int)) (by decide) rfl (Nat.le_of_ble_eq_true rfl) ?_
  intro p e s m av below meth c A ls H locs hC hl
  obtain ⟨hC, hr, hlocks, hV, hN, hK, hP, hD, hS, hA⟩ := hC
  have hC : CallFix p m c cX4_inRow 2 s _ wsX4_inRow RX4 := hC
  obtain ⟨hx, hb, hml, hown, hts⟩ := id hC
  have hin0 : ∀ w ∈ u_ws RX4 TX4 16, w ∈ wsX4_inRow := fun _ h => (List.mem_cons_of_mem _ (List.mem_append_right _ h))
  have hl : lv_has ls 2 [(0, .ref h), (1, .int a1)] := hl
  unfold fX4_inRow at h0
  refine lv_iload_n hx hb dX4_inRow_0 rfl (lv_at hl 1 rfl) ?_
  refine lv_iconst (v := (0 : Int32)) hx hb dX4_inRow_1 (by decide) ?_
  refine lv_aload_n hx hb dX4_inRow_2 rfl (lv_at hl 0 rfl) ?_
  refine va_get (D := (dC, dI)) (ci := 4) (v := .ref (ad 0)) (C := RX4) (T := TX4) (N := 16) hx hb hts hin0 hown hK hP 0 rfl rfl 0 (by decide) (hts (.fieldLink RX4 7 "MeanLocksModel" "at" "[I") (List.mem_of_getElem? (i := 1) rfl)) (fun _ h9 => h9) rfl dX4_inRow_3 ?_
  refine lv_iconst (v := (1 : Int32)) hx hb dX4_inRow_6 (by decide) ?_
  obtain ⟨hi, h0⟩ := ax_some h0
  refine va_iald hx hb hK hP 1 0 rfl rfl hi dX4_inRow_7 ?_
  refine lv_iconst (v := (1 : Int32)) hx hb dX4_inRow_8 (by decide) ?_
  refine lv_isub hx hb dX4_inRow_9 ?_
  obtain ⟨r1, hf1, h0⟩ := bnd_some h0
  refine x_SI (As := [.int a1, .int (0 : Int32), .int ((σ 0 ((1 : Int32) : Int32).toNatClampNeg) - (1 : Int32))]) (rest := []) hC (kX4_in l dC dI cA a1 (0 : Int32) ((σ 0 ((1 : Int32) : Int32).toNatClampNeg) - (1 : Int32)) r1 hf1) (cwS 3 hts gX4_inRow_X4_in rfl rfl rfl (by decide +kernel) ⟨Nat.le_of_ble_eq_true rfl, Nat.le_of_ble_eq_true rfl⟩) hV hN hK hP hD hS hA rfl hl.1 rfl (Nat.le_of_ble_eq_true rfl) ⟨Nat.zero_le _, Nat.zero_le _⟩ dX4_inRow_10 (fun H locs hP hD hS => ?_)
  refine lv_if_eq (tgt := 28) hx hb dX4_inRow_13 (by decide) (fun hc => ?_) (fun hc => ?_)
  · have h0 := it_t h0 hc
    refine lv_iconst (v := (-1 : Int32)) hx hb dX4_inRow_28 (by decide) ?_
    have e1 := Option.some.inj h0
    exact x_retI hC hr hlocks rfl hP hD hS dX4_inRow_29 ⟨e1, rfl⟩
  · have h0 := it_f h0 hc
    refine lv_aload_n hx hb dX4_inRow_16 rfl (lv_at hl 0 rfl) ?_
    refine va_get (D := (dC, dI)) (ci := 4) (v := .ref (ad 0)) (C := RX4) (T := TX4) (N := 16) hx hb hts hin0 hown hK hP 0 rfl rfl 0 (by decide) (hts (.fieldLink RX4 7 "MeanLocksModel" "at" "[I") (List.mem_of_getElem? (i := 1) rfl)) (fun _ h9 => h9) rfl dX4_inRow_17 ?_
    refine lv_bipush (v := (8 : Int32)) hx hb dX4_inRow_20 (by decide) ?_
    refine lv_iload_n hx hb dX4_inRow_22 rfl (lv_at hl 1 rfl) ?_
    refine lv_iadd hx hb dX4_inRow_23 ?_
    obtain ⟨hi, h0⟩ := ax_some h0
    refine va_iald hx hb hK hP 1 0 rfl rfl hi dX4_inRow_24 ?_
    refine lv_goto (tgt := 29) hx hb dX4_inRow_25 (by decide) ?_
    have e1 := Option.some.inj h0
    exact x_retI hC hr hlocks rfl hP hD hS dX4_inRow_29 ⟨e1, rfl⟩
def fX4_inTheWay (a1 : Int32) (a2 : Int32) (a3 : Int32) (a4 : Int32) (σ : St) : Option Int32 := bnd (fX4_whyNotAsk a1 a2 a3 a4) fun r1 => if (0 : Int32) ≤ r1 then (ax (1 : Int32) 2488 (bnd (fX4_stoppedIn a1 a2 a3 a4 (σ 0 ((1 : Int32) : Int32).toNatClampNeg) σ) fun r2 => some r2)) else (some r1)
abbrev rmX4_inTheWay : Room := { frames := 4, cells := 0, slots := 0, locals := 101 }
set_option maxHeartbeats 4000000 in
set_option maxRecDepth 100000 in
theorem kX4_inTheWay (l : Launch) (dC : Nat → ClassId) (dI : Nat → Nat → Nat) (cA : Nat → ClassId) (h : Nat) (ad : Nat → Nat) (a1 : Int32) (a2 : Int32) (a3 : Int32) (a4 : Int32) (σ : St) (R0 : Int32) (h0 : fX4_inTheWay a1 a2 a3 a4 σ = some R0) : CI l yX4_inTheWay wsX4_inTheWay rmX4_inTheWay (dC, dI) vwCl (tysW cA) [.ref h, .int a1, .int a2, .int a3, .int a4] (wM cA h ad σ) R0 (wM cA h ad σ) := by
  refine CGI_of (cc := cX4_inTheWay) (nL := 6) (ret := (some .int)) (by decide) rfl (Nat.le_of_ble_eq_true rfl) ?_
  intro p e s m av below meth c A ls H locs hC hl
  obtain ⟨hC, hr, hlocks, hV, hN, hK, hP, hD, hS, hA⟩ := hC
  have hC : CallFix p m c cX4_inTheWay 6 s _ wsX4_inTheWay RX4 := hC
  obtain ⟨hx, hb, hml, hown, hts⟩ := id hC
  have hin0 : ∀ w ∈ u_ws RX4 TX4 16, w ∈ wsX4_inTheWay := fun _ h => (List.mem_cons_of_mem _ (List.mem_append_right _ h))
  have hl : lv_has ls 6 [(0, .ref h), (1, .int a1), (2, .int a2), (3, .int a3), (4, .int a4)] := hl
  unfold fX4_inTheWay at h0
  refine lv_iload_n hx hb dX4_inTheWay_0 rfl (lv_at hl 1 rfl) ?_
  refine lv_iload_n hx hb dX4_inTheWay_1 rfl (lv_at hl 2 rfl) ?_
  refine lv_iload_n hx hb dX4_inTheWay_2 rfl (lv_at hl 3 rfl) ?_
  refine lv_iload hx hb dX4_inTheWay_3 (lv_at hl 4 rfl) ?_
  obtain ⟨r1, hf1, h0⟩ := bnd_some h0
  refine x_SI (As := [.int a1, .int a2, .int a3, .int a4]) (rest := []) hC (kX4_whyNotAsk l dC dI cA a1 a2 a3 a4 r1 hf1) (cwS 4 hts gX4_inTheWay_X4_whyNotAsk rfl rfl rfl (by decide +kernel) ⟨Nat.le_of_ble_eq_true rfl, Nat.le_of_ble_eq_true rfl⟩) hV hN hK hP hD hS hA rfl hl.1 rfl (Nat.le_of_ble_eq_true rfl) ⟨Nat.zero_le _, Nat.zero_le _⟩ dX4_inTheWay_5 (fun H locs hP hD hS => ?_)
  refine lv_istore (lv' := [(5, .int r1), (0, .ref h), (1, .int a1), (2, .int a2), (3, .int a3), (4, .int a4)]) hx hb dX4_inTheWay_8 hl (by decide) rfl (fun ls hl => ?_)
  refine lv_iload hx hb dX4_inTheWay_10 (lv_at hl 0 rfl) ?_
  refine lv_if_ge (tgt := 20) hx hb dX4_inTheWay_12 (by decide) (fun hc => ?_) (fun hc => ?_)
  · have h0 := it_t h0 hc
    refine lv_aload_n hx hb dX4_inTheWay_20 rfl (lv_at hl 1 rfl) ?_
    refine lv_iload_n hx hb dX4_inTheWay_21 rfl (lv_at hl 2 rfl) ?_
    refine lv_iload_n hx hb dX4_inTheWay_22 rfl (lv_at hl 3 rfl) ?_
    refine lv_iload_n hx hb dX4_inTheWay_23 rfl (lv_at hl 4 rfl) ?_
    refine lv_iload hx hb dX4_inTheWay_24 (lv_at hl 5 rfl) ?_
    refine lv_aload_n hx hb dX4_inTheWay_26 rfl (lv_at hl 1 rfl) ?_
    refine va_get (D := (dC, dI)) (ci := 4) (v := .ref (ad 0)) (C := RX4) (T := TX4) (N := 16) hx hb hts hin0 hown hK hP 0 rfl rfl 0 (by decide) (hts (.fieldLink RX4 7 "MeanLocksModel" "at" "[I") (List.mem_of_getElem? (i := 1) rfl)) (fun _ h9 => h9) rfl dX4_inTheWay_27 ?_
    refine lv_iconst (v := (1 : Int32)) hx hb dX4_inTheWay_30 (by decide) ?_
    obtain ⟨hi, h0⟩ := ax_some h0
    refine va_iald hx hb hK hP 1 0 rfl rfl hi dX4_inTheWay_31 ?_
    obtain ⟨r2, hf2, h0⟩ := bnd_some h0
    refine x_VI (As := [.int a1, .int a2, .int a3, .int a4, .int (σ 0 ((1 : Int32) : Int32).toNatClampNeg)]) (rest := []) hC (kX4_stoppedIn l dC dI cA h ad a1 a2 a3 a4 (σ 0 ((1 : Int32) : Int32).toNatClampNeg) σ r2  hf2) (cwV 5 hts gX4_inTheWay_X4_stoppedIn rfl rfl rfl (by decide +kernel) ⟨Nat.le_of_ble_eq_true rfl, Nat.le_of_ble_eq_true rfl⟩) 0 4 hV hN hK hP hD hS hA rfl rfl rfl rfl hl.1 rfl (Nat.le_of_ble_eq_true rfl) ⟨Nat.zero_le _, Nat.zero_le _⟩ dX4_inTheWay_32 (fun H locs hP hD hS => ?_)
    have e1 := Option.some.inj h0
    exact x_retI hC hr hlocks rfl hP hD hS dX4_inTheWay_35 ⟨e1, rfl⟩
  · have h0 := it_f h0 hc
    refine lv_iload hx hb dX4_inTheWay_15 (lv_at hl 0 rfl) ?_
    refine lv_goto (tgt := 35) hx hb dX4_inTheWay_17 (by decide) ?_
    have e1 := Option.some.inj h0
    exact x_retI hC hr hlocks rfl hP hD hS dX4_inTheWay_35 ⟨e1, rfl⟩
def fX4_leave (a1 : Int32) (σ : St) : Option (Int32 × St) := bn2 (fX4_tryLeave a1 (1 : Int32) σ) fun r1 s2 => some (r1, s2)
abbrev rmX4_leave : Room := { frames := 9, cells := 0, slots := 0, locals := 211 }
set_option maxHeartbeats 4000000 in
set_option maxRecDepth 100000 in
theorem kX4_leave (l : Launch) (dC : Nat → ClassId) (dI : Nat → Nat → Nat) (cA : Nat → ClassId) (h : Nat) (ad : Nat → Nat) (a1 : Int32) (σ : St) (R0 : Int32) (σ' : St) (h0 : fX4_leave a1 σ = some (R0, σ')) : CI l yX4_leave wsX4_leave rmX4_leave (dC, dI) vwCl (tysW cA) [.ref h, .int a1] (wM cA h ad σ) R0 (wM cA h ad σ') := by
  refine CGI_of (cc := cX4_leave) (nL := 2) (ret := (some .int)) (by decide) rfl (Nat.le_of_ble_eq_true rfl) ?_
  intro p e s m av below meth c A ls H locs hC hl
  obtain ⟨hC, hr, hlocks, hV, hN, hK, hP, hD, hS, hA⟩ := hC
  have hC : CallFix p m c cX4_leave 2 s _ wsX4_leave RX4 := hC
  obtain ⟨hx, hb, hml, hown, hts⟩ := id hC
  have hin0 : ∀ w ∈ u_ws RX4 TX4 16, w ∈ wsX4_leave := fun _ h => (List.mem_cons_of_mem _ (List.mem_append_right _ h))
  have hl : lv_has ls 2 [(0, .ref h), (1, .int a1)] := hl
  unfold fX4_leave at h0
  refine lv_aload_n hx hb dX4_leave_0 rfl (lv_at hl 0 rfl) ?_
  refine lv_iload_n hx hb dX4_leave_1 rfl (lv_at hl 1 rfl) ?_
  refine lv_iconst (v := (1 : Int32)) hx hb dX4_leave_2 (by decide) ?_
  obtain ⟨r1, s2, hf1, h0⟩ := bn2_some h0
  refine x_VI (As := [.int a1, .int (1 : Int32)]) (rest := []) hC (kX4_tryLeave l dC dI cA h ad a1 (1 : Int32) σ r1 s2 hf1) (cwV 2 hts gX4_leave_X4_tryLeave rfl rfl rfl (by decide +kernel) ⟨Nat.le_of_ble_eq_true rfl, Nat.le_of_ble_eq_true rfl⟩) 0 4 hV hN hK hP hD hS hA rfl rfl rfl rfl hl.1 rfl (Nat.le_of_ble_eq_true rfl) ⟨Nat.zero_le _, Nat.zero_le _⟩ dX4_leave_3 (fun H locs hP hD hS => ?_)
  obtain ⟨e1, e2⟩ := Prod.mk.inj (Option.some.inj h0)
  exact x_retI hC hr hlocks rfl hP hD hS dX4_leave_6 ⟨e1, by rw [← e2]⟩
def bX4_longestFor_42 (a1 : Int32) (a2 : Int32) (σ : St) (x7 : Int32) (x6 : Int32) (x5 : Int32) (x4 : Int32) : Option ((Int32 × Int32 × Int32 × Int32) ⊕ (Int32 × Int32 × Int32 × Int32)) := if (300 : Int32) ≤ x4 then (some (.inr (x7, x6, x5, x4))) else (ax (1 : Int32) 2488 (bnd (fX4_stoppedBy a1 a2 x4 (σ 0 ((1 : Int32) : Int32).toNatClampNeg) σ) fun r8 => if (r8 : Int32) = (0 : Int32) then (nm (x7 + (1 : Int32)) fun v14 => if (v14 : Int32) ≤ x5 then (if (v14 : Int32) ≤ x5 then (nm (x4 + (1 : Int32)) fun v15 => some (.inl (v14, x6, x5, v15))) else (nm (x4 + (1 : Int32)) fun v16 => some (.inl (v14, x6, v14, v16)))) else (nm ((x4 + (1 : Int32)) - v14) fun v17 => if (v14 : Int32) ≤ x5 then (nm (x4 + (1 : Int32)) fun v18 => some (.inl (v14, v17, x5, v18))) else (nm (x4 + (1 : Int32)) fun v19 => some (.inl (v14, v17, v14, v19))))) else (if ((0 : Int32) : Int32) ≤ x5 then (if ((0 : Int32) : Int32) ≤ x5 then (nm (x4 + (1 : Int32)) fun v9 => some (.inl ((0 : Int32), x6, x5, v9))) else (nm (x4 + (1 : Int32)) fun v10 => some (.inl ((0 : Int32), x6, (0 : Int32), v10)))) else (nm ((x4 + (1 : Int32)) - (0 : Int32)) fun v11 => if ((0 : Int32) : Int32) ≤ x5 then (nm (x4 + (1 : Int32)) fun v12 => some (.inl ((0 : Int32), v11, x5, v12))) else (nm (x4 + (1 : Int32)) fun v13 => some (.inl ((0 : Int32), v11, (0 : Int32), v13)))))))
def fX4_longestFor (a1 : Int32) (a2 : Int32) (a3 : Int32) (σ : St) : Option Int32 := bnd (fX4_isOwner a1) fun r1 => if (r1 : Int32) = (0 : Int32) then (some (-1 : Int32)) else (bnd (fX4_in a2 (1 : Int32) (3 : Int32)) fun r2 => if (r2 : Int32) = (0 : Int32) then (some (-2 : Int32)) else (bnd (fX4_in a3 (0 : Int32) (1 : Int32)) fun r3 => if (r3 : Int32) = (0 : Int32) then (some (-2 : Int32)) else (bnd (lp (fun t : (Int32 × Int32 × Int32 × Int32) => bX4_longestFor_42 a1 a2 σ t.1 t.2.1 t.2.2.1 t.2.2.2) FU ((0 : Int32), (0 : Int32), (0 : Int32), (0 : Int32))) (fun e : (Int32 × Int32 × Int32 × Int32) => nm e.1 fun x20 => nm e.2.1 fun x21 => nm e.2.2.1 fun x22 => nm e.2.2.2 fun x23 => if (x22 : Int32) = (0 : Int32) then (some (-6 : Int32)) else (if (a3 : Int32) = (0 : Int32) then (some x21) else (some x22))))))
abbrev rmX4_longestFor : Room := { frames := 3, cells := 0, slots := 0, locals := 74 }
set_option maxHeartbeats 4000000 in
set_option maxRecDepth 100000 in
theorem kX4_longestFor (l : Launch) (dC : Nat → ClassId) (dI : Nat → Nat → Nat) (cA : Nat → ClassId) (h : Nat) (ad : Nat → Nat) (a1 : Int32) (a2 : Int32) (a3 : Int32) (σ : St) (R0 : Int32) (h0 : fX4_longestFor a1 a2 a3 σ = some R0) : CI l yX4_longestFor wsX4_longestFor rmX4_longestFor (dC, dI) vwCl (tysW cA) [.ref h, .int a1, .int a2, .int a3] (wM cA h ad σ) R0 (wM cA h ad σ) := by
  refine CGI_of (cc := cX4_longestFor) (nL := 8) (ret := (some .int)) (by decide) rfl (Nat.le_of_ble_eq_true rfl) ?_
  intro p e s m av below meth c A ls H locs hC hl
  obtain ⟨hC, hr, hlocks, hV, hN, hK, hP, hD, hS, hA⟩ := hC
  have hC : CallFix p m c cX4_longestFor 8 s _ wsX4_longestFor RX4 := hC
  obtain ⟨hx, hb, hml, hown, hts⟩ := id hC
  have hin0 : ∀ w ∈ u_ws RX4 TX4 16, w ∈ wsX4_longestFor := fun _ h => (List.mem_cons_of_mem _ (List.mem_append_right _ h))
  have hl : lv_has ls 8 [(0, .ref h), (1, .int a1), (2, .int a2), (3, .int a3)] := hl
  unfold fX4_longestFor at h0
  refine lv_iload_n hx hb dX4_longestFor_0 rfl (lv_at hl 1 rfl) ?_
  obtain ⟨r1, hf1, h0⟩ := bnd_some h0
  refine x_SI (As := [.int a1]) (rest := []) hC (kX4_isOwner l dC dI cA a1 r1 hf1) (cwS 1 hts gX4_longestFor_X4_isOwner rfl rfl rfl (by decide +kernel) ⟨Nat.le_of_ble_eq_true rfl, Nat.le_of_ble_eq_true rfl⟩) hV hN hK hP hD hS hA rfl hl.1 rfl (Nat.le_of_ble_eq_true rfl) ⟨Nat.zero_le _, Nat.zero_le _⟩ dX4_longestFor_1 (fun H locs hP hD hS => ?_)
  refine lv_if_ne (tgt := 9) hx hb dX4_longestFor_4 (by decide) (fun hc => ?_) (fun hc => ?_)
  · have h0 := it_f h0 hc
    refine lv_iload_n hx hb dX4_longestFor_9 rfl (lv_at hl 2 rfl) ?_
    refine lv_iconst (v := (1 : Int32)) hx hb dX4_longestFor_10 (by decide) ?_
    refine lv_iconst (v := (3 : Int32)) hx hb dX4_longestFor_11 (by decide) ?_
    obtain ⟨r2, hf2, h0⟩ := bnd_some h0
    refine x_SI (As := [.int a2, .int (1 : Int32), .int (3 : Int32)]) (rest := []) hC (kX4_in l dC dI cA a2 (1 : Int32) (3 : Int32) r2 hf2) (cwS 3 hts gX4_longestFor_X4_in rfl rfl rfl (by decide +kernel) ⟨Nat.le_of_ble_eq_true rfl, Nat.le_of_ble_eq_true rfl⟩) hV hN hK hP hD hS hA rfl hl.1 rfl (Nat.le_of_ble_eq_true rfl) ⟨Nat.zero_le _, Nat.zero_le _⟩ dX4_longestFor_12 (fun H locs hP hD hS => ?_)
    refine lv_if_eq (tgt := 27) hx hb dX4_longestFor_15 (by decide) (fun hc => ?_) (fun hc => ?_)
    · have h0 := it_t h0 hc
      refine lv_bipush (v := (-2 : Int32)) hx hb dX4_longestFor_27 (by decide) ?_
      have e1 := Option.some.inj h0
      exact x_retI hC hr hlocks rfl hP hD hS dX4_longestFor_29 ⟨e1, rfl⟩
    · have h0 := it_f h0 hc
      refine lv_iload_n hx hb dX4_longestFor_18 rfl (lv_at hl 3 rfl) ?_
      refine lv_iconst (v := (0 : Int32)) hx hb dX4_longestFor_19 (by decide) ?_
      refine lv_iconst (v := (1 : Int32)) hx hb dX4_longestFor_20 (by decide) ?_
      obtain ⟨r3, hf3, h0⟩ := bnd_some h0
      refine x_SI (As := [.int a3, .int (0 : Int32), .int (1 : Int32)]) (rest := []) hC (kX4_in l dC dI cA a3 (0 : Int32) (1 : Int32) r3 hf3) (cwS 3 hts gX4_longestFor_X4_in rfl rfl rfl (by decide +kernel) ⟨Nat.le_of_ble_eq_true rfl, Nat.le_of_ble_eq_true rfl⟩) hV hN hK hP hD hS hA rfl hl.1 rfl (Nat.le_of_ble_eq_true rfl) ⟨Nat.zero_le _, Nat.zero_le _⟩ dX4_longestFor_21 (fun H locs hP hD hS => ?_)
      refine lv_if_ne (tgt := 30) hx hb dX4_longestFor_24 (by decide) (fun hc => ?_) (fun hc => ?_)
      · have h0 := it_f h0 hc
        refine lv_iconst (v := (0 : Int32)) hx hb dX4_longestFor_30 (by decide) ?_
        refine lv_istore (lv' := [(4, .int (0 : Int32)), (0, .ref h), (1, .int a1), (2, .int a2), (3, .int a3)]) hx hb dX4_longestFor_31 hl (by decide) rfl (fun ls hl => ?_)
        refine lv_iconst (v := (0 : Int32)) hx hb dX4_longestFor_33 (by decide) ?_
        refine lv_istore (lv' := [(5, .int (0 : Int32)), (4, .int (0 : Int32)), (0, .ref h), (1, .int a1), (2, .int a2), (3, .int a3)]) hx hb dX4_longestFor_34 hl (by decide) rfl (fun ls hl => ?_)
        refine lv_iconst (v := (0 : Int32)) hx hb dX4_longestFor_36 (by decide) ?_
        refine lv_istore (lv' := [(6, .int (0 : Int32)), (5, .int (0 : Int32)), (4, .int (0 : Int32)), (0, .ref h), (1, .int a1), (2, .int a2), (3, .int a3)]) hx hb dX4_longestFor_37 hl (by decide) rfl (fun ls hl => ?_)
        refine lv_iconst (v := (0 : Int32)) hx hb dX4_longestFor_39 (by decide) ?_
        refine lv_istore (lv' := [(7, .int (0 : Int32)), (6, .int (0 : Int32)), (5, .int (0 : Int32)), (4, .int (0 : Int32)), (0, .ref h), (1, .int a1), (2, .int a2), (3, .int a3)]) hx hb dX4_longestFor_40 hl (by decide) rfl (fun ls hl => ?_)
        obtain ⟨ε4, hl4, h0⟩ := bnd_some h0
        have KN4 : ∀ (x20 : Int32) (x21 : Int32) (x22 : Int32) (x23 : Int32), ε4 = (x20, x21, x22, x23) → ∀ (H : Heap) (locs : List Loc), va_P (dC, dI) vwCl (wM cA h ad σ) H → va_D A (wM cA h ad σ) → va_S A s.heap H locs → ∀ (ls : Array Slot), lv_has ls 8 [(7, .int x23), (6, .int x22), (5, .int x21), (4, .int x20), (0, .ref h), (1, .int a1), (2, .int a2), (3, .int a3)] → W p l e (headSpec wsX4_longestFor rmX4_longestFor).room s m av below meth c H locs 0 0 (MQ below (qI (dC, dI) A R0 (wM cA h ad σ)) av s 0 0 A) (F0 m 120 ls []) := by
          intro x20 x21 x22 x23 hε H locs hP hD hS ls hl
          rw [hε] at h0
          have h0 := nm_at (z := x20) rfl h0
          have h0 := nm_at (z := x21) rfl h0
          have h0 := nm_at (z := x22) rfl h0
          have h0 := nm_at (z := x23) rfl h0
          refine lv_iload hx hb dX4_longestFor_120 (lv_at hl 1 rfl) ?_
          refine lv_if_ne (tgt := 130) hx hb dX4_longestFor_122 (by decide) (fun hc => ?_) (fun hc => ?_)
          · have h0 := it_f h0 hc
            refine lv_iload_n hx hb dX4_longestFor_130 rfl (lv_at hl 7 rfl) ?_
            refine lv_if_ne (tgt := 139) hx hb dX4_longestFor_131 (by decide) (fun hc => ?_) (fun hc => ?_)
            · have h0 := it_f h0 hc
              refine lv_iload hx hb dX4_longestFor_139 (lv_at hl 1 rfl) ?_
              have e1 := Option.some.inj h0
              exact x_retI hC hr hlocks rfl hP hD hS dX4_longestFor_141 ⟨e1, rfl⟩
            · have h0 := it_t h0 hc
              refine lv_iload hx hb dX4_longestFor_134 (lv_at hl 2 rfl) ?_
              refine lv_goto (tgt := 141) hx hb dX4_longestFor_136 (by decide) ?_
              have e1 := Option.some.inj h0
              exact x_retI hC hr hlocks rfl hP hD hS dX4_longestFor_141 ⟨e1, rfl⟩
          · have h0 := it_t h0 hc
            refine lv_bipush (v := (-6 : Int32)) hx hb dX4_longestFor_125 (by decide) ?_
            refine lv_goto (tgt := 141) hx hb dX4_longestFor_127 (by decide) ?_
            have e1 := Option.some.inj h0
            exact x_retI hC hr hlocks rfl hP hD hS dX4_longestFor_141 ⟨e1, rfl⟩
        have LP4 : ∀ (n : Nat) (x7 : Int32) (x6 : Int32) (x5 : Int32) (x4 : Int32), lp (fun t : (Int32 × Int32 × Int32 × Int32) => bX4_longestFor_42 a1 a2 σ t.1 t.2.1 t.2.2.1 t.2.2.2) n (x7, x6, x5, x4) = some ε4 → ∀ (H : Heap) (locs : List Loc), va_P (dC, dI) vwCl (wM cA h ad σ) H → va_D A (wM cA h ad σ) → va_S A s.heap H locs → ∀ (ls : Array Slot), lv_has ls 8 [(7, .int x4), (6, .int x5), (5, .int x6), (4, .int x7), (0, .ref h), (1, .int a1), (2, .int a2), (3, .int a3)] → W p l e (headSpec wsX4_longestFor rmX4_longestFor).room s m av below meth c H locs 0 0 (MQ below (qI (dC, dI) A R0 (wM cA h ad σ)) av s 0 0 A) (F0 m 42 ls []) := by
          intro n
          induction n with
          | zero => intro x7 x6 x5 x4 hl0; exact (lp_0 hl0).elim
          | succ n ih4 =>
            intro x7 x6 x5 x4 hl0 H locs hP hD hS ls hl
            obtain ⟨z4, h1, hz4⟩ := lp_s hl0
            have h1 : bX4_longestFor_42 a1 a2 σ x7 x6 x5 x4 = some z4 := h1
            unfold bX4_longestFor_42 at h1
            refine lv_iload hx hb dX4_longestFor_42 (lv_at hl 0 rfl) ?_
            refine lv_sipush (v := (300 : Int32)) hx hb dX4_longestFor_44 (by decide) ?_
            refine lv_icmp_ge (tgt := 120) hx hb dX4_longestFor_47 (by decide) (fun hc => ?_) (fun hc => ?_)
            · have h1 := it_t h1 hc
              have he := lp_r h1 hz4
              exact KN4 x7 x6 x5 x4 he _ _ hP hD hS ls (lv_sub hl [0, 1, 2, 3, 4, 5, 6, 7] rfl)
            · have h1 := it_f h1 hc
              refine lv_aload_n hx hb dX4_longestFor_50 rfl (lv_at hl 4 rfl) ?_
              refine lv_iload_n hx hb dX4_longestFor_51 rfl (lv_at hl 5 rfl) ?_
              refine lv_iload_n hx hb dX4_longestFor_52 rfl (lv_at hl 6 rfl) ?_
              refine lv_iload hx hb dX4_longestFor_53 (lv_at hl 0 rfl) ?_
              refine lv_aload_n hx hb dX4_longestFor_55 rfl (lv_at hl 4 rfl) ?_
              refine va_get (D := (dC, dI)) (ci := 4) (v := .ref (ad 0)) (C := RX4) (T := TX4) (N := 16) hx hb hts hin0 hown hK hP 0 rfl rfl 0 (by decide) (hts (.fieldLink RX4 7 "MeanLocksModel" "at" "[I") (List.mem_of_getElem? (i := 1) rfl)) (fun _ h9 => h9) rfl dX4_longestFor_56 ?_
              refine lv_iconst (v := (1 : Int32)) hx hb dX4_longestFor_59 (by decide) ?_
              obtain ⟨hi, h1⟩ := ax_some h1
              refine va_iald hx hb hK hP 1 0 rfl rfl hi dX4_longestFor_60 ?_
              obtain ⟨r8, hf5, h1⟩ := bnd_some h1
              refine x_VI (As := [.int a1, .int a2, .int x4, .int (σ 0 ((1 : Int32) : Int32).toNatClampNeg)]) (rest := []) hC (kX4_stoppedBy l dC dI cA h ad a1 a2 x4 (σ 0 ((1 : Int32) : Int32).toNatClampNeg) σ r8  hf5) (cwV 4 hts gX4_longestFor_X4_stoppedBy rfl rfl rfl (by decide +kernel) ⟨Nat.le_of_ble_eq_true rfl, Nat.le_of_ble_eq_true rfl⟩) 0 4 hV hN hK hP hD hS hA rfl rfl rfl rfl hl.1 rfl (Nat.le_of_ble_eq_true rfl) ⟨Nat.zero_le _, Nat.zero_le _⟩ dX4_longestFor_61 (fun H locs hP hD hS => ?_)
              refine lv_if_ne (tgt := 74) hx hb dX4_longestFor_64 (by decide) (fun hc => ?_) (fun hc => ?_)
              · have h1 := it_f h1 hc
                refine lv_iconst (v := (0 : Int32)) hx hb dX4_longestFor_74 (by decide) ?_
                refine lv_istore (lv' := [(4, .int (0 : Int32)), (7, .int x4), (6, .int x5), (5, .int x6), (0, .ref h), (1, .int a1), (2, .int a2), (3, .int a3)]) hx hb dX4_longestFor_75 hl (by decide) rfl (fun ls hl => ?_)
                refine lv_iload hx hb dX4_longestFor_77 (lv_at hl 0 rfl) ?_
                refine lv_iload hx hb dX4_longestFor_79 (lv_at hl 2 rfl) ?_
                refine lv_icmp_le (tgt := 94) hx hb dX4_longestFor_81 (by decide) (fun hc => ?_) (fun hc => ?_)
                · have h1 := it_t h1 hc
                  refine lv_iload hx hb dX4_longestFor_94 (lv_at hl 3 rfl) ?_
                  refine lv_istore (lv' := [(5, .int x6), (4, .int (0 : Int32)), (7, .int x4), (6, .int x5), (0, .ref h), (1, .int a1), (2, .int a2), (3, .int a3)]) hx hb dX4_longestFor_96 hl (by decide) rfl (fun ls hl => ?_)
                  refine lv_iload hx hb dX4_longestFor_98 (lv_at hl 1 rfl) ?_
                  refine lv_iload hx hb dX4_longestFor_100 (lv_at hl 3 rfl) ?_
                  refine lv_icmp_le (tgt := 110) hx hb dX4_longestFor_102 (by decide) (fun hc => ?_) (fun hc => ?_)
                  · have h1 := it_t h1 hc
                    refine lv_iload hx hb dX4_longestFor_110 (lv_at hl 3 rfl) ?_
                    refine lv_istore (lv' := [(6, .int x5), (5, .int x6), (4, .int (0 : Int32)), (7, .int x4), (0, .ref h), (1, .int a1), (2, .int a2), (3, .int a3)]) hx hb dX4_longestFor_112 hl (by decide) rfl (fun ls hl => ?_)
                    obtain ⟨v9, ev9, h1⟩ := nm_some h1
                    refine lv_iinc (v := v9) (lv' := [(7, .int v9), (6, .int x5), (5, .int x6), (4, .int (0 : Int32)), (0, .ref h), (1, .int a1), (2, .int a2), (3, .int a3)]) hx hb dX4_longestFor_114 hl (k := 3) rfl (by rw [ev9]; rfl) (by decide) rfl (fun ls hl => ?_)
                    refine lv_goto (tgt := 42) hx hb dX4_longestFor_117 (by decide) ?_
                    have hc := lp_l h1 hz4
                    exact ih4 (0 : Int32) x6 x5 v9 hc _ _ hP hD hS ls (lv_sub hl [0, 1, 2, 3, 4, 5, 6, 7] rfl)
                  · have h1 := it_f h1 hc
                    refine lv_iload hx hb dX4_longestFor_105 (lv_at hl 1 rfl) ?_
                    refine lv_goto (tgt := 112) hx hb dX4_longestFor_107 (by decide) ?_
                    refine lv_istore (lv' := [(6, .int (0 : Int32)), (5, .int x6), (4, .int (0 : Int32)), (7, .int x4), (0, .ref h), (1, .int a1), (2, .int a2), (3, .int a3)]) hx hb dX4_longestFor_112 hl (by decide) rfl (fun ls hl => ?_)
                    obtain ⟨v10, ev10, h1⟩ := nm_some h1
                    refine lv_iinc (v := v10) (lv' := [(7, .int v10), (6, .int (0 : Int32)), (5, .int x6), (4, .int (0 : Int32)), (0, .ref h), (1, .int a1), (2, .int a2), (3, .int a3)]) hx hb dX4_longestFor_114 hl (k := 3) rfl (by rw [ev10]; rfl) (by decide) rfl (fun ls hl => ?_)
                    refine lv_goto (tgt := 42) hx hb dX4_longestFor_117 (by decide) ?_
                    have hc := lp_l h1 hz4
                    exact ih4 (0 : Int32) x6 (0 : Int32) v10 hc _ _ hP hD hS ls (lv_sub hl [0, 1, 2, 3, 4, 5, 6, 7] rfl)
                · have h1 := it_f h1 hc
                  refine lv_iload hx hb dX4_longestFor_84 (lv_at hl 1 rfl) ?_
                  refine lv_iconst (v := (1 : Int32)) hx hb dX4_longestFor_86 (by decide) ?_
                  refine lv_iadd hx hb dX4_longestFor_87 ?_
                  refine lv_iload hx hb dX4_longestFor_88 (lv_at hl 0 rfl) ?_
                  refine lv_isub hx hb dX4_longestFor_90 ?_
                  refine lv_goto (tgt := 96) hx hb dX4_longestFor_91 (by decide) ?_
                  refine lv_topi (fun v11 ev11 => ?_)
                  have h1 := nm_at ev11 h1
                  refine lv_istore (lv' := [(5, .int v11), (4, .int (0 : Int32)), (7, .int x4), (6, .int x5), (0, .ref h), (1, .int a1), (2, .int a2), (3, .int a3)]) hx hb dX4_longestFor_96 hl (by decide) rfl (fun ls hl => ?_)
                  refine lv_iload hx hb dX4_longestFor_98 (lv_at hl 1 rfl) ?_
                  refine lv_iload hx hb dX4_longestFor_100 (lv_at hl 3 rfl) ?_
                  refine lv_icmp_le (tgt := 110) hx hb dX4_longestFor_102 (by decide) (fun hc => ?_) (fun hc => ?_)
                  · have h1 := it_t h1 hc
                    refine lv_iload hx hb dX4_longestFor_110 (lv_at hl 3 rfl) ?_
                    refine lv_istore (lv' := [(6, .int x5), (5, .int v11), (4, .int (0 : Int32)), (7, .int x4), (0, .ref h), (1, .int a1), (2, .int a2), (3, .int a3)]) hx hb dX4_longestFor_112 hl (by decide) rfl (fun ls hl => ?_)
                    obtain ⟨v12, ev12, h1⟩ := nm_some h1
                    refine lv_iinc (v := v12) (lv' := [(7, .int v12), (6, .int x5), (5, .int v11), (4, .int (0 : Int32)), (0, .ref h), (1, .int a1), (2, .int a2), (3, .int a3)]) hx hb dX4_longestFor_114 hl (k := 3) rfl (by rw [ev12]; rfl) (by decide) rfl (fun ls hl => ?_)
                    refine lv_goto (tgt := 42) hx hb dX4_longestFor_117 (by decide) ?_
                    have hc := lp_l h1 hz4
                    exact ih4 (0 : Int32) v11 x5 v12 hc _ _ hP hD hS ls (lv_sub hl [0, 1, 2, 3, 4, 5, 6, 7] rfl)
                  · have h1 := it_f h1 hc
                    refine lv_iload hx hb dX4_longestFor_105 (lv_at hl 1 rfl) ?_
                    refine lv_goto (tgt := 112) hx hb dX4_longestFor_107 (by decide) ?_
                    refine lv_istore (lv' := [(6, .int (0 : Int32)), (5, .int v11), (4, .int (0 : Int32)), (7, .int x4), (0, .ref h), (1, .int a1), (2, .int a2), (3, .int a3)]) hx hb dX4_longestFor_112 hl (by decide) rfl (fun ls hl => ?_)
                    obtain ⟨v13, ev13, h1⟩ := nm_some h1
                    refine lv_iinc (v := v13) (lv' := [(7, .int v13), (6, .int (0 : Int32)), (5, .int v11), (4, .int (0 : Int32)), (0, .ref h), (1, .int a1), (2, .int a2), (3, .int a3)]) hx hb dX4_longestFor_114 hl (k := 3) rfl (by rw [ev13]; rfl) (by decide) rfl (fun ls hl => ?_)
                    refine lv_goto (tgt := 42) hx hb dX4_longestFor_117 (by decide) ?_
                    have hc := lp_l h1 hz4
                    exact ih4 (0 : Int32) v11 (0 : Int32) v13 hc _ _ hP hD hS ls (lv_sub hl [0, 1, 2, 3, 4, 5, 6, 7] rfl)
              · have h1 := it_t h1 hc
                refine lv_iload hx hb dX4_longestFor_67 (lv_at hl 3 rfl) ?_
                refine lv_iconst (v := (1 : Int32)) hx hb dX4_longestFor_69 (by decide) ?_
                refine lv_iadd hx hb dX4_longestFor_70 ?_
                refine lv_goto (tgt := 75) hx hb dX4_longestFor_71 (by decide) ?_
                refine lv_topi (fun v14 ev14 => ?_)
                have h1 := nm_at ev14 h1
                refine lv_istore (lv' := [(4, .int v14), (7, .int x4), (6, .int x5), (5, .int x6), (0, .ref h), (1, .int a1), (2, .int a2), (3, .int a3)]) hx hb dX4_longestFor_75 hl (by decide) rfl (fun ls hl => ?_)
                refine lv_iload hx hb dX4_longestFor_77 (lv_at hl 0 rfl) ?_
                refine lv_iload hx hb dX4_longestFor_79 (lv_at hl 2 rfl) ?_
                refine lv_icmp_le (tgt := 94) hx hb dX4_longestFor_81 (by decide) (fun hc => ?_) (fun hc => ?_)
                · have h1 := it_t h1 hc
                  refine lv_iload hx hb dX4_longestFor_94 (lv_at hl 3 rfl) ?_
                  refine lv_istore (lv' := [(5, .int x6), (4, .int v14), (7, .int x4), (6, .int x5), (0, .ref h), (1, .int a1), (2, .int a2), (3, .int a3)]) hx hb dX4_longestFor_96 hl (by decide) rfl (fun ls hl => ?_)
                  refine lv_iload hx hb dX4_longestFor_98 (lv_at hl 1 rfl) ?_
                  refine lv_iload hx hb dX4_longestFor_100 (lv_at hl 3 rfl) ?_
                  refine lv_icmp_le (tgt := 110) hx hb dX4_longestFor_102 (by decide) (fun hc => ?_) (fun hc => ?_)
                  · have h1 := it_t h1 hc
                    refine lv_iload hx hb dX4_longestFor_110 (lv_at hl 3 rfl) ?_
                    refine lv_istore (lv' := [(6, .int x5), (5, .int x6), (4, .int v14), (7, .int x4), (0, .ref h), (1, .int a1), (2, .int a2), (3, .int a3)]) hx hb dX4_longestFor_112 hl (by decide) rfl (fun ls hl => ?_)
                    obtain ⟨v15, ev15, h1⟩ := nm_some h1
                    refine lv_iinc (v := v15) (lv' := [(7, .int v15), (6, .int x5), (5, .int x6), (4, .int v14), (0, .ref h), (1, .int a1), (2, .int a2), (3, .int a3)]) hx hb dX4_longestFor_114 hl (k := 3) rfl (by rw [ev15]; rfl) (by decide) rfl (fun ls hl => ?_)
                    refine lv_goto (tgt := 42) hx hb dX4_longestFor_117 (by decide) ?_
                    have hc := lp_l h1 hz4
                    exact ih4 v14 x6 x5 v15 hc _ _ hP hD hS ls (lv_sub hl [0, 1, 2, 3, 4, 5, 6, 7] rfl)
                  · have h1 := it_f h1 hc
                    refine lv_iload hx hb dX4_longestFor_105 (lv_at hl 1 rfl) ?_
                    refine lv_goto (tgt := 112) hx hb dX4_longestFor_107 (by decide) ?_
                    refine lv_istore (lv' := [(6, .int v14), (5, .int x6), (4, .int v14), (7, .int x4), (0, .ref h), (1, .int a1), (2, .int a2), (3, .int a3)]) hx hb dX4_longestFor_112 hl (by decide) rfl (fun ls hl => ?_)
                    obtain ⟨v16, ev16, h1⟩ := nm_some h1
                    refine lv_iinc (v := v16) (lv' := [(7, .int v16), (6, .int v14), (5, .int x6), (4, .int v14), (0, .ref h), (1, .int a1), (2, .int a2), (3, .int a3)]) hx hb dX4_longestFor_114 hl (k := 3) rfl (by rw [ev16]; rfl) (by decide) rfl (fun ls hl => ?_)
                    refine lv_goto (tgt := 42) hx hb dX4_longestFor_117 (by decide) ?_
                    have hc := lp_l h1 hz4
                    exact ih4 v14 x6 v14 v16 hc _ _ hP hD hS ls (lv_sub hl [0, 1, 2, 3, 4, 5, 6, 7] rfl)
                · have h1 := it_f h1 hc
                  refine lv_iload hx hb dX4_longestFor_84 (lv_at hl 1 rfl) ?_
                  refine lv_iconst (v := (1 : Int32)) hx hb dX4_longestFor_86 (by decide) ?_
                  refine lv_iadd hx hb dX4_longestFor_87 ?_
                  refine lv_iload hx hb dX4_longestFor_88 (lv_at hl 0 rfl) ?_
                  refine lv_isub hx hb dX4_longestFor_90 ?_
                  refine lv_goto (tgt := 96) hx hb dX4_longestFor_91 (by decide) ?_
                  refine lv_topi (fun v17 ev17 => ?_)
                  have h1 := nm_at ev17 h1
                  refine lv_istore (lv' := [(5, .int v17), (4, .int v14), (7, .int x4), (6, .int x5), (0, .ref h), (1, .int a1), (2, .int a2), (3, .int a3)]) hx hb dX4_longestFor_96 hl (by decide) rfl (fun ls hl => ?_)
                  refine lv_iload hx hb dX4_longestFor_98 (lv_at hl 1 rfl) ?_
                  refine lv_iload hx hb dX4_longestFor_100 (lv_at hl 3 rfl) ?_
                  refine lv_icmp_le (tgt := 110) hx hb dX4_longestFor_102 (by decide) (fun hc => ?_) (fun hc => ?_)
                  · have h1 := it_t h1 hc
                    refine lv_iload hx hb dX4_longestFor_110 (lv_at hl 3 rfl) ?_
                    refine lv_istore (lv' := [(6, .int x5), (5, .int v17), (4, .int v14), (7, .int x4), (0, .ref h), (1, .int a1), (2, .int a2), (3, .int a3)]) hx hb dX4_longestFor_112 hl (by decide) rfl (fun ls hl => ?_)
                    obtain ⟨v18, ev18, h1⟩ := nm_some h1
                    refine lv_iinc (v := v18) (lv' := [(7, .int v18), (6, .int x5), (5, .int v17), (4, .int v14), (0, .ref h), (1, .int a1), (2, .int a2), (3, .int a3)]) hx hb dX4_longestFor_114 hl (k := 3) rfl (by rw [ev18]; rfl) (by decide) rfl (fun ls hl => ?_)
                    refine lv_goto (tgt := 42) hx hb dX4_longestFor_117 (by decide) ?_
                    have hc := lp_l h1 hz4
                    exact ih4 v14 v17 x5 v18 hc _ _ hP hD hS ls (lv_sub hl [0, 1, 2, 3, 4, 5, 6, 7] rfl)
                  · have h1 := it_f h1 hc
                    refine lv_iload hx hb dX4_longestFor_105 (lv_at hl 1 rfl) ?_
                    refine lv_goto (tgt := 112) hx hb dX4_longestFor_107 (by decide) ?_
                    refine lv_istore (lv' := [(6, .int v14), (5, .int v17), (4, .int v14), (7, .int x4), (0, .ref h), (1, .int a1), (2, .int a2), (3, .int a3)]) hx hb dX4_longestFor_112 hl (by decide) rfl (fun ls hl => ?_)
                    obtain ⟨v19, ev19, h1⟩ := nm_some h1
                    refine lv_iinc (v := v19) (lv' := [(7, .int v19), (6, .int v14), (5, .int v17), (4, .int v14), (0, .ref h), (1, .int a1), (2, .int a2), (3, .int a3)]) hx hb dX4_longestFor_114 hl (k := 3) rfl (by rw [ev19]; rfl) (by decide) rfl (fun ls hl => ?_)
                    refine lv_goto (tgt := 42) hx hb dX4_longestFor_117 (by decide) ?_
                    have hc := lp_l h1 hz4
                    exact ih4 v14 v17 v14 v19 hc _ _ hP hD hS ls (lv_sub hl [0, 1, 2, 3, 4, 5, 6, 7] rfl)
        exact LP4 FU (0 : Int32) (0 : Int32) (0 : Int32) (0 : Int32) hl4 _ _ hP hD hS ls hl
      · have h0 := it_t h0 hc
        refine lv_bipush (v := (-2 : Int32)) hx hb dX4_longestFor_27 (by decide) ?_
        have e1 := Option.some.inj h0
        exact x_retI hC hr hlocks rfl hP hD hS dX4_longestFor_29 ⟨e1, rfl⟩
  · have h0 := it_t h0 hc
    refine lv_iconst (v := (-1 : Int32)) hx hb dX4_longestFor_7 (by decide) ?_
    have e1 := Option.some.inj h0
    exact x_retI hC hr hlocks rfl hP hD hS dX4_longestFor_8 ⟨e1, rfl⟩
def bX4_placesOfKind_5 (a1 : Int32) (a2 : Int32) (σ : St) (x2 : Int32) (x1 : Int32) : Option ((Int32 × Int32) ⊕ (Int32 × Int32)) := if (300 : Int32) ≤ x1 then (some (.inr (x2, x1))) else (bnd (fX4_lock a1 x1 σ) fun r3 => if (r3 : Int32) = a2 then (nm (x2 + (1 : Int32)) fun v6 => nm (x1 + (1 : Int32)) fun v7 => some (.inl (v6, v7))) else (nm (x2 + (0 : Int32)) fun v4 => nm (x1 + (1 : Int32)) fun v5 => some (.inl (v4, v5))))
def fX4_placesOfKind (a1 : Int32) (a2 : Int32) (σ : St) : Option Int32 := bnd (lp (fun t : (Int32 × Int32) => bX4_placesOfKind_5 a1 a2 σ t.1 t.2) FU ((0 : Int32), (0 : Int32))) (fun e : (Int32 × Int32) => nm e.1 fun x8 => nm e.2 fun x9 => some x8)
abbrev rmX4_placesOfKind : Room := { frames := 1, cells := 0, slots := 0, locals := 22 }
set_option maxHeartbeats 4000000 in
set_option maxRecDepth 100000 in
theorem kX4_placesOfKind (l : Launch) (dC : Nat → ClassId) (dI : Nat → Nat → Nat) (cA : Nat → ClassId) (h : Nat) (ad : Nat → Nat) (a1 : Int32) (a2 : Int32) (σ : St) (R0 : Int32) (h0 : fX4_placesOfKind a1 a2 σ = some R0) : CI l yX4_placesOfKind wsX4_placesOfKind rmX4_placesOfKind (dC, dI) vwCl (tysW cA) [.ref h, .int a1, .int a2] (wM cA h ad σ) R0 (wM cA h ad σ) := by
  refine CGI_of (cc := cX4_placesOfKind) (nL := 5) (ret := (some .int)) (by decide) rfl (Nat.le_of_ble_eq_true rfl) ?_
  intro p e s m av below meth c A ls H locs hC hl
  obtain ⟨hC, hr, hlocks, hV, hN, hK, hP, hD, hS, hA⟩ := hC
  have hC : CallFix p m c cX4_placesOfKind 5 s _ wsX4_placesOfKind RX4 := hC
  obtain ⟨hx, hb, hml, hown, hts⟩ := id hC
  have hin0 : ∀ w ∈ u_ws RX4 TX4 16, w ∈ wsX4_placesOfKind := fun _ h => (List.mem_cons_of_mem _ (List.mem_append_right _ h))
  have hl : lv_has ls 5 [(0, .ref h), (1, .int a1), (2, .int a2)] := hl
  unfold fX4_placesOfKind at h0
  refine lv_iconst (v := (0 : Int32)) hx hb dX4_placesOfKind_0 (by decide) ?_
  refine lv_istore_n (lv' := [(3, .int (0 : Int32)), (0, .ref h), (1, .int a1), (2, .int a2)]) hx hb dX4_placesOfKind_1 rfl hl (by decide) rfl (fun ls hl => ?_)
  refine lv_iconst (v := (0 : Int32)) hx hb dX4_placesOfKind_2 (by decide) ?_
  refine lv_istore (lv' := [(4, .int (0 : Int32)), (3, .int (0 : Int32)), (0, .ref h), (1, .int a1), (2, .int a2)]) hx hb dX4_placesOfKind_3 hl (by decide) rfl (fun ls hl => ?_)
  obtain ⟨ε1, hl1, h0⟩ := bnd_some h0
  have KN1 : ∀ (x8 : Int32) (x9 : Int32), ε1 = (x8, x9) → ∀ (H : Heap) (locs : List Loc), va_P (dC, dI) vwCl (wM cA h ad σ) H → va_D A (wM cA h ad σ) → va_S A s.heap H locs → ∀ (ls : Array Slot), lv_has ls 5 [(4, .int x9), (3, .int x8), (0, .ref h), (1, .int a1), (2, .int a2)] → W p l e (headSpec wsX4_placesOfKind rmX4_placesOfKind).room s m av below meth c H locs 0 0 (MQ below (qI (dC, dI) A R0 (wM cA h ad σ)) av s 0 0 A) (F0 m 38 ls []) := by
    intro x8 x9 hε H locs hP hD hS ls hl
    rw [hε] at h0
    have h0 := nm_at (z := x8) rfl h0
    have h0 := nm_at (z := x9) rfl h0
    refine lv_iload_n hx hb dX4_placesOfKind_38 rfl (lv_at hl 1 rfl) ?_
    have e1 := Option.some.inj h0
    exact x_retI hC hr hlocks rfl hP hD hS dX4_placesOfKind_39 ⟨e1, rfl⟩
  have LP1 : ∀ (n : Nat) (x2 : Int32) (x1 : Int32), lp (fun t : (Int32 × Int32) => bX4_placesOfKind_5 a1 a2 σ t.1 t.2) n (x2, x1) = some ε1 → ∀ (H : Heap) (locs : List Loc), va_P (dC, dI) vwCl (wM cA h ad σ) H → va_D A (wM cA h ad σ) → va_S A s.heap H locs → ∀ (ls : Array Slot), lv_has ls 5 [(4, .int x1), (3, .int x2), (0, .ref h), (1, .int a1), (2, .int a2)] → W p l e (headSpec wsX4_placesOfKind rmX4_placesOfKind).room s m av below meth c H locs 0 0 (MQ below (qI (dC, dI) A R0 (wM cA h ad σ)) av s 0 0 A) (F0 m 5 ls []) := by
    intro n
    induction n with
    | zero => intro x2 x1 hl0; exact (lp_0 hl0).elim
    | succ n ih1 =>
      intro x2 x1 hl0 H locs hP hD hS ls hl
      obtain ⟨z1, h1, hz1⟩ := lp_s hl0
      have h1 : bX4_placesOfKind_5 a1 a2 σ x2 x1 = some z1 := h1
      unfold bX4_placesOfKind_5 at h1
      refine lv_iload hx hb dX4_placesOfKind_5 (lv_at hl 0 rfl) ?_
      refine lv_sipush (v := (300 : Int32)) hx hb dX4_placesOfKind_7 (by decide) ?_
      refine lv_icmp_ge (tgt := 38) hx hb dX4_placesOfKind_10 (by decide) (fun hc => ?_) (fun hc => ?_)
      · have h1 := it_t h1 hc
        have he := lp_r h1 hz1
        exact KN1 x2 x1 he _ _ hP hD hS ls (lv_sub hl [0, 1, 2, 3, 4] rfl)
      · have h1 := it_f h1 hc
        refine lv_iload_n hx hb dX4_placesOfKind_13 rfl (lv_at hl 1 rfl) ?_
        refine lv_aload_n hx hb dX4_placesOfKind_14 rfl (lv_at hl 2 rfl) ?_
        refine lv_iload_n hx hb dX4_placesOfKind_15 rfl (lv_at hl 3 rfl) ?_
        refine lv_iload hx hb dX4_placesOfKind_16 (lv_at hl 0 rfl) ?_
        obtain ⟨r3, hf2, h1⟩ := bnd_some h1
        refine x_VI (As := [.int a1, .int x1]) (rest := [.int x2]) hC (kX4_lock l dC dI cA h ad a1 x1 σ r3  hf2) (cwV 2 hts gX4_placesOfKind_X4_lock rfl rfl rfl (by decide +kernel) ⟨Nat.le_of_ble_eq_true rfl, Nat.le_of_ble_eq_true rfl⟩) 0 4 hV hN hK hP hD hS hA rfl rfl rfl rfl hl.1 rfl (Nat.le_of_ble_eq_true rfl) ⟨Nat.zero_le _, Nat.zero_le _⟩ dX4_placesOfKind_18 (fun H locs hP hD hS => ?_)
        refine lv_iload_n hx hb dX4_placesOfKind_21 rfl (lv_at hl 4 rfl) ?_
        refine lv_icmp_ne (tgt := 29) hx hb dX4_placesOfKind_22 (by decide) (fun hc => ?_) (fun hc => ?_)
        · have h1 := it_f h1 hc
          refine lv_iconst (v := (0 : Int32)) hx hb dX4_placesOfKind_29 (by decide) ?_
          refine lv_iadd hx hb dX4_placesOfKind_30 ?_
          refine lv_topi (fun v4 ev4 => ?_)
          have h1 := nm_at ev4 h1
          refine lv_istore_n (lv' := [(3, .int v4), (4, .int x1), (0, .ref h), (1, .int a1), (2, .int a2)]) hx hb dX4_placesOfKind_31 rfl hl (by decide) rfl (fun ls hl => ?_)
          obtain ⟨v5, ev5, h1⟩ := nm_some h1
          refine lv_iinc (v := v5) (lv' := [(4, .int v5), (3, .int v4), (0, .ref h), (1, .int a1), (2, .int a2)]) hx hb dX4_placesOfKind_32 hl (k := 1) rfl (by rw [ev5]; rfl) (by decide) rfl (fun ls hl => ?_)
          refine lv_goto (tgt := 5) hx hb dX4_placesOfKind_35 (by decide) ?_
          have hc := lp_l h1 hz1
          exact ih1 v4 v5 hc _ _ hP hD hS ls (lv_sub hl [0, 1, 2, 3, 4] rfl)
        · have h1 := it_t h1 hc
          refine lv_iconst (v := (1 : Int32)) hx hb dX4_placesOfKind_25 (by decide) ?_
          refine lv_goto (tgt := 30) hx hb dX4_placesOfKind_26 (by decide) ?_
          refine lv_iadd hx hb dX4_placesOfKind_30 ?_
          refine lv_topi (fun v6 ev6 => ?_)
          have h1 := nm_at ev6 h1
          refine lv_istore_n (lv' := [(3, .int v6), (4, .int x1), (0, .ref h), (1, .int a1), (2, .int a2)]) hx hb dX4_placesOfKind_31 rfl hl (by decide) rfl (fun ls hl => ?_)
          obtain ⟨v7, ev7, h1⟩ := nm_some h1
          refine lv_iinc (v := v7) (lv' := [(4, .int v7), (3, .int v6), (0, .ref h), (1, .int a1), (2, .int a2)]) hx hb dX4_placesOfKind_32 hl (k := 1) rfl (by rw [ev7]; rfl) (by decide) rfl (fun ls hl => ?_)
          refine lv_goto (tgt := 5) hx hb dX4_placesOfKind_35 (by decide) ?_
          have hc := lp_l h1 hz1
          exact ih1 v6 v7 hc _ _ hP hD hS ls (lv_sub hl [0, 1, 2, 3, 4] rfl)
  exact LP1 FU (0 : Int32) (0 : Int32) hl1 _ _ hP hD hS ls hl
def bX4_stretches_4 (a1 : Int32) (σ : St) (x2 : Int32) (x1 : Int32) : Option ((Int32 × Int32) ⊕ (Int32 × Int32)) := if (300 : Int32) ≤ x1 then (some (.inr (x2, x1))) else (bnd (fX4_begins a1 x1 σ) fun r3 => if (r3 : Int32) = (0 : Int32) then (nm (x2 + (0 : Int32)) fun v4 => nm (x1 + (1 : Int32)) fun v5 => some (.inl (v4, v5))) else (nm (x2 + (1 : Int32)) fun v6 => nm (x1 + (1 : Int32)) fun v7 => some (.inl (v6, v7))))
def fX4_stretches (a1 : Int32) (σ : St) : Option Int32 := bnd (lp (fun t : (Int32 × Int32) => bX4_stretches_4 a1 σ t.1 t.2) FU ((0 : Int32), (0 : Int32))) (fun e : (Int32 × Int32) => nm e.1 fun x8 => nm e.2 fun x9 => some x8)
abbrev rmX4_stretches : Room := { frames := 2, cells := 0, slots := 0, locals := 44 }
set_option maxHeartbeats 4000000 in
set_option maxRecDepth 100000 in
theorem kX4_stretches (l : Launch) (dC : Nat → ClassId) (dI : Nat → Nat → Nat) (cA : Nat → ClassId) (h : Nat) (ad : Nat → Nat) (a1 : Int32) (σ : St) (R0 : Int32) (h0 : fX4_stretches a1 σ = some R0) : CI l yX4_stretches wsX4_stretches rmX4_stretches (dC, dI) vwCl (tysW cA) [.ref h, .int a1] (wM cA h ad σ) R0 (wM cA h ad σ) := by
  refine CGI_of (cc := cX4_stretches) (nL := 4) (ret := (some .int)) (by decide) rfl (Nat.le_of_ble_eq_true rfl) ?_
  intro p e s m av below meth c A ls H locs hC hl
  obtain ⟨hC, hr, hlocks, hV, hN, hK, hP, hD, hS, hA⟩ := hC
  have hC : CallFix p m c cX4_stretches 4 s _ wsX4_stretches RX4 := hC
  obtain ⟨hx, hb, hml, hown, hts⟩ := id hC
  have hin0 : ∀ w ∈ u_ws RX4 TX4 16, w ∈ wsX4_stretches := fun _ h => (List.mem_cons_of_mem _ (List.mem_append_right _ h))
  have hl : lv_has ls 4 [(0, .ref h), (1, .int a1)] := hl
  unfold fX4_stretches at h0
  refine lv_iconst (v := (0 : Int32)) hx hb dX4_stretches_0 (by decide) ?_
  refine lv_istore_n (lv' := [(2, .int (0 : Int32)), (0, .ref h), (1, .int a1)]) hx hb dX4_stretches_1 rfl hl (by decide) rfl (fun ls hl => ?_)
  refine lv_iconst (v := (0 : Int32)) hx hb dX4_stretches_2 (by decide) ?_
  refine lv_istore_n (lv' := [(3, .int (0 : Int32)), (2, .int (0 : Int32)), (0, .ref h), (1, .int a1)]) hx hb dX4_stretches_3 rfl hl (by decide) rfl (fun ls hl => ?_)
  obtain ⟨ε1, hl1, h0⟩ := bnd_some h0
  have KN1 : ∀ (x8 : Int32) (x9 : Int32), ε1 = (x8, x9) → ∀ (H : Heap) (locs : List Loc), va_P (dC, dI) vwCl (wM cA h ad σ) H → va_D A (wM cA h ad σ) → va_S A s.heap H locs → ∀ (ls : Array Slot), lv_has ls 4 [(3, .int x9), (2, .int x8), (0, .ref h), (1, .int a1)] → W p l e (headSpec wsX4_stretches rmX4_stretches).room s m av below meth c H locs 0 0 (MQ below (qI (dC, dI) A R0 (wM cA h ad σ)) av s 0 0 A) (F0 m 34 ls []) := by
    intro x8 x9 hε H locs hP hD hS ls hl
    rw [hε] at h0
    have h0 := nm_at (z := x8) rfl h0
    have h0 := nm_at (z := x9) rfl h0
    refine lv_iload_n hx hb dX4_stretches_34 rfl (lv_at hl 1 rfl) ?_
    have e1 := Option.some.inj h0
    exact x_retI hC hr hlocks rfl hP hD hS dX4_stretches_35 ⟨e1, rfl⟩
  have LP1 : ∀ (n : Nat) (x2 : Int32) (x1 : Int32), lp (fun t : (Int32 × Int32) => bX4_stretches_4 a1 σ t.1 t.2) n (x2, x1) = some ε1 → ∀ (H : Heap) (locs : List Loc), va_P (dC, dI) vwCl (wM cA h ad σ) H → va_D A (wM cA h ad σ) → va_S A s.heap H locs → ∀ (ls : Array Slot), lv_has ls 4 [(3, .int x1), (2, .int x2), (0, .ref h), (1, .int a1)] → W p l e (headSpec wsX4_stretches rmX4_stretches).room s m av below meth c H locs 0 0 (MQ below (qI (dC, dI) A R0 (wM cA h ad σ)) av s 0 0 A) (F0 m 4 ls []) := by
    intro n
    induction n with
    | zero => intro x2 x1 hl0; exact (lp_0 hl0).elim
    | succ n ih1 =>
      intro x2 x1 hl0 H locs hP hD hS ls hl
      obtain ⟨z1, h1, hz1⟩ := lp_s hl0
      have h1 : bX4_stretches_4 a1 σ x2 x1 = some z1 := h1
      unfold bX4_stretches_4 at h1
      refine lv_iload_n hx hb dX4_stretches_4 rfl (lv_at hl 0 rfl) ?_
      refine lv_sipush (v := (300 : Int32)) hx hb dX4_stretches_5 (by decide) ?_
      refine lv_icmp_ge (tgt := 34) hx hb dX4_stretches_8 (by decide) (fun hc => ?_) (fun hc => ?_)
      · have h1 := it_t h1 hc
        have he := lp_r h1 hz1
        exact KN1 x2 x1 he _ _ hP hD hS ls (lv_sub hl [0, 1, 2, 3] rfl)
      · have h1 := it_f h1 hc
        refine lv_iload_n hx hb dX4_stretches_11 rfl (lv_at hl 1 rfl) ?_
        refine lv_aload_n hx hb dX4_stretches_12 rfl (lv_at hl 2 rfl) ?_
        refine lv_iload_n hx hb dX4_stretches_13 rfl (lv_at hl 3 rfl) ?_
        refine lv_iload_n hx hb dX4_stretches_14 rfl (lv_at hl 0 rfl) ?_
        obtain ⟨r3, hf2, h1⟩ := bnd_some h1
        refine x_VI (As := [.int a1, .int x1]) (rest := [.int x2]) hC (kX4_begins l dC dI cA h ad a1 x1 σ r3  hf2) (cwV 2 hts gX4_stretches_X4_begins rfl rfl rfl (by decide +kernel) ⟨Nat.le_of_ble_eq_true rfl, Nat.le_of_ble_eq_true rfl⟩) 0 4 hV hN hK hP hD hS hA rfl rfl rfl rfl hl.1 rfl (Nat.le_of_ble_eq_true rfl) ⟨Nat.zero_le _, Nat.zero_le _⟩ dX4_stretches_15 (fun H locs hP hD hS => ?_)
        refine lv_if_eq (tgt := 25) hx hb dX4_stretches_18 (by decide) (fun hc => ?_) (fun hc => ?_)
        · have h1 := it_t h1 hc
          refine lv_iconst (v := (0 : Int32)) hx hb dX4_stretches_25 (by decide) ?_
          refine lv_iadd hx hb dX4_stretches_26 ?_
          refine lv_topi (fun v4 ev4 => ?_)
          have h1 := nm_at ev4 h1
          refine lv_istore_n (lv' := [(2, .int v4), (3, .int x1), (0, .ref h), (1, .int a1)]) hx hb dX4_stretches_27 rfl hl (by decide) rfl (fun ls hl => ?_)
          obtain ⟨v5, ev5, h1⟩ := nm_some h1
          refine lv_iinc (v := v5) (lv' := [(3, .int v5), (2, .int v4), (0, .ref h), (1, .int a1)]) hx hb dX4_stretches_28 hl (k := 1) rfl (by rw [ev5]; rfl) (by decide) rfl (fun ls hl => ?_)
          refine lv_goto (tgt := 4) hx hb dX4_stretches_31 (by decide) ?_
          have hc := lp_l h1 hz1
          exact ih1 v4 v5 hc _ _ hP hD hS ls (lv_sub hl [0, 1, 2, 3] rfl)
        · have h1 := it_f h1 hc
          refine lv_iconst (v := (1 : Int32)) hx hb dX4_stretches_21 (by decide) ?_
          refine lv_goto (tgt := 26) hx hb dX4_stretches_22 (by decide) ?_
          refine lv_iadd hx hb dX4_stretches_26 ?_
          refine lv_topi (fun v6 ev6 => ?_)
          have h1 := nm_at ev6 h1
          refine lv_istore_n (lv' := [(2, .int v6), (3, .int x1), (0, .ref h), (1, .int a1)]) hx hb dX4_stretches_27 rfl hl (by decide) rfl (fun ls hl => ?_)
          obtain ⟨v7, ev7, h1⟩ := nm_some h1
          refine lv_iinc (v := v7) (lv' := [(3, .int v7), (2, .int v6), (0, .ref h), (1, .int a1)]) hx hb dX4_stretches_28 hl (k := 1) rfl (by rw [ev7]; rfl) (by decide) rfl (fun ls hl => ?_)
          refine lv_goto (tgt := 4) hx hb dX4_stretches_31 (by decide) ?_
          have hc := lp_l h1 hz1
          exact ih1 v6 v7 hc _ _ hP hD hS ls (lv_sub hl [0, 1, 2, 3] rfl)
  exact LP1 FU (0 : Int32) (0 : Int32) hl1 _ _ hP hD hS ls hl
def fX4_ofOwner (a1 : Int32) (a2 : Int32) (σ : St) : Option Int32 := bnd (fX4_isOwner a1) fun r1 => if (r1 : Int32) = (0 : Int32) then (some (-1 : Int32)) else (bnd (fX4_in a2 (0 : Int32) (2 : Int32)) fun r2 => if (r2 : Int32) = (0 : Int32) then (if (a2 : Int32) = (3 : Int32) then (bnd (fX4_stretches a1 σ) fun r9 => some r9) else (if (a2 : Int32) = (4 : Int32) then (bnd (fX4_placeInRow a1 σ) fun r8 => some r8) else (bnd (fX4_in a2 (5 : Int32) (8 : Int32)) fun r3 => if (r3 : Int32) = (0 : Int32) then (bnd (fX4_in a2 (9 : Int32) (12 : Int32)) fun r4 => if (r4 : Int32) = (0 : Int32) then (some (-2 : Int32)) else (bnd (fX4_of a1 (a2 - (5 : Int32)) σ) fun r5 => some r5)) else (bnd (fX4_of a1 (0 : Int32) σ) fun r6 => if (r6 : Int32) ≤ (0 : Int32) then (some (-6 : Int32)) else (bnd (fX4_of a1 (a2 - (5 : Int32)) σ) fun r7 => some r7))))) else (bnd (fX4_placesOfKind a1 (a2 + (1 : Int32)) σ) fun r10 => some r10))
abbrev rmX4_ofOwner : Room := { frames := 3, cells := 0, slots := 0, locals := 67 }
set_option maxHeartbeats 4000000 in
set_option maxRecDepth 100000 in
theorem kX4_ofOwner (l : Launch) (dC : Nat → ClassId) (dI : Nat → Nat → Nat) (cA : Nat → ClassId) (h : Nat) (ad : Nat → Nat) (a1 : Int32) (a2 : Int32) (σ : St) (R0 : Int32) (h0 : fX4_ofOwner a1 a2 σ = some R0) : CI l yX4_ofOwner wsX4_ofOwner rmX4_ofOwner (dC, dI) vwCl (tysW cA) [.ref h, .int a1, .int a2] (wM cA h ad σ) R0 (wM cA h ad σ) := by
  refine CGI_of (cc := cX4_ofOwner) (nL := 3) (ret := (some .int)) (by decide) rfl (Nat.le_of_ble_eq_true rfl) ?_
  intro p e s m av below meth c A ls H locs hC hl
  obtain ⟨hC, hr, hlocks, hV, hN, hK, hP, hD, hS, hA⟩ := hC
  have hC : CallFix p m c cX4_ofOwner 3 s _ wsX4_ofOwner RX4 := hC
  obtain ⟨hx, hb, hml, hown, hts⟩ := id hC
  have hin0 : ∀ w ∈ u_ws RX4 TX4 16, w ∈ wsX4_ofOwner := fun _ h => (List.mem_cons_of_mem _ (List.mem_append_right _ h))
  have hl : lv_has ls 3 [(0, .ref h), (1, .int a1), (2, .int a2)] := hl
  unfold fX4_ofOwner at h0
  refine lv_iload_n hx hb dX4_ofOwner_0 rfl (lv_at hl 1 rfl) ?_
  obtain ⟨r1, hf1, h0⟩ := bnd_some h0
  refine x_SI (As := [.int a1]) (rest := []) hC (kX4_isOwner l dC dI cA a1 r1 hf1) (cwS 1 hts gX4_ofOwner_X4_isOwner rfl rfl rfl (by decide +kernel) ⟨Nat.le_of_ble_eq_true rfl, Nat.le_of_ble_eq_true rfl⟩) hV hN hK hP hD hS hA rfl hl.1 rfl (Nat.le_of_ble_eq_true rfl) ⟨Nat.zero_le _, Nat.zero_le _⟩ dX4_ofOwner_1 (fun H locs hP hD hS => ?_)
  refine lv_if_ne (tgt := 9) hx hb dX4_ofOwner_4 (by decide) (fun hc => ?_) (fun hc => ?_)
  · have h0 := it_f h0 hc
    refine lv_iload_n hx hb dX4_ofOwner_9 rfl (lv_at hl 2 rfl) ?_
    refine lv_iconst (v := (0 : Int32)) hx hb dX4_ofOwner_10 (by decide) ?_
    refine lv_iconst (v := (2 : Int32)) hx hb dX4_ofOwner_11 (by decide) ?_
    obtain ⟨r2, hf2, h0⟩ := bnd_some h0
    refine x_SI (As := [.int a2, .int (0 : Int32), .int (2 : Int32)]) (rest := []) hC (kX4_in l dC dI cA a2 (0 : Int32) (2 : Int32) r2 hf2) (cwS 3 hts gX4_ofOwner_X4_in rfl rfl rfl (by decide +kernel) ⟨Nat.le_of_ble_eq_true rfl, Nat.le_of_ble_eq_true rfl⟩) hV hN hK hP hD hS hA rfl hl.1 rfl (Nat.le_of_ble_eq_true rfl) ⟨Nat.zero_le _, Nat.zero_le _⟩ dX4_ofOwner_12 (fun H locs hP hD hS => ?_)
    refine lv_if_eq (tgt := 27) hx hb dX4_ofOwner_15 (by decide) (fun hc => ?_) (fun hc => ?_)
    · have h0 := it_t h0 hc
      refine lv_iload_n hx hb dX4_ofOwner_27 rfl (lv_at hl 2 rfl) ?_
      refine lv_iconst (v := (3 : Int32)) hx hb dX4_ofOwner_28 (by decide) ?_
      refine lv_icmp_ne (tgt := 38) hx hb dX4_ofOwner_29 (by decide) (fun hc => ?_) (fun hc => ?_)
      · have h0 := it_f h0 hc
        refine lv_iload_n hx hb dX4_ofOwner_38 rfl (lv_at hl 2 rfl) ?_
        refine lv_iconst (v := (4 : Int32)) hx hb dX4_ofOwner_39 (by decide) ?_
        refine lv_icmp_ne (tgt := 49) hx hb dX4_ofOwner_40 (by decide) (fun hc => ?_) (fun hc => ?_)
        · have h0 := it_f h0 hc
          refine lv_iload_n hx hb dX4_ofOwner_49 rfl (lv_at hl 2 rfl) ?_
          refine lv_iconst (v := (5 : Int32)) hx hb dX4_ofOwner_50 (by decide) ?_
          refine lv_bipush (v := (8 : Int32)) hx hb dX4_ofOwner_51 (by decide) ?_
          obtain ⟨r3, hf3, h0⟩ := bnd_some h0
          refine x_SI (As := [.int a2, .int (5 : Int32), .int (8 : Int32)]) (rest := []) hC (kX4_in l dC dI cA a2 (5 : Int32) (8 : Int32) r3 hf3) (cwS 3 hts gX4_ofOwner_X4_in rfl rfl rfl (by decide +kernel) ⟨Nat.le_of_ble_eq_true rfl, Nat.le_of_ble_eq_true rfl⟩) hV hN hK hP hD hS hA rfl hl.1 rfl (Nat.le_of_ble_eq_true rfl) ⟨Nat.zero_le _, Nat.zero_le _⟩ dX4_ofOwner_53 (fun H locs hP hD hS => ?_)
          refine lv_if_eq (tgt := 82) hx hb dX4_ofOwner_56 (by decide) (fun hc => ?_) (fun hc => ?_)
          · have h0 := it_t h0 hc
            refine lv_iload_n hx hb dX4_ofOwner_82 rfl (lv_at hl 2 rfl) ?_
            refine lv_bipush (v := (9 : Int32)) hx hb dX4_ofOwner_83 (by decide) ?_
            refine lv_bipush (v := (12 : Int32)) hx hb dX4_ofOwner_85 (by decide) ?_
            obtain ⟨r4, hf4, h0⟩ := bnd_some h0
            refine x_SI (As := [.int a2, .int (9 : Int32), .int (12 : Int32)]) (rest := []) hC (kX4_in l dC dI cA a2 (9 : Int32) (12 : Int32) r4 hf4) (cwS 3 hts gX4_ofOwner_X4_in rfl rfl rfl (by decide +kernel) ⟨Nat.le_of_ble_eq_true rfl, Nat.le_of_ble_eq_true rfl⟩) hV hN hK hP hD hS hA rfl hl.1 rfl (Nat.le_of_ble_eq_true rfl) ⟨Nat.zero_le _, Nat.zero_le _⟩ dX4_ofOwner_87 (fun H locs hP hD hS => ?_)
            refine lv_if_eq (tgt := 104) hx hb dX4_ofOwner_90 (by decide) (fun hc => ?_) (fun hc => ?_)
            · have h0 := it_t h0 hc
              refine lv_bipush (v := (-2 : Int32)) hx hb dX4_ofOwner_104 (by decide) ?_
              have e1 := Option.some.inj h0
              exact x_retI hC hr hlocks rfl hP hD hS dX4_ofOwner_106 ⟨e1, rfl⟩
            · have h0 := it_f h0 hc
              refine lv_aload_n hx hb dX4_ofOwner_93 rfl (lv_at hl 0 rfl) ?_
              refine lv_iload_n hx hb dX4_ofOwner_94 rfl (lv_at hl 1 rfl) ?_
              refine lv_iload_n hx hb dX4_ofOwner_95 rfl (lv_at hl 2 rfl) ?_
              refine lv_iconst (v := (5 : Int32)) hx hb dX4_ofOwner_96 (by decide) ?_
              refine lv_isub hx hb dX4_ofOwner_97 ?_
              obtain ⟨r5, hf5, h0⟩ := bnd_some h0
              refine x_VI (As := [.int a1, .int (a2 - (5 : Int32))]) (rest := []) hC (kX4_of l dC dI cA h ad a1 (a2 - (5 : Int32)) σ r5  hf5) (cwV 2 hts gX4_ofOwner_X4_of rfl rfl rfl (by decide +kernel) ⟨Nat.le_of_ble_eq_true rfl, Nat.le_of_ble_eq_true rfl⟩) 0 4 hV hN hK hP hD hS hA rfl rfl rfl rfl hl.1 rfl (Nat.le_of_ble_eq_true rfl) ⟨Nat.zero_le _, Nat.zero_le _⟩ dX4_ofOwner_98 (fun H locs hP hD hS => ?_)
              refine lv_goto (tgt := 106) hx hb dX4_ofOwner_101 (by decide) ?_
              have e1 := Option.some.inj h0
              exact x_retI hC hr hlocks rfl hP hD hS dX4_ofOwner_106 ⟨e1, rfl⟩
          · have h0 := it_f h0 hc
            refine lv_aload_n hx hb dX4_ofOwner_59 rfl (lv_at hl 0 rfl) ?_
            refine lv_iload_n hx hb dX4_ofOwner_60 rfl (lv_at hl 1 rfl) ?_
            refine lv_iconst (v := (0 : Int32)) hx hb dX4_ofOwner_61 (by decide) ?_
            obtain ⟨r6, hf6, h0⟩ := bnd_some h0
            refine x_VI (As := [.int a1, .int (0 : Int32)]) (rest := []) hC (kX4_of l dC dI cA h ad a1 (0 : Int32) σ r6  hf6) (cwV 2 hts gX4_ofOwner_X4_of rfl rfl rfl (by decide +kernel) ⟨Nat.le_of_ble_eq_true rfl, Nat.le_of_ble_eq_true rfl⟩) 0 4 hV hN hK hP hD hS hA rfl rfl rfl rfl hl.1 rfl (Nat.le_of_ble_eq_true rfl) ⟨Nat.zero_le _, Nat.zero_le _⟩ dX4_ofOwner_62 (fun H locs hP hD hS => ?_)
            refine lv_if_le (tgt := 79) hx hb dX4_ofOwner_65 (by decide) (fun hc => ?_) (fun hc => ?_)
            · have h0 := it_t h0 hc
              refine lv_bipush (v := (-6 : Int32)) hx hb dX4_ofOwner_79 (by decide) ?_
              have e1 := Option.some.inj h0
              exact x_retI hC hr hlocks rfl hP hD hS dX4_ofOwner_81 ⟨e1, rfl⟩
            · have h0 := it_f h0 hc
              refine lv_aload_n hx hb dX4_ofOwner_68 rfl (lv_at hl 0 rfl) ?_
              refine lv_iload_n hx hb dX4_ofOwner_69 rfl (lv_at hl 1 rfl) ?_
              refine lv_iload_n hx hb dX4_ofOwner_70 rfl (lv_at hl 2 rfl) ?_
              refine lv_iconst (v := (5 : Int32)) hx hb dX4_ofOwner_71 (by decide) ?_
              refine lv_isub hx hb dX4_ofOwner_72 ?_
              obtain ⟨r7, hf7, h0⟩ := bnd_some h0
              refine x_VI (As := [.int a1, .int (a2 - (5 : Int32))]) (rest := []) hC (kX4_of l dC dI cA h ad a1 (a2 - (5 : Int32)) σ r7  hf7) (cwV 2 hts gX4_ofOwner_X4_of rfl rfl rfl (by decide +kernel) ⟨Nat.le_of_ble_eq_true rfl, Nat.le_of_ble_eq_true rfl⟩) 0 4 hV hN hK hP hD hS hA rfl rfl rfl rfl hl.1 rfl (Nat.le_of_ble_eq_true rfl) ⟨Nat.zero_le _, Nat.zero_le _⟩ dX4_ofOwner_73 (fun H locs hP hD hS => ?_)
              refine lv_goto (tgt := 81) hx hb dX4_ofOwner_76 (by decide) ?_
              have e1 := Option.some.inj h0
              exact x_retI hC hr hlocks rfl hP hD hS dX4_ofOwner_81 ⟨e1, rfl⟩
        · have h0 := it_t h0 hc
          refine lv_aload_n hx hb dX4_ofOwner_43 rfl (lv_at hl 0 rfl) ?_
          refine lv_iload_n hx hb dX4_ofOwner_44 rfl (lv_at hl 1 rfl) ?_
          obtain ⟨r8, hf8, h0⟩ := bnd_some h0
          refine x_VI (As := [.int a1]) (rest := []) hC (kX4_placeInRow l dC dI cA h ad a1 σ r8  hf8) (cwV 1 hts gX4_ofOwner_X4_placeInRow rfl rfl rfl (by decide +kernel) ⟨Nat.le_of_ble_eq_true rfl, Nat.le_of_ble_eq_true rfl⟩) 0 4 hV hN hK hP hD hS hA rfl rfl rfl rfl hl.1 rfl (Nat.le_of_ble_eq_true rfl) ⟨Nat.zero_le _, Nat.zero_le _⟩ dX4_ofOwner_45 (fun H locs hP hD hS => ?_)
          have e1 := Option.some.inj h0
          exact x_retI hC hr hlocks rfl hP hD hS dX4_ofOwner_48 ⟨e1, rfl⟩
      · have h0 := it_t h0 hc
        refine lv_aload_n hx hb dX4_ofOwner_32 rfl (lv_at hl 0 rfl) ?_
        refine lv_iload_n hx hb dX4_ofOwner_33 rfl (lv_at hl 1 rfl) ?_
        obtain ⟨r9, hf9, h0⟩ := bnd_some h0
        refine x_VI (As := [.int a1]) (rest := []) hC (kX4_stretches l dC dI cA h ad a1 σ r9  hf9) (cwV 1 hts gX4_ofOwner_X4_stretches rfl rfl rfl (by decide +kernel) ⟨Nat.le_of_ble_eq_true rfl, Nat.le_of_ble_eq_true rfl⟩) 0 4 hV hN hK hP hD hS hA rfl rfl rfl rfl hl.1 rfl (Nat.le_of_ble_eq_true rfl) ⟨Nat.zero_le _, Nat.zero_le _⟩ dX4_ofOwner_34 (fun H locs hP hD hS => ?_)
        have e1 := Option.some.inj h0
        exact x_retI hC hr hlocks rfl hP hD hS dX4_ofOwner_37 ⟨e1, rfl⟩
    · have h0 := it_f h0 hc
      refine lv_aload_n hx hb dX4_ofOwner_18 rfl (lv_at hl 0 rfl) ?_
      refine lv_iload_n hx hb dX4_ofOwner_19 rfl (lv_at hl 1 rfl) ?_
      refine lv_iload_n hx hb dX4_ofOwner_20 rfl (lv_at hl 2 rfl) ?_
      refine lv_iconst (v := (1 : Int32)) hx hb dX4_ofOwner_21 (by decide) ?_
      refine lv_iadd hx hb dX4_ofOwner_22 ?_
      obtain ⟨r10, hf10, h0⟩ := bnd_some h0
      refine x_VI (As := [.int a1, .int (a2 + (1 : Int32))]) (rest := []) hC (kX4_placesOfKind l dC dI cA h ad a1 (a2 + (1 : Int32)) σ r10  hf10) (cwV 2 hts gX4_ofOwner_X4_placesOfKind rfl rfl rfl (by decide +kernel) ⟨Nat.le_of_ble_eq_true rfl, Nat.le_of_ble_eq_true rfl⟩) 0 4 hV hN hK hP hD hS hA rfl rfl rfl rfl hl.1 rfl (Nat.le_of_ble_eq_true rfl) ⟨Nat.zero_le _, Nat.zero_le _⟩ dX4_ofOwner_23 (fun H locs hP hD hS => ?_)
      have e1 := Option.some.inj h0
      exact x_retI hC hr hlocks rfl hP hD hS dX4_ofOwner_26 ⟨e1, rfl⟩
  · have h0 := it_t h0 hc
    refine lv_iconst (v := (-1 : Int32)) hx hb dX4_ofOwner_7 (by decide) ?_
    have e1 := Option.some.inj h0
    exact x_retI hC hr hlocks rfl hP hD hS dX4_ofOwner_8 ⟨e1, rfl⟩
def bX4_put_5 (σ : St) (x2 : Int32) (y1 : Int64) : Option ((Int32 × Int64) ⊕ ((Int32 × Int64) ⊕ (Int32 × St))) := if (8 : Int32) ≤ x2 then (some (.inr (.inl (x2, y1)))) else (if ((lg_cmp (y1 &&& (255 : Int64)) (0 : Int64)) : Int32) = (0 : Int32) then (some (.inr (.inl (x2, y1)))) else (bnd (fX4_in ((y1 &&& (255 : Int64) : Int64).toInt32) (33 : Int32) (126 : Int32)) fun r3 => if (r3 : Int32) = (0 : Int32) then (some (.inr (.inr ((-2 : Int32), σ)))) else (nm (x2 + (1 : Int32)) fun v4 => nm (((y1 : Int64).toUInt64 >>> (((8 : Int32) : Int32).toInt64.toUInt64 &&& Int64.toUInt64 63)).toInt64) fun v5 => some (.inl (v4, v5)))))
def bX4_put_86 (a1 : Int64) (x6 : Int32) (x8 : Int32) (s9 : St) : Option ((Int32 × St) ⊕ (Int32 × St)) := if x6 ≤ x8 then (some (.inr (x8, s9))) else (ax ((s9 8 0) + x8) 80 (nm (put s9 7 (upd (s9 7) ((s9 8 0) + x8 : Int32).toNatClampNeg (((a1 >>> ((((8 : Int32) * ((x6 - (1 : Int32)) - x8)) : Int32).toInt64 &&& 63)) &&& (255 : Int64) : Int64).toInt32))) fun s10 => nm (x8 + (1 : Int32)) fun v11 => some (.inl (v11, s10))))
def fX4_put (a1 : Int64) (σ : St) : Option (Int32 × St) := bnd (lp (fun t : (Int32 × Int64) => bX4_put_5 σ t.1 t.2) FU ((0 : Int32), a1)) (fun e0 : ((Int32 × Int64) ⊕ (Int32 × St)) => el e0 (fun e : (Int32 × Int64) => nm e.1 fun x6 => nm e.2 fun y7 => if (x6 : Int32) = (0 : Int32) then (some ((-2 : Int32), σ)) else (if ((lg_cmp y7 (0 : Int64)) : Int32) = (0 : Int32) then (if (((σ 8 0) + x6) : Int32) ≤ (80 : Int32) then (bnd (lp (fun t : (Int32 × St) => bX4_put_86 a1 x6 t.1 t.2) FU ((0 : Int32), σ)) (fun e : (Int32 × St) => nm e.1 fun x12 => nm e.2 fun s13 => nm (put s13 8 (fun _ => (s13 8 0) + x6)) fun s14 => some (s14 8 0, s14))) else (some ((-4 : Int32), σ))) else (some ((-2 : Int32), σ)))) (fun r : (Int32 × St) => some r))
abbrev rmX4_put : Room := { frames := 1, cells := 0, slots := 0, locals := 22 }
set_option maxHeartbeats 4000000 in
set_option maxRecDepth 100000 in
theorem kX4_put (l : Launch) (dC : Nat → ClassId) (dI : Nat → Nat → Nat) (cA : Nat → ClassId) (h : Nat) (ad : Nat → Nat) (a1 : Int64) (σ : St) (R0 : Int32) (σ' : St) (h0 : fX4_put a1 σ = some (R0, σ')) : CI l yX4_put wsX4_put rmX4_put (dC, dI) vwCl (tysW cA) [.ref h, .long a1] (wM cA h ad σ) R0 (wM cA h ad σ') := by
  refine CGI_of (cc := cX4_put) (nL := 7) (ret := (some .int)) (by decide) rfl (Nat.le_of_ble_eq_true rfl) ?_
  intro p e s m av below meth c A ls H locs hC hl
  obtain ⟨hC, hr, hlocks, hV, hN, hK, hP, hD, hS, hA⟩ := hC
  have hC : CallFix p m c cX4_put 7 s _ wsX4_put RX4 := hC
  obtain ⟨hx, hb, hml, hown, hts⟩ := id hC
  have hin0 : ∀ w ∈ u_ws RX4 TX4 16, w ∈ wsX4_put := fun _ h => (List.mem_cons_of_mem _ (List.mem_append_right _ h))
  have hl : lv_has ls 7 [(0, .ref h), (1, .long a1)] := hl
  unfold fX4_put at h0
  refine lv_iconst (v := (0 : Int32)) hx hb dX4_put_0 (by decide) ?_
  refine lv_istore_n (lv' := [(3, .int (0 : Int32)), (0, .ref h), (1, .long a1)]) hx hb dX4_put_1 rfl hl (by decide) rfl (fun ls hl => ?_)
  refine lv_lload_n hx hb dX4_put_2 rfl (lv_at hl 2 rfl) ?_
  refine lv_lstore (lv' := [(4, .long a1), (3, .int (0 : Int32)), (0, .ref h), (1, .long a1)]) hx hb dX4_put_3 hl (by decide) rfl (fun ls hl => ?_)
  obtain ⟨ε1, hl1, h0⟩ := bnd_some h0
  have KN1 : ∀ (x6 : Int32) (y7 : Int64), ε1 = .inl (x6, y7) → ∀ (H : Heap) (locs : List Loc), va_P (dC, dI) vwCl (wM cA h ad σ) H → va_D A (wM cA h ad σ) → va_S A s.heap H locs → ∀ (ls : Array Slot), lv_has ls 7 [(4, .long y7), (3, .int x6), (0, .ref h), (1, .long a1)] → W p l e (headSpec wsX4_put rmX4_put).room s m av below meth c H locs 0 0 (MQ below (qI (dC, dI) A R0 (wM cA h ad σ')) av s 0 0 A) (F0 m 55 ls []) := by
    intro x6 y7 hε H locs hP hD hS ls hl
    rw [hε] at h0
    have h0 := el_l h0
    have h0 := nm_at (z := x6) rfl h0
    have h0 := nm_at (z := y7) rfl h0
    refine lv_iload_n hx hb dX4_put_55 rfl (lv_at hl 1 rfl) ?_
    refine lv_if_eq (tgt := 66) hx hb dX4_put_56 (by decide) (fun hc => ?_) (fun hc => ?_)
    · have h0 := it_t h0 hc
      refine lv_bipush (v := (-2 : Int32)) hx hb dX4_put_66 (by decide) ?_
      obtain ⟨e1, e2⟩ := Prod.mk.inj (Option.some.inj h0)
      exact x_retI hC hr hlocks rfl hP hD hS dX4_put_68 ⟨e1, by rw [← e2]⟩
    · have h0 := it_f h0 hc
      refine lv_lload hx hb dX4_put_59 (lv_at hl 0 rfl) ?_
      refine lv_lconst (v := 0) hx hb dX4_put_61 (by decide) ?_
      refine W.lcmp hx hb dX4_put_62 ?_
      refine lv_if_eq (tgt := 69) hx hb dX4_put_63 (by decide) (fun hc => ?_) (fun hc => ?_)
      · have h0 := it_t h0 hc
        refine lv_aload_n hx hb dX4_put_69 rfl (lv_at hl 2 rfl) ?_
        refine va_get (D := (dC, dI)) (ci := 4) (v := .int (σ 8 0)) (C := RX4) (T := TX4) (N := 16) hx hb hts hin0 hown hK hP 0 rfl rfl 8 (by decide) (hts (.fieldLink RX4 193 "MeanLocksModel" "padMany" "I") (List.mem_of_getElem? (i := 2) rfl)) (fun _ h9 => h9) rfl dX4_put_70 ?_
        refine lv_iload_n hx hb dX4_put_73 rfl (lv_at hl 1 rfl) ?_
        refine lv_iadd hx hb dX4_put_74 ?_
        refine lv_bipush (v := (80 : Int32)) hx hb dX4_put_75 (by decide) ?_
        refine lv_icmp_le (tgt := 83) hx hb dX4_put_77 (by decide) (fun hc => ?_) (fun hc => ?_)
        · have h0 := it_t h0 hc
          refine lv_iconst (v := (0 : Int32)) hx hb dX4_put_83 (by decide) ?_
          refine lv_istore (lv' := [(6, .int (0 : Int32)), (4, .long y7), (3, .int x6), (0, .ref h), (1, .long a1)]) hx hb dX4_put_84 hl (by decide) rfl (fun ls hl => ?_)
          obtain ⟨ε3, hl3, h0⟩ := bnd_some h0
          have KN3 : ∀ (x12 : Int32) (s13 : St), ε3 = (x12, s13) → ∀ (H : Heap) (locs : List Loc), va_P (dC, dI) vwCl (wM cA h ad s13) H → va_D A (wM cA h ad s13) → va_S A s.heap H locs → ∀ (ls : Array Slot), lv_has ls 7 [(6, .int x12), (4, .long y7), (3, .int x6), (0, .ref h), (1, .long a1)] → W p l e (headSpec wsX4_put rmX4_put).room s m av below meth c H locs 0 0 (MQ below (qI (dC, dI) A R0 (wM cA h ad σ')) av s 0 0 A) (F0 m 126 ls []) := by
            intro x12 s13 hε H locs hP hD hS ls hl
            rw [hε] at h0
            have h0 := nm_at (z := x12) rfl h0
            have h0 := nm_at (z := s13) rfl h0
            refine lv_aload_n hx hb dX4_put_126 rfl (lv_at hl 3 rfl) ?_
            refine lv_dup hx hb dX4_put_127 rfl ?_
            refine va_get (D := (dC, dI)) (ci := 4) (v := .int (s13 8 0)) (C := RX4) (T := TX4) (N := 16) hx hb hts hin0 hown hK hP 0 rfl rfl 8 (by decide) (hts (.fieldLink RX4 193 "MeanLocksModel" "padMany" "I") (List.mem_of_getElem? (i := 2) rfl)) (fun _ h9 => h9) rfl dX4_put_128 ?_
            refine lv_iload_n hx hb dX4_put_131 rfl (lv_at hl 2 rfl) ?_
            refine lv_iadd hx hb dX4_put_132 ?_
            obtain ⟨s14, es14, h0⟩ := nm_some h0
            refine x_put (D := (dC, dI)) (ws' := wM cA h ad s14) (ci := 4) (fs := [.ref (ad 0), .ref (ad 1), .int (s13 2 0), .int (s13 3 0), .ref (ad 4), .ref (ad 5), .ref (ad 6), .ref (ad 7), .int (s13 8 0), .ref (ad 9), .ref (ad 10), .int (s13 11 0), .int (s13 12 0), .int (s13 13 0), .ref (ad 14), .ref (ad 15)]) (v := .int ((s13 8 0) + x6)) (ty := .int) (C := RX4) (T := TX4) (N := 16) hC hin0 tyX4 tyX4_ok nmX4 hK hP hD hS 0 rfl rfl 8 (by decide) (hts (.fieldLink RX4 193 "MeanLocksModel" "padMany" "I") (List.mem_of_getElem? (i := 2) rfl)) rfl rfl rfl rfl (by decide +kernel) (Nat.le_of_ble_eq_true rfl) (by rw [es14]; exact wM_s8 _ _ _ _ _) dX4_put_133 (fun H locs hP hD hS => ?_)
            refine lv_aload_n hx hb dX4_put_136 rfl (lv_at hl 3 rfl) ?_
            refine va_get (D := (dC, dI)) (ci := 4) (v := .int (s14 8 0)) (C := RX4) (T := TX4) (N := 16) hx hb hts hin0 hown hK hP 0 rfl rfl 8 (by decide) (hts (.fieldLink RX4 193 "MeanLocksModel" "padMany" "I") (List.mem_of_getElem? (i := 2) rfl)) (fun _ h9 => h9) rfl dX4_put_137 ?_
            obtain ⟨e1, e2⟩ := Prod.mk.inj (Option.some.inj h0)
            exact x_retI hC hr hlocks rfl hP hD hS dX4_put_140 ⟨e1, by rw [← e2]⟩
          have LP3 : ∀ (n : Nat) (x8 : Int32) (s9 : St), lp (fun t : (Int32 × St) => bX4_put_86 a1 x6 t.1 t.2) n (x8, s9) = some ε3 → ∀ (H : Heap) (locs : List Loc), va_P (dC, dI) vwCl (wM cA h ad s9) H → va_D A (wM cA h ad s9) → va_S A s.heap H locs → ∀ (ls : Array Slot), lv_has ls 7 [(6, .int x8), (4, .long y7), (3, .int x6), (0, .ref h), (1, .long a1)] → W p l e (headSpec wsX4_put rmX4_put).room s m av below meth c H locs 0 0 (MQ below (qI (dC, dI) A R0 (wM cA h ad σ')) av s 0 0 A) (F0 m 86 ls []) := by
            intro n
            induction n with
            | zero => intro x8 s9 hl0; exact (lp_0 hl0).elim
            | succ n ih3 =>
              intro x8 s9 hl0 H locs hP hD hS ls hl
              obtain ⟨z3, h1, hz3⟩ := lp_s hl0
              have h1 : bX4_put_86 a1 x6 x8 s9 = some z3 := h1
              unfold bX4_put_86 at h1
              refine lv_iload hx hb dX4_put_86 (lv_at hl 0 rfl) ?_
              refine lv_iload_n hx hb dX4_put_88 rfl (lv_at hl 2 rfl) ?_
              refine lv_icmp_ge (tgt := 126) hx hb dX4_put_89 (by decide) (fun hc => ?_) (fun hc => ?_)
              · have h1 := it_t h1 hc
                have he := lp_r h1 hz3
                exact KN3 x8 s9 he _ _ hP hD hS ls (lv_sub hl [0, 1, 2, 3, 4] rfl)
              · have h1 := it_f h1 hc
                refine lv_aload_n hx hb dX4_put_92 rfl (lv_at hl 3 rfl) ?_
                refine va_get (D := (dC, dI)) (ci := 4) (v := .ref (ad 7)) (C := RX4) (T := TX4) (N := 16) hx hb hts hin0 hown hK hP 0 rfl rfl 7 (by decide) (hts (.fieldLink RX4 26 "MeanLocksModel" "pad" "[I") (List.mem_of_getElem? (i := 3) rfl)) (fun _ h9 => h9) rfl dX4_put_93 ?_
                refine lv_aload_n hx hb dX4_put_96 rfl (lv_at hl 3 rfl) ?_
                refine va_get (D := (dC, dI)) (ci := 4) (v := .int (s9 8 0)) (C := RX4) (T := TX4) (N := 16) hx hb hts hin0 hown hK hP 0 rfl rfl 8 (by decide) (hts (.fieldLink RX4 193 "MeanLocksModel" "padMany" "I") (List.mem_of_getElem? (i := 2) rfl)) (fun _ h9 => h9) rfl dX4_put_97 ?_
                refine lv_iload hx hb dX4_put_100 (lv_at hl 0 rfl) ?_
                refine lv_iadd hx hb dX4_put_102 ?_
                refine lv_lload_n hx hb dX4_put_103 rfl (lv_at hl 4 rfl) ?_
                refine lv_bipush (v := (8 : Int32)) hx hb dX4_put_104 (by decide) ?_
                refine lv_iload_n hx hb dX4_put_106 rfl (lv_at hl 2 rfl) ?_
                refine lv_iconst (v := (1 : Int32)) hx hb dX4_put_107 (by decide) ?_
                refine lv_isub hx hb dX4_put_108 ?_
                refine lv_iload hx hb dX4_put_109 (lv_at hl 0 rfl) ?_
                refine lv_isub hx hb dX4_put_111 ?_
                refine lv_imul hx hb dX4_put_112 ?_
                refine lv_lshr hx hb dX4_put_113 rfl ?_
                refine lv_ldc2 (v := (255 : Int64)) hx hb hown (hts (.constantLong RX4 214 (255)) (List.mem_of_getElem? (i := 1) rfl)) dX4_put_114 ?_
                refine lv_land hx hb dX4_put_117 ?_
                refine lv_l2i hx hb dX4_put_118 rfl ?_
                obtain ⟨hi, h1⟩ := ax_some h1
                obtain ⟨s10, es10, h1⟩ := nm_some h1
                refine x_iast (ws' := wM cA h ad s10) hC hK hP hD hS 6 0 rfl rfl (by rw [es10]; exact wM_s7 _ _ _ _ _) hi dX4_put_119 (fun H locs hP hD hS => ?_)
                obtain ⟨v11, ev11, h1⟩ := nm_some h1
                refine lv_iinc (v := v11) (lv' := [(6, .int v11), (4, .long y7), (3, .int x6), (0, .ref h), (1, .long a1)]) hx hb dX4_put_120 hl (k := 0) rfl (by rw [ev11]; rfl) (by decide) rfl (fun ls hl => ?_)
                refine lv_goto (tgt := 86) hx hb dX4_put_123 (by decide) ?_
                have hc := lp_l h1 hz3
                exact ih3 v11 s10 hc _ _ hP hD hS ls (lv_sub hl [0, 1, 2, 3, 4] rfl)
          exact LP3 FU (0 : Int32) σ hl3 _ _ hP hD hS ls hl
        · have h0 := it_f h0 hc
          refine lv_bipush (v := (-4 : Int32)) hx hb dX4_put_80 (by decide) ?_
          obtain ⟨e1, e2⟩ := Prod.mk.inj (Option.some.inj h0)
          exact x_retI hC hr hlocks rfl hP hD hS dX4_put_82 ⟨e1, by rw [← e2]⟩
      · have h0 := it_f h0 hc
        refine lv_bipush (v := (-2 : Int32)) hx hb dX4_put_66 (by decide) ?_
        obtain ⟨e1, e2⟩ := Prod.mk.inj (Option.some.inj h0)
        exact x_retI hC hr hlocks rfl hP hD hS dX4_put_68 ⟨e1, by rw [← e2]⟩
  have LP1 : ∀ (n : Nat) (x2 : Int32) (y1 : Int64), lp (fun t : (Int32 × Int64) => bX4_put_5 σ t.1 t.2) n (x2, y1) = some ε1 → ∀ (H : Heap) (locs : List Loc), va_P (dC, dI) vwCl (wM cA h ad σ) H → va_D A (wM cA h ad σ) → va_S A s.heap H locs → ∀ (ls : Array Slot), lv_has ls 7 [(4, .long y1), (3, .int x2), (0, .ref h), (1, .long a1)] → W p l e (headSpec wsX4_put rmX4_put).room s m av below meth c H locs 0 0 (MQ below (qI (dC, dI) A R0 (wM cA h ad σ')) av s 0 0 A) (F0 m 5 ls []) := by
    intro n
    induction n with
    | zero => intro x2 y1 hl0; exact (lp_0 hl0).elim
    | succ n ih1 =>
      intro x2 y1 hl0 H locs hP hD hS ls hl
      obtain ⟨z1, h1, hz1⟩ := lp_s hl0
      have h1 : bX4_put_5 σ x2 y1 = some z1 := h1
      unfold bX4_put_5 at h1
      refine lv_iload_n hx hb dX4_put_5 rfl (lv_at hl 1 rfl) ?_
      refine lv_bipush (v := (8 : Int32)) hx hb dX4_put_6 (by decide) ?_
      refine lv_icmp_ge (tgt := 55) hx hb dX4_put_8 (by decide) (fun hc => ?_) (fun hc => ?_)
      · have h1 := it_t h1 hc
        have he := lp_r h1 hz1
        exact KN1 x2 y1 he _ _ hP hD hS ls (lv_sub hl [0, 1, 2, 3] rfl)
      · have h1 := it_f h1 hc
        refine lv_lload hx hb dX4_put_11 (lv_at hl 0 rfl) ?_
        refine lv_ldc2 (v := (255 : Int64)) hx hb hown (hts (.constantLong RX4 214 (255)) (List.mem_of_getElem? (i := 1) rfl)) dX4_put_13 ?_
        refine lv_land hx hb dX4_put_16 ?_
        refine lv_lconst (v := 0) hx hb dX4_put_17 (by decide) ?_
        refine W.lcmp hx hb dX4_put_18 ?_
        refine lv_if_eq (tgt := 55) hx hb dX4_put_19 (by decide) (fun hc => ?_) (fun hc => ?_)
        · have h1 := it_t h1 hc
          have he := lp_r h1 hz1
          exact KN1 x2 y1 he _ _ hP hD hS ls (lv_sub hl [0, 1, 2, 3] rfl)
        · have h1 := it_f h1 hc
          refine lv_lload hx hb dX4_put_22 (lv_at hl 0 rfl) ?_
          refine lv_ldc2 (v := (255 : Int64)) hx hb hown (hts (.constantLong RX4 214 (255)) (List.mem_of_getElem? (i := 1) rfl)) dX4_put_24 ?_
          refine lv_land hx hb dX4_put_27 ?_
          refine lv_l2i hx hb dX4_put_28 rfl ?_
          refine lv_bipush (v := (33 : Int32)) hx hb dX4_put_29 (by decide) ?_
          refine lv_bipush (v := (126 : Int32)) hx hb dX4_put_31 (by decide) ?_
          obtain ⟨r3, hf2, h1⟩ := bnd_some h1
          refine x_SI (As := [.int ((y1 &&& (255 : Int64) : Int64).toInt32), .int (33 : Int32), .int (126 : Int32)]) (rest := []) hC (kX4_in l dC dI cA ((y1 &&& (255 : Int64) : Int64).toInt32) (33 : Int32) (126 : Int32) r3 hf2) (cwS 3 hts gX4_put_X4_in rfl rfl rfl (by decide +kernel) ⟨Nat.le_of_ble_eq_true rfl, Nat.le_of_ble_eq_true rfl⟩) hV hN hK hP hD hS hA rfl hl.1 rfl (Nat.le_of_ble_eq_true rfl) ⟨Nat.zero_le _, Nat.zero_le _⟩ dX4_put_33 (fun H locs hP hD hS => ?_)
          refine lv_if_ne (tgt := 42) hx hb dX4_put_36 (by decide) (fun hc => ?_) (fun hc => ?_)
          · have h1 := it_f h1 hc
            obtain ⟨v4, ev4, h1⟩ := nm_some h1
            refine lv_iinc (v := v4) (lv' := [(3, .int v4), (4, .long y1), (0, .ref h), (1, .long a1)]) hx hb dX4_put_42 hl (k := 1) rfl (by rw [ev4]; rfl) (by decide) rfl (fun ls hl => ?_)
            refine lv_lload hx hb dX4_put_45 (lv_at hl 1 rfl) ?_
            refine lv_bipush (v := (8 : Int32)) hx hb dX4_put_47 (by decide) ?_
            refine lv_lushr hx hb dX4_put_49 rfl ?_
            refine lv_topl (fun v5 ev5 => ?_)
            have h1 := nm_at ev5 h1
            refine lv_lstore (lv' := [(4, .long v5), (3, .int v4), (0, .ref h), (1, .long a1)]) hx hb dX4_put_50 hl (by decide) rfl (fun ls hl => ?_)
            refine lv_goto (tgt := 5) hx hb dX4_put_52 (by decide) ?_
            have hc := lp_l h1 hz1
            exact ih1 v4 v5 hc _ _ hP hD hS ls (lv_sub hl [0, 1, 2, 3] rfl)
          · have h1 := it_t h1 hc
            refine lv_bipush (v := (-2 : Int32)) hx hb dX4_put_39 (by decide) ?_
            have he := lp_r h1 hz1
            rw [he] at h0
            have h0 := el_r h0
            obtain ⟨e1, e2⟩ := Prod.mk.inj (Option.some.inj h0)
            exact x_retI hC hr hlocks rfl hP hD hS dX4_put_41 ⟨e1, by rw [← e2]⟩
  exact LP1 FU (0 : Int32) a1 hl1 _ _ hP hD hS ls hl
def fX4_request (a1 : Int32) (a2 : Int32) (a3 : Int32) (a4 : Int32) (a5 : Int32) (σ : St) : Option (Int32 × St) := bn2 (fX4_tryRequest a1 a2 a3 a4 a5 (1 : Int32) σ) fun r1 s2 => some (r1, s2)
abbrev rmX4_request : Room := { frames := 9, cells := 0, slots := 0, locals := 223 }
set_option maxHeartbeats 4000000 in
set_option maxRecDepth 100000 in
theorem kX4_request (l : Launch) (dC : Nat → ClassId) (dI : Nat → Nat → Nat) (cA : Nat → ClassId) (h : Nat) (ad : Nat → Nat) (a1 : Int32) (a2 : Int32) (a3 : Int32) (a4 : Int32) (a5 : Int32) (σ : St) (R0 : Int32) (σ' : St) (h0 : fX4_request a1 a2 a3 a4 a5 σ = some (R0, σ')) : CI l yX4_request wsX4_request rmX4_request (dC, dI) vwCl (tysW cA) [.ref h, .int a1, .int a2, .int a3, .int a4, .int a5] (wM cA h ad σ) R0 (wM cA h ad σ') := by
  refine CGI_of (cc := cX4_request) (nL := 6) (ret := (some .int)) (by decide) rfl (Nat.le_of_ble_eq_true rfl) ?_
  intro p e s m av below meth c A ls H locs hC hl
  obtain ⟨hC, hr, hlocks, hV, hN, hK, hP, hD, hS, hA⟩ := hC
  have hC : CallFix p m c cX4_request 6 s _ wsX4_request RX4 := hC
  obtain ⟨hx, hb, hml, hown, hts⟩ := id hC
  have hin0 : ∀ w ∈ u_ws RX4 TX4 16, w ∈ wsX4_request := fun _ h => (List.mem_cons_of_mem _ (List.mem_append_right _ h))
  have hl : lv_has ls 6 [(0, .ref h), (1, .int a1), (2, .int a2), (3, .int a3), (4, .int a4), (5, .int a5)] := hl
  unfold fX4_request at h0
  refine lv_aload_n hx hb dX4_request_0 rfl (lv_at hl 0 rfl) ?_
  refine lv_iload_n hx hb dX4_request_1 rfl (lv_at hl 1 rfl) ?_
  refine lv_iload_n hx hb dX4_request_2 rfl (lv_at hl 2 rfl) ?_
  refine lv_iload_n hx hb dX4_request_3 rfl (lv_at hl 3 rfl) ?_
  refine lv_iload hx hb dX4_request_4 (lv_at hl 4 rfl) ?_
  refine lv_iload hx hb dX4_request_6 (lv_at hl 5 rfl) ?_
  refine lv_iconst (v := (1 : Int32)) hx hb dX4_request_8 (by decide) ?_
  obtain ⟨r1, s2, hf1, h0⟩ := bn2_some h0
  refine x_VI (As := [.int a1, .int a2, .int a3, .int a4, .int a5, .int (1 : Int32)]) (rest := []) hC (kX4_tryRequest l dC dI cA h ad a1 a2 a3 a4 a5 (1 : Int32) σ r1 s2 hf1) (cwV 6 hts gX4_request_X4_tryRequest rfl rfl rfl (by decide +kernel) ⟨Nat.le_of_ble_eq_true rfl, Nat.le_of_ble_eq_true rfl⟩) 0 4 hV hN hK hP hD hS hA rfl rfl rfl rfl hl.1 rfl (Nat.le_of_ble_eq_true rfl) ⟨Nat.zero_le _, Nat.zero_le _⟩ dX4_request_9 (fun H locs hP hD hS => ?_)
  obtain ⟨e1, e2⟩ := Prod.mk.inj (Option.some.inj h0)
  exact x_retI hC hr hlocks rfl hP hD hS dX4_request_12 ⟨e1, by rw [← e2]⟩
def bX4_restore_30 (a1 : Int32) (x4 : Int32) (s5 : St) : Option ((Int32 × St) ⊕ (Int32 × St)) := if (2488 : Int32) ≤ x4 then (some (.inr (x4, s5))) else (ax (((2488 : Int32) * a1) + x4) 4976 (ax x4 2488 (nm (put s5 0 (upd (s5 0) (x4 : Int32).toNatClampNeg (s5 4 (((2488 : Int32) * a1) + x4 : Int32).toNatClampNeg))) fun s6 => nm (x4 + (1 : Int32)) fun v7 => some (.inl (v7, s6)))))
def fX4_restore (a1 : Int32) (σ : St) : Option (Int32 × St) := bnd (fX4_in a1 (0 : Int32) (1 : Int32)) fun r1 => if (r1 : Int32) = (0 : Int32) then (some ((-2 : Int32), σ)) else (ax a1 2 (if ((σ 5 (a1 : Int32).toNatClampNeg) : Int32) = (0 : Int32) then (some ((-5 : Int32), σ)) else (bnd (fX4_keep  σ) fun s3 => bnd (lp (fun t : (Int32 × St) => bX4_restore_30 a1 t.1 t.2) FU ((0 : Int32), s3)) (fun e : (Int32 × St) => nm e.1 fun x8 => nm e.2 fun s9 => ax (0 : Int32) 2488 (some (s9 0 ((0 : Int32) : Int32).toNatClampNeg, s9))))))
abbrev rmX4_restore : Room := { frames := 1, cells := 0, slots := 0, locals := 22 }
set_option maxHeartbeats 4000000 in
set_option maxRecDepth 100000 in
theorem kX4_restore (l : Launch) (dC : Nat → ClassId) (dI : Nat → Nat → Nat) (cA : Nat → ClassId) (h : Nat) (ad : Nat → Nat) (a1 : Int32) (σ : St) (R0 : Int32) (σ' : St) (h0 : fX4_restore a1 σ = some (R0, σ')) : CI l yX4_restore wsX4_restore rmX4_restore (dC, dI) vwCl (tysW cA) [.ref h, .int a1] (wM cA h ad σ) R0 (wM cA h ad σ') := by
  refine CGI_of (cc := cX4_restore) (nL := 3) (ret := (some .int)) (by decide) rfl (Nat.le_of_ble_eq_true rfl) ?_
  intro p e s m av below meth c A ls H locs hC hl
  obtain ⟨hC, hr, hlocks, hV, hN, hK, hP, hD, hS, hA⟩ := hC
  have hC : CallFix p m c cX4_restore 3 s _ wsX4_restore RX4 := hC
  obtain ⟨hx, hb, hml, hown, hts⟩ := id hC
  have hin0 : ∀ w ∈ u_ws RX4 TX4 16, w ∈ wsX4_restore := fun _ h => (List.mem_cons_of_mem _ (List.mem_append_right _ h))
  have hl : lv_has ls 3 [(0, .ref h), (1, .int a1)] := hl
  unfold fX4_restore at h0
  refine lv_iload_n hx hb dX4_restore_0 rfl (lv_at hl 1 rfl) ?_
  refine lv_iconst (v := (0 : Int32)) hx hb dX4_restore_1 (by decide) ?_
  refine lv_iconst (v := (1 : Int32)) hx hb dX4_restore_2 (by decide) ?_
  obtain ⟨r1, hf1, h0⟩ := bnd_some h0
  refine x_SI (As := [.int a1, .int (0 : Int32), .int (1 : Int32)]) (rest := []) hC (kX4_in l dC dI cA a1 (0 : Int32) (1 : Int32) r1 hf1) (cwS 3 hts gX4_restore_X4_in rfl rfl rfl (by decide +kernel) ⟨Nat.le_of_ble_eq_true rfl, Nat.le_of_ble_eq_true rfl⟩) hV hN hK hP hD hS hA rfl hl.1 rfl (Nat.le_of_ble_eq_true rfl) ⟨Nat.zero_le _, Nat.zero_le _⟩ dX4_restore_3 (fun H locs hP hD hS => ?_)
  refine lv_if_ne (tgt := 12) hx hb dX4_restore_6 (by decide) (fun hc => ?_) (fun hc => ?_)
  · have h0 := it_f h0 hc
    refine lv_aload_n hx hb dX4_restore_12 rfl (lv_at hl 0 rfl) ?_
    refine va_get (D := (dC, dI)) (ci := 4) (v := .ref (ad 5)) (C := RX4) (T := TX4) (N := 16) hx hb hts hin0 hown hK hP 0 rfl rfl 5 (by decide) (hts (.fieldLink RX4 19 "MeanLocksModel" "isSaved" "[Z") (List.mem_of_getElem? (i := 1) rfl)) (fun _ h9 => h9) rfl dX4_restore_13 ?_
    refine lv_iload_n hx hb dX4_restore_16 rfl (lv_at hl 1 rfl) ?_
    obtain ⟨hi, h0⟩ := ax_some h0
    refine va_zald hx hb hK hP 4 2 rfl rfl hi dX4_restore_17 ?_
    refine lv_if_ne (tgt := 24) hx hb dX4_restore_18 (by decide) (fun hc => ?_) (fun hc => ?_)
    · have h0 := it_f h0 hc
      refine lv_aload_n hx hb dX4_restore_24 rfl (lv_at hl 0 rfl) ?_
      obtain ⟨s3, hf2, h0⟩ := bnd_some h0
      refine x_VV (As := []) (rest := []) hC (kX4_keep l dC dI cA h ad σ s3 hf2) (cwV 0 hts gX4_restore_X4_keep rfl rfl rfl (by decide +kernel) ⟨Nat.le_of_ble_eq_true rfl, Nat.le_of_ble_eq_true rfl⟩) 0 4 hV hN hK hP hD hS hA rfl rfl rfl rfl hl.1 rfl (Nat.le_of_ble_eq_true rfl) ⟨Nat.zero_le _, Nat.zero_le _⟩ dX4_restore_25 (fun H locs hP hD hS => ?_)
      refine lv_iconst (v := (0 : Int32)) hx hb dX4_restore_28 (by decide) ?_
      refine lv_istore_n (lv' := [(2, .int (0 : Int32)), (0, .ref h), (1, .int a1)]) hx hb dX4_restore_29 rfl hl (by decide) rfl (fun ls hl => ?_)
      obtain ⟨ε3, hl3, h0⟩ := bnd_some h0
      have KN3 : ∀ (x8 : Int32) (s9 : St), ε3 = (x8, s9) → ∀ (H : Heap) (locs : List Loc), va_P (dC, dI) vwCl (wM cA h ad s9) H → va_D A (wM cA h ad s9) → va_S A s.heap H locs → ∀ (ls : Array Slot), lv_has ls 3 [(2, .int x8), (0, .ref h), (1, .int a1)] → W p l e (headSpec wsX4_restore rmX4_restore).room s m av below meth c H locs 0 0 (MQ below (qI (dC, dI) A R0 (wM cA h ad σ')) av s 0 0 A) (F0 m 61 ls []) := by
        intro x8 s9 hε H locs hP hD hS ls hl
        rw [hε] at h0
        have h0 := nm_at (z := x8) rfl h0
        have h0 := nm_at (z := s9) rfl h0
        refine lv_aload_n hx hb dX4_restore_61 rfl (lv_at hl 1 rfl) ?_
        refine va_get (D := (dC, dI)) (ci := 4) (v := .ref (ad 0)) (C := RX4) (T := TX4) (N := 16) hx hb hts hin0 hown hK hP 0 rfl rfl 0 (by decide) (hts (.fieldLink RX4 7 "MeanLocksModel" "at" "[I") (List.mem_of_getElem? (i := 2) rfl)) (fun _ h9 => h9) rfl dX4_restore_62 ?_
        refine lv_iconst (v := (0 : Int32)) hx hb dX4_restore_65 (by decide) ?_
        obtain ⟨hi, h0⟩ := ax_some h0
        refine va_iald hx hb hK hP 1 0 rfl rfl hi dX4_restore_66 ?_
        obtain ⟨e1, e2⟩ := Prod.mk.inj (Option.some.inj h0)
        exact x_retI hC hr hlocks rfl hP hD hS dX4_restore_67 ⟨e1, by rw [← e2]⟩
      have LP3 : ∀ (n : Nat) (x4 : Int32) (s5 : St), lp (fun t : (Int32 × St) => bX4_restore_30 a1 t.1 t.2) n (x4, s5) = some ε3 → ∀ (H : Heap) (locs : List Loc), va_P (dC, dI) vwCl (wM cA h ad s5) H → va_D A (wM cA h ad s5) → va_S A s.heap H locs → ∀ (ls : Array Slot), lv_has ls 3 [(2, .int x4), (0, .ref h), (1, .int a1)] → W p l e (headSpec wsX4_restore rmX4_restore).room s m av below meth c H locs 0 0 (MQ below (qI (dC, dI) A R0 (wM cA h ad σ')) av s 0 0 A) (F0 m 30 ls []) := by
        intro n
        induction n with
        | zero => intro x4 s5 hl0; exact (lp_0 hl0).elim
        | succ n ih3 =>
          intro x4 s5 hl0 H locs hP hD hS ls hl
          obtain ⟨z3, h1, hz3⟩ := lp_s hl0
          have h1 : bX4_restore_30 a1 x4 s5 = some z3 := h1
          unfold bX4_restore_30 at h1
          refine lv_iload_n hx hb dX4_restore_30 rfl (lv_at hl 0 rfl) ?_
          refine lv_sipush (v := (2488 : Int32)) hx hb dX4_restore_31 (by decide) ?_
          refine lv_icmp_ge (tgt := 61) hx hb dX4_restore_34 (by decide) (fun hc => ?_) (fun hc => ?_)
          · have h1 := it_t h1 hc
            have he := lp_r h1 hz3
            exact KN3 x4 s5 he _ _ hP hD hS ls (lv_sub hl [0, 1, 2] rfl)
          · have h1 := it_f h1 hc
            refine lv_aload_n hx hb dX4_restore_37 rfl (lv_at hl 1 rfl) ?_
            refine va_get (D := (dC, dI)) (ci := 4) (v := .ref (ad 0)) (C := RX4) (T := TX4) (N := 16) hx hb hts hin0 hown hK hP 0 rfl rfl 0 (by decide) (hts (.fieldLink RX4 7 "MeanLocksModel" "at" "[I") (List.mem_of_getElem? (i := 2) rfl)) (fun _ h9 => h9) rfl dX4_restore_38 ?_
            refine lv_iload_n hx hb dX4_restore_41 rfl (lv_at hl 0 rfl) ?_
            refine lv_aload_n hx hb dX4_restore_42 rfl (lv_at hl 1 rfl) ?_
            refine va_get (D := (dC, dI)) (ci := 4) (v := .ref (ad 4)) (C := RX4) (T := TX4) (N := 16) hx hb hts hin0 hown hK hP 0 rfl rfl 4 (by decide) (hts (.fieldLink RX4 16 "MeanLocksModel" "slots" "[I") (List.mem_of_getElem? (i := 3) rfl)) (fun _ h9 => h9) rfl dX4_restore_43 ?_
            refine lv_sipush (v := (2488 : Int32)) hx hb dX4_restore_46 (by decide) ?_
            refine lv_iload_n hx hb dX4_restore_49 rfl (lv_at hl 2 rfl) ?_
            refine lv_imul hx hb dX4_restore_50 ?_
            refine lv_iload_n hx hb dX4_restore_51 rfl (lv_at hl 0 rfl) ?_
            refine lv_iadd hx hb dX4_restore_52 ?_
            obtain ⟨hi, h1⟩ := ax_some h1
            refine va_iald hx hb hK hP 3 0 rfl rfl hi dX4_restore_53 ?_
            obtain ⟨hi, h1⟩ := ax_some h1
            obtain ⟨s6, es6, h1⟩ := nm_some h1
            refine x_iast (ws' := wM cA h ad s6) hC hK hP hD hS 1 0 rfl rfl (by rw [es6]; exact wM_s0 _ _ _ _ _) hi dX4_restore_54 (fun H locs hP hD hS => ?_)
            obtain ⟨v7, ev7, h1⟩ := nm_some h1
            refine lv_iinc (v := v7) (lv' := [(2, .int v7), (0, .ref h), (1, .int a1)]) hx hb dX4_restore_55 hl (k := 0) rfl (by rw [ev7]; rfl) (by decide) rfl (fun ls hl => ?_)
            refine lv_goto (tgt := 30) hx hb dX4_restore_58 (by decide) ?_
            have hc := lp_l h1 hz3
            exact ih3 v7 s6 hc _ _ hP hD hS ls (lv_sub hl [0, 1, 2] rfl)
      exact LP3 FU (0 : Int32) s3 hl3 _ _ hP hD hS ls hl
    · have h0 := it_t h0 hc
      refine lv_bipush (v := (-5 : Int32)) hx hb dX4_restore_21 (by decide) ?_
      obtain ⟨e1, e2⟩ := Prod.mk.inj (Option.some.inj h0)
      exact x_retI hC hr hlocks rfl hP hD hS dX4_restore_23 ⟨e1, by rw [← e2]⟩
  · have h0 := it_t h0 hc
    refine lv_bipush (v := (-2 : Int32)) hx hb dX4_restore_9 (by decide) ?_
    obtain ⟨e1, e2⟩ := Prod.mk.inj (Option.some.inj h0)
    exact x_retI hC hr hlocks rfl hP hD hS dX4_restore_11 ⟨e1, by rw [← e2]⟩
def fX4_ring (a1 : Int32) (a2 : Int32) (a3 : Int32) (a4 : Int32) (σ : St) : Option (Int32 × St) := bnd (fX4_whyNotAsk a1 a2 a3 a4) fun r1 => if (0 : Int32) ≤ r1 then (bnd (fX4_layAside  σ) fun s3 => bnd (fX4_of a1 (0 : Int32) s3) fun r4 => if (r4 : Int32) ≤ (0 : Int32) then (bnd (fX4_joinRow a1 a2 a3 a4 s3) fun s6 => bn2 (fX4_ringNow a1 s6) fun r7 s8 => bnd (fX4_layBack  s8) fun s10 => some (r7, s10)) else (bnd (fX4_leaveRow a1 s3) fun s12 => bnd (fX4_joinRow a1 a2 a3 a4 s12) fun s14 => bn2 (fX4_ringNow a1 s14) fun r15 s16 => bnd (fX4_layBack  s16) fun s18 => some (r15, s18))) else (some (r1, σ))
abbrev rmX4_ring : Room := { frames := 7, cells := 0, slots := 0, locals := 165 }
set_option maxHeartbeats 4000000 in
set_option maxRecDepth 100000 in
theorem kX4_ring (l : Launch) (dC : Nat → ClassId) (dI : Nat → Nat → Nat) (cA : Nat → ClassId) (h : Nat) (ad : Nat → Nat) (a1 : Int32) (a2 : Int32) (a3 : Int32) (a4 : Int32) (σ : St) (R0 : Int32) (σ' : St) (h0 : fX4_ring a1 a2 a3 a4 σ = some (R0, σ')) : CI l yX4_ring wsX4_ring rmX4_ring (dC, dI) vwCl (tysW cA) [.ref h, .int a1, .int a2, .int a3, .int a4] (wM cA h ad σ) R0 (wM cA h ad σ') := by
  refine CGI_of (cc := cX4_ring) (nL := 7) (ret := (some .int)) (by decide) rfl (Nat.le_of_ble_eq_true rfl) ?_
  intro p e s m av below meth c A ls H locs hC hl
  obtain ⟨hC, hr, hlocks, hV, hN, hK, hP, hD, hS, hA⟩ := hC
  have hC : CallFix p m c cX4_ring 7 s _ wsX4_ring RX4 := hC
  obtain ⟨hx, hb, hml, hown, hts⟩ := id hC
  have hin0 : ∀ w ∈ u_ws RX4 TX4 16, w ∈ wsX4_ring := fun _ h => (List.mem_cons_of_mem _ (List.mem_append_right _ h))
  have hl : lv_has ls 7 [(0, .ref h), (1, .int a1), (2, .int a2), (3, .int a3), (4, .int a4)] := hl
  unfold fX4_ring at h0
  refine lv_iload_n hx hb dX4_ring_0 rfl (lv_at hl 1 rfl) ?_
  refine lv_iload_n hx hb dX4_ring_1 rfl (lv_at hl 2 rfl) ?_
  refine lv_iload_n hx hb dX4_ring_2 rfl (lv_at hl 3 rfl) ?_
  refine lv_iload hx hb dX4_ring_3 (lv_at hl 4 rfl) ?_
  obtain ⟨r1, hf1, h0⟩ := bnd_some h0
  refine x_SI (As := [.int a1, .int a2, .int a3, .int a4]) (rest := []) hC (kX4_whyNotAsk l dC dI cA a1 a2 a3 a4 r1 hf1) (cwS 4 hts gX4_ring_X4_whyNotAsk rfl rfl rfl (by decide +kernel) ⟨Nat.le_of_ble_eq_true rfl, Nat.le_of_ble_eq_true rfl⟩) hV hN hK hP hD hS hA rfl hl.1 rfl (Nat.le_of_ble_eq_true rfl) ⟨Nat.zero_le _, Nat.zero_le _⟩ dX4_ring_5 (fun H locs hP hD hS => ?_)
  refine lv_istore (lv' := [(5, .int r1), (0, .ref h), (1, .int a1), (2, .int a2), (3, .int a3), (4, .int a4)]) hx hb dX4_ring_8 hl (by decide) rfl (fun ls hl => ?_)
  refine lv_iload hx hb dX4_ring_10 (lv_at hl 0 rfl) ?_
  refine lv_if_ge (tgt := 18) hx hb dX4_ring_12 (by decide) (fun hc => ?_) (fun hc => ?_)
  · have h0 := it_t h0 hc
    refine lv_aload_n hx hb dX4_ring_18 rfl (lv_at hl 1 rfl) ?_
    obtain ⟨s3, hf2, h0⟩ := bnd_some h0
    refine x_VV (As := []) (rest := []) hC (kX4_layAside l dC dI cA h ad σ s3 hf2) (cwV 0 hts gX4_ring_X4_layAside rfl rfl rfl (by decide +kernel) ⟨Nat.le_of_ble_eq_true rfl, Nat.le_of_ble_eq_true rfl⟩) 0 4 hV hN hK hP hD hS hA rfl rfl rfl rfl hl.1 rfl (Nat.le_of_ble_eq_true rfl) ⟨Nat.zero_le _, Nat.zero_le _⟩ dX4_ring_19 (fun H locs hP hD hS => ?_)
    refine lv_aload_n hx hb dX4_ring_22 rfl (lv_at hl 1 rfl) ?_
    refine lv_iload_n hx hb dX4_ring_23 rfl (lv_at hl 2 rfl) ?_
    refine lv_iconst (v := (0 : Int32)) hx hb dX4_ring_24 (by decide) ?_
    obtain ⟨r4, hf3, h0⟩ := bnd_some h0
    refine x_VI (As := [.int a1, .int (0 : Int32)]) (rest := []) hC (kX4_of l dC dI cA h ad a1 (0 : Int32) s3 r4  hf3) (cwV 2 hts gX4_ring_X4_of rfl rfl rfl (by decide +kernel) ⟨Nat.le_of_ble_eq_true rfl, Nat.le_of_ble_eq_true rfl⟩) 0 4 hV hN hK hP hD hS hA rfl rfl rfl rfl hl.1 rfl (Nat.le_of_ble_eq_true rfl) ⟨Nat.zero_le _, Nat.zero_le _⟩ dX4_ring_25 (fun H locs hP hD hS => ?_)
    refine lv_if_le (tgt := 36) hx hb dX4_ring_28 (by decide) (fun hc => ?_) (fun hc => ?_)
    · have h0 := it_t h0 hc
      refine lv_aload_n hx hb dX4_ring_36 rfl (lv_at hl 1 rfl) ?_
      refine lv_iload_n hx hb dX4_ring_37 rfl (lv_at hl 2 rfl) ?_
      refine lv_iload_n hx hb dX4_ring_38 rfl (lv_at hl 3 rfl) ?_
      refine lv_iload_n hx hb dX4_ring_39 rfl (lv_at hl 4 rfl) ?_
      refine lv_iload hx hb dX4_ring_40 (lv_at hl 5 rfl) ?_
      obtain ⟨s6, hf4, h0⟩ := bnd_some h0
      refine x_VV (As := [.int a1, .int a2, .int a3, .int a4]) (rest := []) hC (kX4_joinRow l dC dI cA h ad a1 a2 a3 a4 s3 s6 hf4) (cwV 4 hts gX4_ring_X4_joinRow rfl rfl rfl (by decide +kernel) ⟨Nat.le_of_ble_eq_true rfl, Nat.le_of_ble_eq_true rfl⟩) 0 4 hV hN hK hP hD hS hA rfl rfl rfl rfl hl.1 rfl (Nat.le_of_ble_eq_true rfl) ⟨Nat.zero_le _, Nat.zero_le _⟩ dX4_ring_42 (fun H locs hP hD hS => ?_)
      refine lv_aload_n hx hb dX4_ring_45 rfl (lv_at hl 1 rfl) ?_
      refine lv_iload_n hx hb dX4_ring_46 rfl (lv_at hl 2 rfl) ?_
      obtain ⟨r7, s8, hf5, h0⟩ := bn2_some h0
      refine x_VI (As := [.int a1]) (rest := []) hC (kX4_ringNow l dC dI cA h ad a1 s6 r7 s8 hf5) (cwV 1 hts gX4_ring_X4_ringNow rfl rfl rfl (by decide +kernel) ⟨Nat.le_of_ble_eq_true rfl, Nat.le_of_ble_eq_true rfl⟩) 0 4 hV hN hK hP hD hS hA rfl rfl rfl rfl hl.1 rfl (Nat.le_of_ble_eq_true rfl) ⟨Nat.zero_le _, Nat.zero_le _⟩ dX4_ring_47 (fun H locs hP hD hS => ?_)
      refine lv_istore (lv' := [(6, .int r7), (5, .int r1), (0, .ref h), (1, .int a1), (2, .int a2), (3, .int a3), (4, .int a4)]) hx hb dX4_ring_50 hl (by decide) rfl (fun ls hl => ?_)
      refine lv_aload_n hx hb dX4_ring_52 rfl (lv_at hl 2 rfl) ?_
      obtain ⟨s10, hf6, h0⟩ := bnd_some h0
      refine x_VV (As := []) (rest := []) hC (kX4_layBack l dC dI cA h ad s8 s10 hf6) (cwV 0 hts gX4_ring_X4_layBack rfl rfl rfl (by decide +kernel) ⟨Nat.le_of_ble_eq_true rfl, Nat.le_of_ble_eq_true rfl⟩) 0 4 hV hN hK hP hD hS hA rfl rfl rfl rfl hl.1 rfl (Nat.le_of_ble_eq_true rfl) ⟨Nat.zero_le _, Nat.zero_le _⟩ dX4_ring_53 (fun H locs hP hD hS => ?_)
      refine lv_iload hx hb dX4_ring_56 (lv_at hl 0 rfl) ?_
      obtain ⟨e1, e2⟩ := Prod.mk.inj (Option.some.inj h0)
      exact x_retI hC hr hlocks rfl hP hD hS dX4_ring_58 ⟨e1, by rw [← e2]⟩
    · have h0 := it_f h0 hc
      refine lv_aload_n hx hb dX4_ring_31 rfl (lv_at hl 1 rfl) ?_
      refine lv_iload_n hx hb dX4_ring_32 rfl (lv_at hl 2 rfl) ?_
      obtain ⟨s12, hf7, h0⟩ := bnd_some h0
      refine x_VV (As := [.int a1]) (rest := []) hC (kX4_leaveRow l dC dI cA h ad a1 s3 s12 hf7) (cwV 1 hts gX4_ring_X4_leaveRow rfl rfl rfl (by decide +kernel) ⟨Nat.le_of_ble_eq_true rfl, Nat.le_of_ble_eq_true rfl⟩) 0 4 hV hN hK hP hD hS hA rfl rfl rfl rfl hl.1 rfl (Nat.le_of_ble_eq_true rfl) ⟨Nat.zero_le _, Nat.zero_le _⟩ dX4_ring_33 (fun H locs hP hD hS => ?_)
      refine lv_aload_n hx hb dX4_ring_36 rfl (lv_at hl 1 rfl) ?_
      refine lv_iload_n hx hb dX4_ring_37 rfl (lv_at hl 2 rfl) ?_
      refine lv_iload_n hx hb dX4_ring_38 rfl (lv_at hl 3 rfl) ?_
      refine lv_iload_n hx hb dX4_ring_39 rfl (lv_at hl 4 rfl) ?_
      refine lv_iload hx hb dX4_ring_40 (lv_at hl 5 rfl) ?_
      obtain ⟨s14, hf8, h0⟩ := bnd_some h0
      refine x_VV (As := [.int a1, .int a2, .int a3, .int a4]) (rest := []) hC (kX4_joinRow l dC dI cA h ad a1 a2 a3 a4 s12 s14 hf8) (cwV 4 hts gX4_ring_X4_joinRow rfl rfl rfl (by decide +kernel) ⟨Nat.le_of_ble_eq_true rfl, Nat.le_of_ble_eq_true rfl⟩) 0 4 hV hN hK hP hD hS hA rfl rfl rfl rfl hl.1 rfl (Nat.le_of_ble_eq_true rfl) ⟨Nat.zero_le _, Nat.zero_le _⟩ dX4_ring_42 (fun H locs hP hD hS => ?_)
      refine lv_aload_n hx hb dX4_ring_45 rfl (lv_at hl 1 rfl) ?_
      refine lv_iload_n hx hb dX4_ring_46 rfl (lv_at hl 2 rfl) ?_
      obtain ⟨r15, s16, hf9, h0⟩ := bn2_some h0
      refine x_VI (As := [.int a1]) (rest := []) hC (kX4_ringNow l dC dI cA h ad a1 s14 r15 s16 hf9) (cwV 1 hts gX4_ring_X4_ringNow rfl rfl rfl (by decide +kernel) ⟨Nat.le_of_ble_eq_true rfl, Nat.le_of_ble_eq_true rfl⟩) 0 4 hV hN hK hP hD hS hA rfl rfl rfl rfl hl.1 rfl (Nat.le_of_ble_eq_true rfl) ⟨Nat.zero_le _, Nat.zero_le _⟩ dX4_ring_47 (fun H locs hP hD hS => ?_)
      refine lv_istore (lv' := [(6, .int r15), (5, .int r1), (0, .ref h), (1, .int a1), (2, .int a2), (3, .int a3), (4, .int a4)]) hx hb dX4_ring_50 hl (by decide) rfl (fun ls hl => ?_)
      refine lv_aload_n hx hb dX4_ring_52 rfl (lv_at hl 2 rfl) ?_
      obtain ⟨s18, hf10, h0⟩ := bnd_some h0
      refine x_VV (As := []) (rest := []) hC (kX4_layBack l dC dI cA h ad s16 s18 hf10) (cwV 0 hts gX4_ring_X4_layBack rfl rfl rfl (by decide +kernel) ⟨Nat.le_of_ble_eq_true rfl, Nat.le_of_ble_eq_true rfl⟩) 0 4 hV hN hK hP hD hS hA rfl rfl rfl rfl hl.1 rfl (Nat.le_of_ble_eq_true rfl) ⟨Nat.zero_le _, Nat.zero_le _⟩ dX4_ring_53 (fun H locs hP hD hS => ?_)
      refine lv_iload hx hb dX4_ring_56 (lv_at hl 0 rfl) ?_
      obtain ⟨e1, e2⟩ := Prod.mk.inj (Option.some.inj h0)
      exact x_retI hC hr hlocks rfl hP hD hS dX4_ring_58 ⟨e1, by rw [← e2]⟩
  · have h0 := it_f h0 hc
    refine lv_iload hx hb dX4_ring_15 (lv_at hl 0 rfl) ?_
    obtain ⟨e1, e2⟩ := Prod.mk.inj (Option.some.inj h0)
    exact x_retI hC hr hlocks rfl hP hD hS dX4_ring_17 ⟨e1, by rw [← e2]⟩
def bX4_save_14 (a1 : Int32) (x2 : Int32) (s3 : St) : Option ((Int32 × St) ⊕ (Int32 × St)) := if (2488 : Int32) ≤ x2 then (some (.inr (x2, s3))) else (ax x2 2488 (ax (((2488 : Int32) * a1) + x2) 4976 (nm (put s3 4 (upd (s3 4) (((2488 : Int32) * a1) + x2 : Int32).toNatClampNeg (s3 0 (x2 : Int32).toNatClampNeg))) fun s4 => nm (x2 + (1 : Int32)) fun v5 => some (.inl (v5, s4)))))
def fX4_save (a1 : Int32) (σ : St) : Option (Int32 × St) := bnd (fX4_in a1 (0 : Int32) (1 : Int32)) fun r1 => if (r1 : Int32) = (0 : Int32) then (some ((-2 : Int32), σ)) else (bnd (lp (fun t : (Int32 × St) => bX4_save_14 a1 t.1 t.2) FU ((0 : Int32), σ)) (fun e : (Int32 × St) => nm e.1 fun x6 => nm e.2 fun s7 => ax a1 2 (nm (put s7 5 (upd (s7 5) (a1 : Int32).toNatClampNeg (vp_nar .boolean ((1 : Int32))))) fun s8 => ax (0 : Int32) 2488 (some (s8 0 ((0 : Int32) : Int32).toNatClampNeg, s8)))))
abbrev rmX4_save : Room := { frames := 1, cells := 0, slots := 0, locals := 22 }
set_option maxHeartbeats 4000000 in
set_option maxRecDepth 100000 in
theorem kX4_save (l : Launch) (dC : Nat → ClassId) (dI : Nat → Nat → Nat) (cA : Nat → ClassId) (h : Nat) (ad : Nat → Nat) (a1 : Int32) (σ : St) (R0 : Int32) (σ' : St) (h0 : fX4_save a1 σ = some (R0, σ')) : CI l yX4_save wsX4_save rmX4_save (dC, dI) vwCl (tysW cA) [.ref h, .int a1] (wM cA h ad σ) R0 (wM cA h ad σ') := by
  refine CGI_of (cc := cX4_save) (nL := 3) (ret := (some .int)) (by decide) rfl (Nat.le_of_ble_eq_true rfl) ?_
  intro p e s m av below meth c A ls H locs hC hl
  obtain ⟨hC, hr, hlocks, hV, hN, hK, hP, hD, hS, hA⟩ := hC
  have hC : CallFix p m c cX4_save 3 s _ wsX4_save RX4 := hC
  obtain ⟨hx, hb, hml, hown, hts⟩ := id hC
  have hin0 : ∀ w ∈ u_ws RX4 TX4 16, w ∈ wsX4_save := fun _ h => (List.mem_cons_of_mem _ (List.mem_append_right _ h))
  have hl : lv_has ls 3 [(0, .ref h), (1, .int a1)] := hl
  unfold fX4_save at h0
  refine lv_iload_n hx hb dX4_save_0 rfl (lv_at hl 1 rfl) ?_
  refine lv_iconst (v := (0 : Int32)) hx hb dX4_save_1 (by decide) ?_
  refine lv_iconst (v := (1 : Int32)) hx hb dX4_save_2 (by decide) ?_
  obtain ⟨r1, hf1, h0⟩ := bnd_some h0
  refine x_SI (As := [.int a1, .int (0 : Int32), .int (1 : Int32)]) (rest := []) hC (kX4_in l dC dI cA a1 (0 : Int32) (1 : Int32) r1 hf1) (cwS 3 hts gX4_save_X4_in rfl rfl rfl (by decide +kernel) ⟨Nat.le_of_ble_eq_true rfl, Nat.le_of_ble_eq_true rfl⟩) hV hN hK hP hD hS hA rfl hl.1 rfl (Nat.le_of_ble_eq_true rfl) ⟨Nat.zero_le _, Nat.zero_le _⟩ dX4_save_3 (fun H locs hP hD hS => ?_)
  refine lv_if_ne (tgt := 12) hx hb dX4_save_6 (by decide) (fun hc => ?_) (fun hc => ?_)
  · have h0 := it_f h0 hc
    refine lv_iconst (v := (0 : Int32)) hx hb dX4_save_12 (by decide) ?_
    refine lv_istore_n (lv' := [(2, .int (0 : Int32)), (0, .ref h), (1, .int a1)]) hx hb dX4_save_13 rfl hl (by decide) rfl (fun ls hl => ?_)
    obtain ⟨ε2, hl2, h0⟩ := bnd_some h0
    have KN2 : ∀ (x6 : Int32) (s7 : St), ε2 = (x6, s7) → ∀ (H : Heap) (locs : List Loc), va_P (dC, dI) vwCl (wM cA h ad s7) H → va_D A (wM cA h ad s7) → va_S A s.heap H locs → ∀ (ls : Array Slot), lv_has ls 3 [(2, .int x6), (0, .ref h), (1, .int a1)] → W p l e (headSpec wsX4_save rmX4_save).room s m av below meth c H locs 0 0 (MQ below (qI (dC, dI) A R0 (wM cA h ad σ')) av s 0 0 A) (F0 m 45 ls []) := by
      intro x6 s7 hε H locs hP hD hS ls hl
      rw [hε] at h0
      have h0 := nm_at (z := x6) rfl h0
      have h0 := nm_at (z := s7) rfl h0
      refine lv_aload_n hx hb dX4_save_45 rfl (lv_at hl 1 rfl) ?_
      refine va_get (D := (dC, dI)) (ci := 4) (v := .ref (ad 5)) (C := RX4) (T := TX4) (N := 16) hx hb hts hin0 hown hK hP 0 rfl rfl 5 (by decide) (hts (.fieldLink RX4 19 "MeanLocksModel" "isSaved" "[Z") (List.mem_of_getElem? (i := 3) rfl)) (fun _ h9 => h9) rfl dX4_save_46 ?_
      refine lv_iload_n hx hb dX4_save_49 rfl (lv_at hl 2 rfl) ?_
      refine lv_iconst (v := (1 : Int32)) hx hb dX4_save_50 (by decide) ?_
      obtain ⟨hi, h0⟩ := ax_some h0
      obtain ⟨s8, es8, h0⟩ := nm_some h0
      refine x_zast (ws' := wM cA h ad s8) hC hK hP hD hS 4 2 rfl rfl (by rw [es8]; exact wM_s5 _ _ _ _ _) hi dX4_save_51 (fun H locs hP hD hS => ?_)
      refine lv_aload_n hx hb dX4_save_52 rfl (lv_at hl 1 rfl) ?_
      refine va_get (D := (dC, dI)) (ci := 4) (v := .ref (ad 0)) (C := RX4) (T := TX4) (N := 16) hx hb hts hin0 hown hK hP 0 rfl rfl 0 (by decide) (hts (.fieldLink RX4 7 "MeanLocksModel" "at" "[I") (List.mem_of_getElem? (i := 2) rfl)) (fun _ h9 => h9) rfl dX4_save_53 ?_
      refine lv_iconst (v := (0 : Int32)) hx hb dX4_save_56 (by decide) ?_
      obtain ⟨hi, h0⟩ := ax_some h0
      refine va_iald hx hb hK hP 1 0 rfl rfl hi dX4_save_57 ?_
      obtain ⟨e1, e2⟩ := Prod.mk.inj (Option.some.inj h0)
      exact x_retI hC hr hlocks rfl hP hD hS dX4_save_58 ⟨e1, by rw [← e2]⟩
    have LP2 : ∀ (n : Nat) (x2 : Int32) (s3 : St), lp (fun t : (Int32 × St) => bX4_save_14 a1 t.1 t.2) n (x2, s3) = some ε2 → ∀ (H : Heap) (locs : List Loc), va_P (dC, dI) vwCl (wM cA h ad s3) H → va_D A (wM cA h ad s3) → va_S A s.heap H locs → ∀ (ls : Array Slot), lv_has ls 3 [(2, .int x2), (0, .ref h), (1, .int a1)] → W p l e (headSpec wsX4_save rmX4_save).room s m av below meth c H locs 0 0 (MQ below (qI (dC, dI) A R0 (wM cA h ad σ')) av s 0 0 A) (F0 m 14 ls []) := by
      intro n
      induction n with
      | zero => intro x2 s3 hl0; exact (lp_0 hl0).elim
      | succ n ih2 =>
        intro x2 s3 hl0 H locs hP hD hS ls hl
        obtain ⟨z2, h1, hz2⟩ := lp_s hl0
        have h1 : bX4_save_14 a1 x2 s3 = some z2 := h1
        unfold bX4_save_14 at h1
        refine lv_iload_n hx hb dX4_save_14 rfl (lv_at hl 0 rfl) ?_
        refine lv_sipush (v := (2488 : Int32)) hx hb dX4_save_15 (by decide) ?_
        refine lv_icmp_ge (tgt := 45) hx hb dX4_save_18 (by decide) (fun hc => ?_) (fun hc => ?_)
        · have h1 := it_t h1 hc
          have he := lp_r h1 hz2
          exact KN2 x2 s3 he _ _ hP hD hS ls (lv_sub hl [0, 1, 2] rfl)
        · have h1 := it_f h1 hc
          refine lv_aload_n hx hb dX4_save_21 rfl (lv_at hl 1 rfl) ?_
          refine va_get (D := (dC, dI)) (ci := 4) (v := .ref (ad 4)) (C := RX4) (T := TX4) (N := 16) hx hb hts hin0 hown hK hP 0 rfl rfl 4 (by decide) (hts (.fieldLink RX4 16 "MeanLocksModel" "slots" "[I") (List.mem_of_getElem? (i := 1) rfl)) (fun _ h9 => h9) rfl dX4_save_22 ?_
          refine lv_sipush (v := (2488 : Int32)) hx hb dX4_save_25 (by decide) ?_
          refine lv_iload_n hx hb dX4_save_28 rfl (lv_at hl 2 rfl) ?_
          refine lv_imul hx hb dX4_save_29 ?_
          refine lv_iload_n hx hb dX4_save_30 rfl (lv_at hl 0 rfl) ?_
          refine lv_iadd hx hb dX4_save_31 ?_
          refine lv_aload_n hx hb dX4_save_32 rfl (lv_at hl 1 rfl) ?_
          refine va_get (D := (dC, dI)) (ci := 4) (v := .ref (ad 0)) (C := RX4) (T := TX4) (N := 16) hx hb hts hin0 hown hK hP 0 rfl rfl 0 (by decide) (hts (.fieldLink RX4 7 "MeanLocksModel" "at" "[I") (List.mem_of_getElem? (i := 2) rfl)) (fun _ h9 => h9) rfl dX4_save_33 ?_
          refine lv_iload_n hx hb dX4_save_36 rfl (lv_at hl 0 rfl) ?_
          obtain ⟨hi, h1⟩ := ax_some h1
          refine va_iald hx hb hK hP 1 0 rfl rfl hi dX4_save_37 ?_
          obtain ⟨hi, h1⟩ := ax_some h1
          obtain ⟨s4, es4, h1⟩ := nm_some h1
          refine x_iast (ws' := wM cA h ad s4) hC hK hP hD hS 3 0 rfl rfl (by rw [es4]; exact wM_s4 _ _ _ _ _) hi dX4_save_38 (fun H locs hP hD hS => ?_)
          obtain ⟨v5, ev5, h1⟩ := nm_some h1
          refine lv_iinc (v := v5) (lv' := [(2, .int v5), (0, .ref h), (1, .int a1)]) hx hb dX4_save_39 hl (k := 0) rfl (by rw [ev5]; rfl) (by decide) rfl (fun ls hl => ?_)
          refine lv_goto (tgt := 14) hx hb dX4_save_42 (by decide) ?_
          have hc := lp_l h1 hz2
          exact ih2 v5 s4 hc _ _ hP hD hS ls (lv_sub hl [0, 1, 2] rfl)
    exact LP2 FU (0 : Int32) σ hl2 _ _ hP hD hS ls hl
  · have h0 := it_t h0 hc
    refine lv_bipush (v := (-2 : Int32)) hx hb dX4_save_9 (by decide) ?_
    obtain ⟨e1, e2⟩ := Prod.mk.inj (Option.some.inj h0)
    exact x_retI hC hr hlocks rfl hP hD hS dX4_save_11 ⟨e1, by rw [← e2]⟩
def fX4_set (a1 : Int32) (a2 : Int32) (σ : St) : Option (Int32 × St) := bnd (fX4_in a1 (0 : Int32) (2 : Int32)) fun r1 => if (r1 : Int32) = (0 : Int32) then (some ((-2 : Int32), σ)) else (if (a1 : Int32) = (2 : Int32) then (bnd (fX4_in a2 (0 : Int32) (200 : Int32)) fun r11 => if (r11 : Int32) = (0 : Int32) then (some ((-2 : Int32), σ)) else (if (a1 : Int32) = (0 : Int32) then (ax (1 : Int32) 2488 (if ((σ 0 ((1 : Int32) : Int32).toNatClampNeg) : Int32) ≤ (0 : Int32) then (bnd (fX4_keep  σ) fun s17 => ax ((2 : Int32) + a1) 2488 (nm (s17 0 ((2 : Int32) + a1 : Int32).toNatClampNeg) fun v18 => ax ((2 : Int32) + a1) 2488 (nm (put s17 0 (upd (s17 0) ((2 : Int32) + a1 : Int32).toNatClampNeg (a2))) fun s19 => some (v18, s19)))) else (some ((-5 : Int32), σ)))) else (bnd (fX4_keep  σ) fun s13 => ax ((2 : Int32) + a1) 2488 (nm (s13 0 ((2 : Int32) + a1 : Int32).toNatClampNeg) fun v14 => ax ((2 : Int32) + a1) 2488 (nm (put s13 0 (upd (s13 0) ((2 : Int32) + a1 : Int32).toNatClampNeg (a2))) fun s15 => some (v14, s15)))))) else (bnd (fX4_in a2 (0 : Int32) (1 : Int32)) fun r2 => if (r2 : Int32) = (0 : Int32) then (some ((-2 : Int32), σ)) else (if (a1 : Int32) = (0 : Int32) then (ax (1 : Int32) 2488 (if ((σ 0 ((1 : Int32) : Int32).toNatClampNeg) : Int32) ≤ (0 : Int32) then (bnd (fX4_keep  σ) fun s8 => ax ((2 : Int32) + a1) 2488 (nm (s8 0 ((2 : Int32) + a1 : Int32).toNatClampNeg) fun v9 => ax ((2 : Int32) + a1) 2488 (nm (put s8 0 (upd (s8 0) ((2 : Int32) + a1 : Int32).toNatClampNeg (a2))) fun s10 => some (v9, s10)))) else (some ((-5 : Int32), σ)))) else (bnd (fX4_keep  σ) fun s4 => ax ((2 : Int32) + a1) 2488 (nm (s4 0 ((2 : Int32) + a1 : Int32).toNatClampNeg) fun v5 => ax ((2 : Int32) + a1) 2488 (nm (put s4 0 (upd (s4 0) ((2 : Int32) + a1 : Int32).toNatClampNeg (a2))) fun s6 => some (v5, s6)))))))
abbrev rmX4_set : Room := { frames := 1, cells := 0, slots := 0, locals := 22 }
set_option maxHeartbeats 4000000 in
set_option maxRecDepth 100000 in
theorem kX4_set (l : Launch) (dC : Nat → ClassId) (dI : Nat → Nat → Nat) (cA : Nat → ClassId) (h : Nat) (ad : Nat → Nat) (a1 : Int32) (a2 : Int32) (σ : St) (R0 : Int32) (σ' : St) (h0 : fX4_set a1 a2 σ = some (R0, σ')) : CI l yX4_set wsX4_set rmX4_set (dC, dI) vwCl (tysW cA) [.ref h, .int a1, .int a2] (wM cA h ad σ) R0 (wM cA h ad σ') := by
  refine CGI_of (cc := cX4_set) (nL := 4) (ret := (some .int)) (by decide) rfl (Nat.le_of_ble_eq_true rfl) ?_
  intro p e s m av below meth c A ls H locs hC hl
  obtain ⟨hC, hr, hlocks, hV, hN, hK, hP, hD, hS, hA⟩ := hC
  have hC : CallFix p m c cX4_set 4 s _ wsX4_set RX4 := hC
  obtain ⟨hx, hb, hml, hown, hts⟩ := id hC
  have hin0 : ∀ w ∈ u_ws RX4 TX4 16, w ∈ wsX4_set := fun _ h => (List.mem_cons_of_mem _ (List.mem_append_right _ h))
  have hl : lv_has ls 4 [(0, .ref h), (1, .int a1), (2, .int a2)] := hl
  unfold fX4_set at h0
  refine lv_iload_n hx hb dX4_set_0 rfl (lv_at hl 1 rfl) ?_
  refine lv_iconst (v := (0 : Int32)) hx hb dX4_set_1 (by decide) ?_
  refine lv_iconst (v := (2 : Int32)) hx hb dX4_set_2 (by decide) ?_
  obtain ⟨r1, hf1, h0⟩ := bnd_some h0
  refine x_SI (As := [.int a1, .int (0 : Int32), .int (2 : Int32)]) (rest := []) hC (kX4_in l dC dI cA a1 (0 : Int32) (2 : Int32) r1 hf1) (cwS 3 hts gX4_set_X4_in rfl rfl rfl (by decide +kernel) ⟨Nat.le_of_ble_eq_true rfl, Nat.le_of_ble_eq_true rfl⟩) hV hN hK hP hD hS hA rfl hl.1 rfl (Nat.le_of_ble_eq_true rfl) ⟨Nat.zero_le _, Nat.zero_le _⟩ dX4_set_3 (fun H locs hP hD hS => ?_)
  refine lv_if_eq (tgt := 29) hx hb dX4_set_6 (by decide) (fun hc => ?_) (fun hc => ?_)
  · have h0 := it_t h0 hc
    refine lv_bipush (v := (-2 : Int32)) hx hb dX4_set_29 (by decide) ?_
    obtain ⟨e1, e2⟩ := Prod.mk.inj (Option.some.inj h0)
    exact x_retI hC hr hlocks rfl hP hD hS dX4_set_31 ⟨e1, by rw [← e2]⟩
  · have h0 := it_f h0 hc
    refine lv_iload_n hx hb dX4_set_9 rfl (lv_at hl 2 rfl) ?_
    refine lv_iconst (v := (0 : Int32)) hx hb dX4_set_10 (by decide) ?_
    refine lv_iload_n hx hb dX4_set_11 rfl (lv_at hl 1 rfl) ?_
    refine lv_iconst (v := (2 : Int32)) hx hb dX4_set_12 (by decide) ?_
    refine lv_icmp_ne (tgt := 22) hx hb dX4_set_13 (by decide) (fun hc => ?_) (fun hc => ?_)
    · have h0 := it_f h0 hc
      refine lv_iconst (v := (1 : Int32)) hx hb dX4_set_22 (by decide) ?_
      obtain ⟨r2, hf2, h0⟩ := bnd_some h0
      refine x_SI (As := [.int a2, .int (0 : Int32), .int (1 : Int32)]) (rest := []) hC (kX4_in l dC dI cA a2 (0 : Int32) (1 : Int32) r2 hf2) (cwS 3 hts gX4_set_X4_in rfl rfl rfl (by decide +kernel) ⟨Nat.le_of_ble_eq_true rfl, Nat.le_of_ble_eq_true rfl⟩) hV hN hK hP hD hS hA rfl hl.1 rfl (Nat.le_of_ble_eq_true rfl) ⟨Nat.zero_le _, Nat.zero_le _⟩ dX4_set_23 (fun H locs hP hD hS => ?_)
      refine lv_if_ne (tgt := 32) hx hb dX4_set_26 (by decide) (fun hc => ?_) (fun hc => ?_)
      · have h0 := it_f h0 hc
        refine lv_iload_n hx hb dX4_set_32 rfl (lv_at hl 1 rfl) ?_
        refine lv_if_ne (tgt := 48) hx hb dX4_set_33 (by decide) (fun hc => ?_) (fun hc => ?_)
        · have h0 := it_f h0 hc
          refine lv_aload_n hx hb dX4_set_48 rfl (lv_at hl 0 rfl) ?_
          obtain ⟨s4, hf3, h0⟩ := bnd_some h0
          refine x_VV (As := []) (rest := []) hC (kX4_keep l dC dI cA h ad σ s4 hf3) (cwV 0 hts gX4_set_X4_keep rfl rfl rfl (by decide +kernel) ⟨Nat.le_of_ble_eq_true rfl, Nat.le_of_ble_eq_true rfl⟩) 0 4 hV hN hK hP hD hS hA rfl rfl rfl rfl hl.1 rfl (Nat.le_of_ble_eq_true rfl) ⟨Nat.zero_le _, Nat.zero_le _⟩ dX4_set_49 (fun H locs hP hD hS => ?_)
          refine lv_aload_n hx hb dX4_set_52 rfl (lv_at hl 0 rfl) ?_
          refine va_get (D := (dC, dI)) (ci := 4) (v := .ref (ad 0)) (C := RX4) (T := TX4) (N := 16) hx hb hts hin0 hown hK hP 0 rfl rfl 0 (by decide) (hts (.fieldLink RX4 7 "MeanLocksModel" "at" "[I") (List.mem_of_getElem? (i := 1) rfl)) (fun _ h9 => h9) rfl dX4_set_53 ?_
          refine lv_iconst (v := (2 : Int32)) hx hb dX4_set_56 (by decide) ?_
          refine lv_iload_n hx hb dX4_set_57 rfl (lv_at hl 1 rfl) ?_
          refine lv_iadd hx hb dX4_set_58 ?_
          obtain ⟨hi, h0⟩ := ax_some h0
          refine va_iald hx hb hK hP 1 0 rfl rfl hi dX4_set_59 ?_
          refine lv_topi (fun v5 ev5 => ?_)
          have h0 := nm_at ev5 h0
          refine lv_istore_n (lv' := [(3, .int v5), (0, .ref h), (1, .int a1), (2, .int a2)]) hx hb dX4_set_60 rfl hl (by decide) rfl (fun ls hl => ?_)
          refine lv_aload_n hx hb dX4_set_61 rfl (lv_at hl 1 rfl) ?_
          refine va_get (D := (dC, dI)) (ci := 4) (v := .ref (ad 0)) (C := RX4) (T := TX4) (N := 16) hx hb hts hin0 hown hK hP 0 rfl rfl 0 (by decide) (hts (.fieldLink RX4 7 "MeanLocksModel" "at" "[I") (List.mem_of_getElem? (i := 1) rfl)) (fun _ h9 => h9) rfl dX4_set_62 ?_
          refine lv_iconst (v := (2 : Int32)) hx hb dX4_set_65 (by decide) ?_
          refine lv_iload_n hx hb dX4_set_66 rfl (lv_at hl 2 rfl) ?_
          refine lv_iadd hx hb dX4_set_67 ?_
          refine lv_iload_n hx hb dX4_set_68 rfl (lv_at hl 3 rfl) ?_
          obtain ⟨hi, h0⟩ := ax_some h0
          obtain ⟨s6, es6, h0⟩ := nm_some h0
          refine x_iast (ws' := wM cA h ad s6) hC hK hP hD hS 1 0 rfl rfl (by rw [es6]; exact wM_s0 _ _ _ _ _) hi dX4_set_69 (fun H locs hP hD hS => ?_)
          refine lv_iload_n hx hb dX4_set_70 rfl (lv_at hl 0 rfl) ?_
          obtain ⟨e1, e2⟩ := Prod.mk.inj (Option.some.inj h0)
          exact x_retI hC hr hlocks rfl hP hD hS dX4_set_71 ⟨e1, by rw [← e2]⟩
        · have h0 := it_t h0 hc
          refine lv_aload_n hx hb dX4_set_36 rfl (lv_at hl 0 rfl) ?_
          refine va_get (D := (dC, dI)) (ci := 4) (v := .ref (ad 0)) (C := RX4) (T := TX4) (N := 16) hx hb hts hin0 hown hK hP 0 rfl rfl 0 (by decide) (hts (.fieldLink RX4 7 "MeanLocksModel" "at" "[I") (List.mem_of_getElem? (i := 1) rfl)) (fun _ h9 => h9) rfl dX4_set_37 ?_
          refine lv_iconst (v := (1 : Int32)) hx hb dX4_set_40 (by decide) ?_
          obtain ⟨hi, h0⟩ := ax_some h0
          refine va_iald hx hb hK hP 1 0 rfl rfl hi dX4_set_41 ?_
          refine lv_if_le (tgt := 48) hx hb dX4_set_42 (by decide) (fun hc => ?_) (fun hc => ?_)
          · have h0 := it_t h0 hc
            refine lv_aload_n hx hb dX4_set_48 rfl (lv_at hl 0 rfl) ?_
            obtain ⟨s8, hf4, h0⟩ := bnd_some h0
            refine x_VV (As := []) (rest := []) hC (kX4_keep l dC dI cA h ad σ s8 hf4) (cwV 0 hts gX4_set_X4_keep rfl rfl rfl (by decide +kernel) ⟨Nat.le_of_ble_eq_true rfl, Nat.le_of_ble_eq_true rfl⟩) 0 4 hV hN hK hP hD hS hA rfl rfl rfl rfl hl.1 rfl (Nat.le_of_ble_eq_true rfl) ⟨Nat.zero_le _, Nat.zero_le _⟩ dX4_set_49 (fun H locs hP hD hS => ?_)
            refine lv_aload_n hx hb dX4_set_52 rfl (lv_at hl 0 rfl) ?_
            refine va_get (D := (dC, dI)) (ci := 4) (v := .ref (ad 0)) (C := RX4) (T := TX4) (N := 16) hx hb hts hin0 hown hK hP 0 rfl rfl 0 (by decide) (hts (.fieldLink RX4 7 "MeanLocksModel" "at" "[I") (List.mem_of_getElem? (i := 1) rfl)) (fun _ h9 => h9) rfl dX4_set_53 ?_
            refine lv_iconst (v := (2 : Int32)) hx hb dX4_set_56 (by decide) ?_
            refine lv_iload_n hx hb dX4_set_57 rfl (lv_at hl 1 rfl) ?_
            refine lv_iadd hx hb dX4_set_58 ?_
            obtain ⟨hi, h0⟩ := ax_some h0
            refine va_iald hx hb hK hP 1 0 rfl rfl hi dX4_set_59 ?_
            refine lv_topi (fun v9 ev9 => ?_)
            have h0 := nm_at ev9 h0
            refine lv_istore_n (lv' := [(3, .int v9), (0, .ref h), (1, .int a1), (2, .int a2)]) hx hb dX4_set_60 rfl hl (by decide) rfl (fun ls hl => ?_)
            refine lv_aload_n hx hb dX4_set_61 rfl (lv_at hl 1 rfl) ?_
            refine va_get (D := (dC, dI)) (ci := 4) (v := .ref (ad 0)) (C := RX4) (T := TX4) (N := 16) hx hb hts hin0 hown hK hP 0 rfl rfl 0 (by decide) (hts (.fieldLink RX4 7 "MeanLocksModel" "at" "[I") (List.mem_of_getElem? (i := 1) rfl)) (fun _ h9 => h9) rfl dX4_set_62 ?_
            refine lv_iconst (v := (2 : Int32)) hx hb dX4_set_65 (by decide) ?_
            refine lv_iload_n hx hb dX4_set_66 rfl (lv_at hl 2 rfl) ?_
            refine lv_iadd hx hb dX4_set_67 ?_
            refine lv_iload_n hx hb dX4_set_68 rfl (lv_at hl 3 rfl) ?_
            obtain ⟨hi, h0⟩ := ax_some h0
            obtain ⟨s10, es10, h0⟩ := nm_some h0
            refine x_iast (ws' := wM cA h ad s10) hC hK hP hD hS 1 0 rfl rfl (by rw [es10]; exact wM_s0 _ _ _ _ _) hi dX4_set_69 (fun H locs hP hD hS => ?_)
            refine lv_iload_n hx hb dX4_set_70 rfl (lv_at hl 0 rfl) ?_
            obtain ⟨e1, e2⟩ := Prod.mk.inj (Option.some.inj h0)
            exact x_retI hC hr hlocks rfl hP hD hS dX4_set_71 ⟨e1, by rw [← e2]⟩
          · have h0 := it_f h0 hc
            refine lv_bipush (v := (-5 : Int32)) hx hb dX4_set_45 (by decide) ?_
            obtain ⟨e1, e2⟩ := Prod.mk.inj (Option.some.inj h0)
            exact x_retI hC hr hlocks rfl hP hD hS dX4_set_47 ⟨e1, by rw [← e2]⟩
      · have h0 := it_t h0 hc
        refine lv_bipush (v := (-2 : Int32)) hx hb dX4_set_29 (by decide) ?_
        obtain ⟨e1, e2⟩ := Prod.mk.inj (Option.some.inj h0)
        exact x_retI hC hr hlocks rfl hP hD hS dX4_set_31 ⟨e1, by rw [← e2]⟩
    · have h0 := it_t h0 hc
      refine lv_sipush (v := (200 : Int32)) hx hb dX4_set_16 (by decide) ?_
      refine lv_goto (tgt := 23) hx hb dX4_set_19 (by decide) ?_
      obtain ⟨r11, hf5, h0⟩ := bnd_some h0
      refine x_SI (As := [.int a2, .int (0 : Int32), .int (200 : Int32)]) (rest := []) hC (kX4_in l dC dI cA a2 (0 : Int32) (200 : Int32) r11 hf5) (cwS 3 hts gX4_set_X4_in rfl rfl rfl (by decide +kernel) ⟨Nat.le_of_ble_eq_true rfl, Nat.le_of_ble_eq_true rfl⟩) hV hN hK hP hD hS hA rfl hl.1 rfl (Nat.le_of_ble_eq_true rfl) ⟨Nat.zero_le _, Nat.zero_le _⟩ dX4_set_23 (fun H locs hP hD hS => ?_)
      refine lv_if_ne (tgt := 32) hx hb dX4_set_26 (by decide) (fun hc => ?_) (fun hc => ?_)
      · have h0 := it_f h0 hc
        refine lv_iload_n hx hb dX4_set_32 rfl (lv_at hl 1 rfl) ?_
        refine lv_if_ne (tgt := 48) hx hb dX4_set_33 (by decide) (fun hc => ?_) (fun hc => ?_)
        · have h0 := it_f h0 hc
          refine lv_aload_n hx hb dX4_set_48 rfl (lv_at hl 0 rfl) ?_
          obtain ⟨s13, hf6, h0⟩ := bnd_some h0
          refine x_VV (As := []) (rest := []) hC (kX4_keep l dC dI cA h ad σ s13 hf6) (cwV 0 hts gX4_set_X4_keep rfl rfl rfl (by decide +kernel) ⟨Nat.le_of_ble_eq_true rfl, Nat.le_of_ble_eq_true rfl⟩) 0 4 hV hN hK hP hD hS hA rfl rfl rfl rfl hl.1 rfl (Nat.le_of_ble_eq_true rfl) ⟨Nat.zero_le _, Nat.zero_le _⟩ dX4_set_49 (fun H locs hP hD hS => ?_)
          refine lv_aload_n hx hb dX4_set_52 rfl (lv_at hl 0 rfl) ?_
          refine va_get (D := (dC, dI)) (ci := 4) (v := .ref (ad 0)) (C := RX4) (T := TX4) (N := 16) hx hb hts hin0 hown hK hP 0 rfl rfl 0 (by decide) (hts (.fieldLink RX4 7 "MeanLocksModel" "at" "[I") (List.mem_of_getElem? (i := 1) rfl)) (fun _ h9 => h9) rfl dX4_set_53 ?_
          refine lv_iconst (v := (2 : Int32)) hx hb dX4_set_56 (by decide) ?_
          refine lv_iload_n hx hb dX4_set_57 rfl (lv_at hl 1 rfl) ?_
          refine lv_iadd hx hb dX4_set_58 ?_
          obtain ⟨hi, h0⟩ := ax_some h0
          refine va_iald hx hb hK hP 1 0 rfl rfl hi dX4_set_59 ?_
          refine lv_topi (fun v14 ev14 => ?_)
          have h0 := nm_at ev14 h0
          refine lv_istore_n (lv' := [(3, .int v14), (0, .ref h), (1, .int a1), (2, .int a2)]) hx hb dX4_set_60 rfl hl (by decide) rfl (fun ls hl => ?_)
          refine lv_aload_n hx hb dX4_set_61 rfl (lv_at hl 1 rfl) ?_
          refine va_get (D := (dC, dI)) (ci := 4) (v := .ref (ad 0)) (C := RX4) (T := TX4) (N := 16) hx hb hts hin0 hown hK hP 0 rfl rfl 0 (by decide) (hts (.fieldLink RX4 7 "MeanLocksModel" "at" "[I") (List.mem_of_getElem? (i := 1) rfl)) (fun _ h9 => h9) rfl dX4_set_62 ?_
          refine lv_iconst (v := (2 : Int32)) hx hb dX4_set_65 (by decide) ?_
          refine lv_iload_n hx hb dX4_set_66 rfl (lv_at hl 2 rfl) ?_
          refine lv_iadd hx hb dX4_set_67 ?_
          refine lv_iload_n hx hb dX4_set_68 rfl (lv_at hl 3 rfl) ?_
          obtain ⟨hi, h0⟩ := ax_some h0
          obtain ⟨s15, es15, h0⟩ := nm_some h0
          refine x_iast (ws' := wM cA h ad s15) hC hK hP hD hS 1 0 rfl rfl (by rw [es15]; exact wM_s0 _ _ _ _ _) hi dX4_set_69 (fun H locs hP hD hS => ?_)
          refine lv_iload_n hx hb dX4_set_70 rfl (lv_at hl 0 rfl) ?_
          obtain ⟨e1, e2⟩ := Prod.mk.inj (Option.some.inj h0)
          exact x_retI hC hr hlocks rfl hP hD hS dX4_set_71 ⟨e1, by rw [← e2]⟩
        · have h0 := it_t h0 hc
          refine lv_aload_n hx hb dX4_set_36 rfl (lv_at hl 0 rfl) ?_
          refine va_get (D := (dC, dI)) (ci := 4) (v := .ref (ad 0)) (C := RX4) (T := TX4) (N := 16) hx hb hts hin0 hown hK hP 0 rfl rfl 0 (by decide) (hts (.fieldLink RX4 7 "MeanLocksModel" "at" "[I") (List.mem_of_getElem? (i := 1) rfl)) (fun _ h9 => h9) rfl dX4_set_37 ?_
          refine lv_iconst (v := (1 : Int32)) hx hb dX4_set_40 (by decide) ?_
          obtain ⟨hi, h0⟩ := ax_some h0
          refine va_iald hx hb hK hP 1 0 rfl rfl hi dX4_set_41 ?_
          refine lv_if_le (tgt := 48) hx hb dX4_set_42 (by decide) (fun hc => ?_) (fun hc => ?_)
          · have h0 := it_t h0 hc
            refine lv_aload_n hx hb dX4_set_48 rfl (lv_at hl 0 rfl) ?_
            obtain ⟨s17, hf7, h0⟩ := bnd_some h0
            refine x_VV (As := []) (rest := []) hC (kX4_keep l dC dI cA h ad σ s17 hf7) (cwV 0 hts gX4_set_X4_keep rfl rfl rfl (by decide +kernel) ⟨Nat.le_of_ble_eq_true rfl, Nat.le_of_ble_eq_true rfl⟩) 0 4 hV hN hK hP hD hS hA rfl rfl rfl rfl hl.1 rfl (Nat.le_of_ble_eq_true rfl) ⟨Nat.zero_le _, Nat.zero_le _⟩ dX4_set_49 (fun H locs hP hD hS => ?_)
            refine lv_aload_n hx hb dX4_set_52 rfl (lv_at hl 0 rfl) ?_
            refine va_get (D := (dC, dI)) (ci := 4) (v := .ref (ad 0)) (C := RX4) (T := TX4) (N := 16) hx hb hts hin0 hown hK hP 0 rfl rfl 0 (by decide) (hts (.fieldLink RX4 7 "MeanLocksModel" "at" "[I") (List.mem_of_getElem? (i := 1) rfl)) (fun _ h9 => h9) rfl dX4_set_53 ?_
            refine lv_iconst (v := (2 : Int32)) hx hb dX4_set_56 (by decide) ?_
            refine lv_iload_n hx hb dX4_set_57 rfl (lv_at hl 1 rfl) ?_
            refine lv_iadd hx hb dX4_set_58 ?_
            obtain ⟨hi, h0⟩ := ax_some h0
            refine va_iald hx hb hK hP 1 0 rfl rfl hi dX4_set_59 ?_
            refine lv_topi (fun v18 ev18 => ?_)
            have h0 := nm_at ev18 h0
            refine lv_istore_n (lv' := [(3, .int v18), (0, .ref h), (1, .int a1), (2, .int a2)]) hx hb dX4_set_60 rfl hl (by decide) rfl (fun ls hl => ?_)
            refine lv_aload_n hx hb dX4_set_61 rfl (lv_at hl 1 rfl) ?_
            refine va_get (D := (dC, dI)) (ci := 4) (v := .ref (ad 0)) (C := RX4) (T := TX4) (N := 16) hx hb hts hin0 hown hK hP 0 rfl rfl 0 (by decide) (hts (.fieldLink RX4 7 "MeanLocksModel" "at" "[I") (List.mem_of_getElem? (i := 1) rfl)) (fun _ h9 => h9) rfl dX4_set_62 ?_
            refine lv_iconst (v := (2 : Int32)) hx hb dX4_set_65 (by decide) ?_
            refine lv_iload_n hx hb dX4_set_66 rfl (lv_at hl 2 rfl) ?_
            refine lv_iadd hx hb dX4_set_67 ?_
            refine lv_iload_n hx hb dX4_set_68 rfl (lv_at hl 3 rfl) ?_
            obtain ⟨hi, h0⟩ := ax_some h0
            obtain ⟨s19, es19, h0⟩ := nm_some h0
            refine x_iast (ws' := wM cA h ad s19) hC hK hP hD hS 1 0 rfl rfl (by rw [es19]; exact wM_s0 _ _ _ _ _) hi dX4_set_69 (fun H locs hP hD hS => ?_)
            refine lv_iload_n hx hb dX4_set_70 rfl (lv_at hl 0 rfl) ?_
            obtain ⟨e1, e2⟩ := Prod.mk.inj (Option.some.inj h0)
            exact x_retI hC hr hlocks rfl hP hD hS dX4_set_71 ⟨e1, by rw [← e2]⟩
          · have h0 := it_f h0 hc
            refine lv_bipush (v := (-5 : Int32)) hx hb dX4_set_45 (by decide) ?_
            obtain ⟨e1, e2⟩ := Prod.mk.inj (Option.some.inj h0)
            exact x_retI hC hr hlocks rfl hP hD hS dX4_set_47 ⟨e1, by rw [← e2]⟩
      · have h0 := it_t h0 hc
        refine lv_bipush (v := (-2 : Int32)) hx hb dX4_set_29 (by decide) ?_
        obtain ⟨e1, e2⟩ := Prod.mk.inj (Option.some.inj h0)
        exact x_retI hC hr hlocks rfl hP hD hS dX4_set_31 ⟨e1, by rw [← e2]⟩
def bX4_stretch_42 (a1 : Int32) (σ : St) (x6 : Int32) (x5 : Int32) : Option ((Int32 × Int32) ⊕ (Int32 × Int32)) := bnd (fX4_begins a1 x5 σ) fun r7 => if (r7 : Int32) = (0 : Int32) then (bnd (fX4_begins a1 x5 σ) fun r8 => if (r8 : Int32) = (0 : Int32) then (nm (x6 - (0 : Int32)) fun v9 => nm (x5 + (1 : Int32)) fun v10 => some (.inl (v9, v10))) else (nm (x6 - (1 : Int32)) fun v11 => nm (x5 + (1 : Int32)) fun v12 => some (.inl (v11, v12)))) else (if (x6 : Int32) ≤ (0 : Int32) then (some (.inr (x6, x5))) else (bnd (fX4_begins a1 x5 σ) fun r13 => if (r13 : Int32) = (0 : Int32) then (nm (x6 - (0 : Int32)) fun v14 => nm (x5 + (1 : Int32)) fun v15 => some (.inl (v14, v15))) else (nm (x6 - (1 : Int32)) fun v16 => nm (x5 + (1 : Int32)) fun v17 => some (.inl (v16, v17)))))
def bX4_stretch_86 (a1 : Int32) (σ : St) (x19 : Int32) (x20 : Int32) : Option (Int32 ⊕ Int32) := if (300 : Int32) ≤ (x19 + x20) then (some (.inr x20)) else (bnd (fX4_lock a1 (x19 + x20) σ) fun r21 => bnd (fX4_lock a1 x19 σ) fun r22 => if (r21 : Int32) = r22 then (nm (x20 + (1 : Int32)) fun v23 => some (.inl v23)) else (some (.inr x20)))
def fX4_stretch (a1 : Int32) (a2 : Int32) (a3 : Int32) (σ : St) : Option Int32 := bnd (fX4_isOwner a1) fun r1 => if (r1 : Int32) = (0 : Int32) then (some (-1 : Int32)) else (bnd (fX4_stretches a1 σ) fun r2 => bnd (fX4_in a2 (0 : Int32) (r2 - (1 : Int32))) fun r3 => if (r3 : Int32) = (0 : Int32) then (some (-1 : Int32)) else (bnd (fX4_in a3 (0 : Int32) (2 : Int32)) fun r4 => if (r4 : Int32) = (0 : Int32) then (some (-2 : Int32)) else (bnd (lp (fun t : (Int32 × Int32) => bX4_stretch_42 a1 σ t.1 t.2) FU (a2, (0 : Int32))) (fun e : (Int32 × Int32) => nm e.1 fun x18 => nm e.2 fun x19 => bnd (lp (fun t : Int32 => bX4_stretch_86 a1 σ x19 t) FU (1 : Int32)) (fun e : Int32 => nm e fun x24 => if (a3 : Int32) = (0 : Int32) then (bnd (fX4_lock a1 x19 σ) fun r25 => some r25) else (if (a3 : Int32) = (1 : Int32) then (some x19) else (some x24)))))))
abbrev rmX4_stretch : Room := { frames := 3, cells := 0, slots := 0, locals := 67 }
set_option maxHeartbeats 4000000 in
set_option maxRecDepth 100000 in
theorem kX4_stretch (l : Launch) (dC : Nat → ClassId) (dI : Nat → Nat → Nat) (cA : Nat → ClassId) (h : Nat) (ad : Nat → Nat) (a1 : Int32) (a2 : Int32) (a3 : Int32) (σ : St) (R0 : Int32) (h0 : fX4_stretch a1 a2 a3 σ = some R0) : CI l yX4_stretch wsX4_stretch rmX4_stretch (dC, dI) vwCl (tysW cA) [.ref h, .int a1, .int a2, .int a3] (wM cA h ad σ) R0 (wM cA h ad σ) := by
  refine CGI_of (cc := cX4_stretch) (nL := 7) (ret := (some .int)) (by decide) rfl (Nat.le_of_ble_eq_true rfl) ?_
  intro p e s m av below meth c A ls H locs hC hl
  obtain ⟨hC, hr, hlocks, hV, hN, hK, hP, hD, hS, hA⟩ := hC
  have hC : CallFix p m c cX4_stretch 7 s _ wsX4_stretch RX4 := hC
  obtain ⟨hx, hb, hml, hown, hts⟩ := id hC
  have hin0 : ∀ w ∈ u_ws RX4 TX4 16, w ∈ wsX4_stretch := fun _ h => (List.mem_cons_of_mem _ (List.mem_append_right _ h))
  have hl : lv_has ls 7 [(0, .ref h), (1, .int a1), (2, .int a2), (3, .int a3)] := hl
  unfold fX4_stretch at h0
  refine lv_iload_n hx hb dX4_stretch_0 rfl (lv_at hl 1 rfl) ?_
  obtain ⟨r1, hf1, h0⟩ := bnd_some h0
  refine x_SI (As := [.int a1]) (rest := []) hC (kX4_isOwner l dC dI cA a1 r1 hf1) (cwS 1 hts gX4_stretch_X4_isOwner rfl rfl rfl (by decide +kernel) ⟨Nat.le_of_ble_eq_true rfl, Nat.le_of_ble_eq_true rfl⟩) hV hN hK hP hD hS hA rfl hl.1 rfl (Nat.le_of_ble_eq_true rfl) ⟨Nat.zero_le _, Nat.zero_le _⟩ dX4_stretch_1 (fun H locs hP hD hS => ?_)
  refine lv_if_eq (tgt := 22) hx hb dX4_stretch_4 (by decide) (fun hc => ?_) (fun hc => ?_)
  · have h0 := it_t h0 hc
    refine lv_iconst (v := (-1 : Int32)) hx hb dX4_stretch_22 (by decide) ?_
    have e1 := Option.some.inj h0
    exact x_retI hC hr hlocks rfl hP hD hS dX4_stretch_23 ⟨e1, rfl⟩
  · have h0 := it_f h0 hc
    refine lv_iload_n hx hb dX4_stretch_7 rfl (lv_at hl 2 rfl) ?_
    refine lv_iconst (v := (0 : Int32)) hx hb dX4_stretch_8 (by decide) ?_
    refine lv_aload_n hx hb dX4_stretch_9 rfl (lv_at hl 0 rfl) ?_
    refine lv_iload_n hx hb dX4_stretch_10 rfl (lv_at hl 1 rfl) ?_
    obtain ⟨r2, hf2, h0⟩ := bnd_some h0
    refine x_VI (As := [.int a1]) (rest := [.int (0 : Int32), .int a2]) hC (kX4_stretches l dC dI cA h ad a1 σ r2  hf2) (cwV 1 hts gX4_stretch_X4_stretches rfl rfl rfl (by decide +kernel) ⟨Nat.le_of_ble_eq_true rfl, Nat.le_of_ble_eq_true rfl⟩) 0 4 hV hN hK hP hD hS hA rfl rfl rfl rfl hl.1 rfl (Nat.le_of_ble_eq_true rfl) ⟨Nat.zero_le _, Nat.zero_le _⟩ dX4_stretch_11 (fun H locs hP hD hS => ?_)
    refine lv_iconst (v := (1 : Int32)) hx hb dX4_stretch_14 (by decide) ?_
    refine lv_isub hx hb dX4_stretch_15 ?_
    obtain ⟨r3, hf3, h0⟩ := bnd_some h0
    refine x_SI (As := [.int a2, .int (0 : Int32), .int (r2 - (1 : Int32))]) (rest := []) hC (kX4_in l dC dI cA a2 (0 : Int32) (r2 - (1 : Int32)) r3 hf3) (cwS 3 hts gX4_stretch_X4_in rfl rfl rfl (by decide +kernel) ⟨Nat.le_of_ble_eq_true rfl, Nat.le_of_ble_eq_true rfl⟩) hV hN hK hP hD hS hA rfl hl.1 rfl (Nat.le_of_ble_eq_true rfl) ⟨Nat.zero_le _, Nat.zero_le _⟩ dX4_stretch_16 (fun H locs hP hD hS => ?_)
    refine lv_if_ne (tgt := 24) hx hb dX4_stretch_19 (by decide) (fun hc => ?_) (fun hc => ?_)
    · have h0 := it_f h0 hc
      refine lv_iload_n hx hb dX4_stretch_24 rfl (lv_at hl 3 rfl) ?_
      refine lv_iconst (v := (0 : Int32)) hx hb dX4_stretch_25 (by decide) ?_
      refine lv_iconst (v := (2 : Int32)) hx hb dX4_stretch_26 (by decide) ?_
      obtain ⟨r4, hf4, h0⟩ := bnd_some h0
      refine x_SI (As := [.int a3, .int (0 : Int32), .int (2 : Int32)]) (rest := []) hC (kX4_in l dC dI cA a3 (0 : Int32) (2 : Int32) r4 hf4) (cwS 3 hts gX4_stretch_X4_in rfl rfl rfl (by decide +kernel) ⟨Nat.le_of_ble_eq_true rfl, Nat.le_of_ble_eq_true rfl⟩) hV hN hK hP hD hS hA rfl hl.1 rfl (Nat.le_of_ble_eq_true rfl) ⟨Nat.zero_le _, Nat.zero_le _⟩ dX4_stretch_27 (fun H locs hP hD hS => ?_)
      refine lv_if_ne (tgt := 36) hx hb dX4_stretch_30 (by decide) (fun hc => ?_) (fun hc => ?_)
      · have h0 := it_f h0 hc
        refine lv_iload_n hx hb dX4_stretch_36 rfl (lv_at hl 2 rfl) ?_
        refine lv_istore (lv' := [(4, .int a2), (0, .ref h), (1, .int a1), (2, .int a2), (3, .int a3)]) hx hb dX4_stretch_37 hl (by decide) rfl (fun ls hl => ?_)
        refine lv_iconst (v := (0 : Int32)) hx hb dX4_stretch_39 (by decide) ?_
        refine lv_istore (lv' := [(5, .int (0 : Int32)), (4, .int a2), (0, .ref h), (1, .int a1), (2, .int a2), (3, .int a3)]) hx hb dX4_stretch_40 hl (by decide) rfl (fun ls hl => ?_)
        obtain ⟨ε5, hl5, h0⟩ := bnd_some h0
        have KN5 : ∀ (x18 : Int32) (x19 : Int32), ε5 = (x18, x19) → ∀ (H : Heap) (locs : List Loc), va_P (dC, dI) vwCl (wM cA h ad σ) H → va_D A (wM cA h ad σ) → va_S A s.heap H locs → ∀ (ls : Array Slot), lv_has ls 7 [(5, .int x19), (4, .int x18), (0, .ref h), (1, .int a1), (2, .int a2), (3, .int a3)] → W p l e (headSpec wsX4_stretch rmX4_stretch).room s m av below meth c H locs 0 0 (MQ below (qI (dC, dI) A R0 (wM cA h ad σ)) av s 0 0 A) (F0 m 83 ls []) := by
          intro x18 x19 hε H locs hP hD hS ls hl
          rw [hε] at h0
          have h0 := nm_at (z := x18) rfl h0
          have h0 := nm_at (z := x19) rfl h0
          refine lv_iconst (v := (1 : Int32)) hx hb dX4_stretch_83 (by decide) ?_
          refine lv_istore (lv' := [(6, .int (1 : Int32)), (5, .int x19), (4, .int x18), (0, .ref h), (1, .int a1), (2, .int a2), (3, .int a3)]) hx hb dX4_stretch_84 hl (by decide) rfl (fun ls hl => ?_)
          obtain ⟨ε9, hl9, h0⟩ := bnd_some h0
          have KN9 : ∀ (x24 : Int32), ε9 = x24 → ∀ (H : Heap) (locs : List Loc), va_P (dC, dI) vwCl (wM cA h ad σ) H → va_D A (wM cA h ad σ) → va_S A s.heap H locs → ∀ (ls : Array Slot), lv_has ls 7 [(6, .int x24), (5, .int x19), (4, .int x18), (0, .ref h), (1, .int a1), (2, .int a2), (3, .int a3)] → W p l e (headSpec wsX4_stretch rmX4_stretch).room s m av below meth c H locs 0 0 (MQ below (qI (dC, dI) A R0 (wM cA h ad σ)) av s 0 0 A) (F0 m 123 ls []) := by
            intro x24 hε H locs hP hD hS ls hl
            rw [hε] at h0
            have h0 := nm_at (z := x24) rfl h0
            refine lv_iload_n hx hb dX4_stretch_123 rfl (lv_at hl 6 rfl) ?_
            refine lv_if_ne (tgt := 137) hx hb dX4_stretch_124 (by decide) (fun hc => ?_) (fun hc => ?_)
            · have h0 := it_f h0 hc
              refine lv_iload_n hx hb dX4_stretch_137 rfl (lv_at hl 6 rfl) ?_
              refine lv_iconst (v := (1 : Int32)) hx hb dX4_stretch_138 (by decide) ?_
              refine lv_icmp_ne (tgt := 147) hx hb dX4_stretch_139 (by decide) (fun hc => ?_) (fun hc => ?_)
              · have h0 := it_f h0 hc
                refine lv_iload hx hb dX4_stretch_147 (lv_at hl 0 rfl) ?_
                have e1 := Option.some.inj h0
                exact x_retI hC hr hlocks rfl hP hD hS dX4_stretch_149 ⟨e1, rfl⟩
              · have h0 := it_t h0 hc
                refine lv_iload hx hb dX4_stretch_142 (lv_at hl 1 rfl) ?_
                refine lv_goto (tgt := 149) hx hb dX4_stretch_144 (by decide) ?_
                have e1 := Option.some.inj h0
                exact x_retI hC hr hlocks rfl hP hD hS dX4_stretch_149 ⟨e1, rfl⟩
            · have h0 := it_t h0 hc
              refine lv_aload_n hx hb dX4_stretch_127 rfl (lv_at hl 3 rfl) ?_
              refine lv_iload_n hx hb dX4_stretch_128 rfl (lv_at hl 4 rfl) ?_
              refine lv_iload hx hb dX4_stretch_129 (lv_at hl 1 rfl) ?_
              obtain ⟨r25, hf12, h0⟩ := bnd_some h0
              refine x_VI (As := [.int a1, .int x19]) (rest := []) hC (kX4_lock l dC dI cA h ad a1 x19 σ r25  hf12) (cwV 2 hts gX4_stretch_X4_lock rfl rfl rfl (by decide +kernel) ⟨Nat.le_of_ble_eq_true rfl, Nat.le_of_ble_eq_true rfl⟩) 0 4 hV hN hK hP hD hS hA rfl rfl rfl rfl hl.1 rfl (Nat.le_of_ble_eq_true rfl) ⟨Nat.zero_le _, Nat.zero_le _⟩ dX4_stretch_131 (fun H locs hP hD hS => ?_)
              refine lv_goto (tgt := 149) hx hb dX4_stretch_134 (by decide) ?_
              have e1 := Option.some.inj h0
              exact x_retI hC hr hlocks rfl hP hD hS dX4_stretch_149 ⟨e1, rfl⟩
          have LP9 : ∀ (n : Nat) (x20 : Int32), lp (fun t : Int32 => bX4_stretch_86 a1 σ x19 t) n x20 = some ε9 → ∀ (H : Heap) (locs : List Loc), va_P (dC, dI) vwCl (wM cA h ad σ) H → va_D A (wM cA h ad σ) → va_S A s.heap H locs → ∀ (ls : Array Slot), lv_has ls 7 [(6, .int x20), (5, .int x19), (4, .int x18), (0, .ref h), (1, .int a1), (2, .int a2), (3, .int a3)] → W p l e (headSpec wsX4_stretch rmX4_stretch).room s m av below meth c H locs 0 0 (MQ below (qI (dC, dI) A R0 (wM cA h ad σ)) av s 0 0 A) (F0 m 86 ls []) := by
            intro n
            induction n with
            | zero => intro x20 hl0; exact (lp_0 hl0).elim
            | succ n ih9 =>
              intro x20 hl0 H locs hP hD hS ls hl
              obtain ⟨z9, h1, hz9⟩ := lp_s hl0
              have h1 : bX4_stretch_86 a1 σ x19 x20 = some z9 := h1
              unfold bX4_stretch_86 at h1
              refine lv_iload hx hb dX4_stretch_86 (lv_at hl 1 rfl) ?_
              refine lv_iload hx hb dX4_stretch_88 (lv_at hl 0 rfl) ?_
              refine lv_iadd hx hb dX4_stretch_90 ?_
              refine lv_sipush (v := (300 : Int32)) hx hb dX4_stretch_91 (by decide) ?_
              refine lv_icmp_ge (tgt := 123) hx hb dX4_stretch_94 (by decide) (fun hc => ?_) (fun hc => ?_)
              · have h1 := it_t h1 hc
                have he := lp_r h1 hz9
                exact KN9 x20 he _ _ hP hD hS ls (lv_sub hl [0, 1, 2, 3, 4, 5, 6] rfl)
              · have h1 := it_f h1 hc
                refine lv_aload_n hx hb dX4_stretch_97 rfl (lv_at hl 3 rfl) ?_
                refine lv_iload_n hx hb dX4_stretch_98 rfl (lv_at hl 4 rfl) ?_
                refine lv_iload hx hb dX4_stretch_99 (lv_at hl 1 rfl) ?_
                refine lv_iload hx hb dX4_stretch_101 (lv_at hl 0 rfl) ?_
                refine lv_iadd hx hb dX4_stretch_103 ?_
                obtain ⟨r21, hf10, h1⟩ := bnd_some h1
                refine x_VI (As := [.int a1, .int (x19 + x20)]) (rest := []) hC (kX4_lock l dC dI cA h ad a1 (x19 + x20) σ r21  hf10) (cwV 2 hts gX4_stretch_X4_lock rfl rfl rfl (by decide +kernel) ⟨Nat.le_of_ble_eq_true rfl, Nat.le_of_ble_eq_true rfl⟩) 0 4 hV hN hK hP hD hS hA rfl rfl rfl rfl hl.1 rfl (Nat.le_of_ble_eq_true rfl) ⟨Nat.zero_le _, Nat.zero_le _⟩ dX4_stretch_104 (fun H locs hP hD hS => ?_)
                refine lv_aload_n hx hb dX4_stretch_107 rfl (lv_at hl 3 rfl) ?_
                refine lv_iload_n hx hb dX4_stretch_108 rfl (lv_at hl 4 rfl) ?_
                refine lv_iload hx hb dX4_stretch_109 (lv_at hl 1 rfl) ?_
                obtain ⟨r22, hf11, h1⟩ := bnd_some h1
                refine x_VI (As := [.int a1, .int x19]) (rest := [.int r21]) hC (kX4_lock l dC dI cA h ad a1 x19 σ r22  hf11) (cwV 2 hts gX4_stretch_X4_lock rfl rfl rfl (by decide +kernel) ⟨Nat.le_of_ble_eq_true rfl, Nat.le_of_ble_eq_true rfl⟩) 0 4 hV hN hK hP hD hS hA rfl rfl rfl rfl hl.1 rfl (Nat.le_of_ble_eq_true rfl) ⟨Nat.zero_le _, Nat.zero_le _⟩ dX4_stretch_111 (fun H locs hP hD hS => ?_)
                refine lv_icmp_ne (tgt := 123) hx hb dX4_stretch_114 (by decide) (fun hc => ?_) (fun hc => ?_)
                · have h1 := it_f h1 hc
                  have he := lp_r h1 hz9
                  exact KN9 x20 he _ _ hP hD hS ls (lv_sub hl [0, 1, 2, 3, 4, 5, 6] rfl)
                · have h1 := it_t h1 hc
                  obtain ⟨v23, ev23, h1⟩ := nm_some h1
                  refine lv_iinc (v := v23) (lv' := [(6, .int v23), (5, .int x19), (4, .int x18), (0, .ref h), (1, .int a1), (2, .int a2), (3, .int a3)]) hx hb dX4_stretch_117 hl (k := 0) rfl (by rw [ev23]; rfl) (by decide) rfl (fun ls hl => ?_)
                  refine lv_goto (tgt := 86) hx hb dX4_stretch_120 (by decide) ?_
                  have hc := lp_l h1 hz9
                  exact ih9 v23 hc _ _ hP hD hS ls (lv_sub hl [0, 1, 2, 3, 4, 5, 6] rfl)
          exact LP9 FU (1 : Int32) hl9 _ _ hP hD hS ls hl
        have LP5 : ∀ (n : Nat) (x6 : Int32) (x5 : Int32), lp (fun t : (Int32 × Int32) => bX4_stretch_42 a1 σ t.1 t.2) n (x6, x5) = some ε5 → ∀ (H : Heap) (locs : List Loc), va_P (dC, dI) vwCl (wM cA h ad σ) H → va_D A (wM cA h ad σ) → va_S A s.heap H locs → ∀ (ls : Array Slot), lv_has ls 7 [(5, .int x5), (4, .int x6), (0, .ref h), (1, .int a1), (2, .int a2), (3, .int a3)] → W p l e (headSpec wsX4_stretch rmX4_stretch).room s m av below meth c H locs 0 0 (MQ below (qI (dC, dI) A R0 (wM cA h ad σ)) av s 0 0 A) (F0 m 42 ls []) := by
          intro n
          induction n with
          | zero => intro x6 x5 hl0; exact (lp_0 hl0).elim
          | succ n ih5 =>
            intro x6 x5 hl0 H locs hP hD hS ls hl
            obtain ⟨z5, h1, hz5⟩ := lp_s hl0
            have h1 : bX4_stretch_42 a1 σ x6 x5 = some z5 := h1
            unfold bX4_stretch_42 at h1
            refine lv_aload_n hx hb dX4_stretch_42 rfl (lv_at hl 2 rfl) ?_
            refine lv_iload_n hx hb dX4_stretch_43 rfl (lv_at hl 3 rfl) ?_
            refine lv_iload hx hb dX4_stretch_44 (lv_at hl 0 rfl) ?_
            obtain ⟨r7, hf6, h1⟩ := bnd_some h1
            refine x_VI (As := [.int a1, .int x5]) (rest := []) hC (kX4_begins l dC dI cA h ad a1 x5 σ r7  hf6) (cwV 2 hts gX4_stretch_X4_begins rfl rfl rfl (by decide +kernel) ⟨Nat.le_of_ble_eq_true rfl, Nat.le_of_ble_eq_true rfl⟩) 0 4 hV hN hK hP hD hS hA rfl rfl rfl rfl hl.1 rfl (Nat.le_of_ble_eq_true rfl) ⟨Nat.zero_le _, Nat.zero_le _⟩ dX4_stretch_46 (fun H locs hP hD hS => ?_)
            refine lv_if_eq (tgt := 57) hx hb dX4_stretch_49 (by decide) (fun hc => ?_) (fun hc => ?_)
            · have h1 := it_t h1 hc
              refine lv_iload hx hb dX4_stretch_57 (lv_at hl 1 rfl) ?_
              refine lv_aload_n hx hb dX4_stretch_59 rfl (lv_at hl 2 rfl) ?_
              refine lv_iload_n hx hb dX4_stretch_60 rfl (lv_at hl 3 rfl) ?_
              refine lv_iload hx hb dX4_stretch_61 (lv_at hl 0 rfl) ?_
              obtain ⟨r8, hf7, h1⟩ := bnd_some h1
              refine x_VI (As := [.int a1, .int x5]) (rest := [.int x6]) hC (kX4_begins l dC dI cA h ad a1 x5 σ r8  hf7) (cwV 2 hts gX4_stretch_X4_begins rfl rfl rfl (by decide +kernel) ⟨Nat.le_of_ble_eq_true rfl, Nat.le_of_ble_eq_true rfl⟩) 0 4 hV hN hK hP hD hS hA rfl rfl rfl rfl hl.1 rfl (Nat.le_of_ble_eq_true rfl) ⟨Nat.zero_le _, Nat.zero_le _⟩ dX4_stretch_63 (fun H locs hP hD hS => ?_)
              refine lv_if_eq (tgt := 73) hx hb dX4_stretch_66 (by decide) (fun hc => ?_) (fun hc => ?_)
              · have h1 := it_t h1 hc
                refine lv_iconst (v := (0 : Int32)) hx hb dX4_stretch_73 (by decide) ?_
                refine lv_isub hx hb dX4_stretch_74 ?_
                refine lv_topi (fun v9 ev9 => ?_)
                have h1 := nm_at ev9 h1
                refine lv_istore (lv' := [(4, .int v9), (5, .int x5), (0, .ref h), (1, .int a1), (2, .int a2), (3, .int a3)]) hx hb dX4_stretch_75 hl (by decide) rfl (fun ls hl => ?_)
                obtain ⟨v10, ev10, h1⟩ := nm_some h1
                refine lv_iinc (v := v10) (lv' := [(5, .int v10), (4, .int v9), (0, .ref h), (1, .int a1), (2, .int a2), (3, .int a3)]) hx hb dX4_stretch_77 hl (k := 1) rfl (by rw [ev10]; rfl) (by decide) rfl (fun ls hl => ?_)
                refine lv_goto (tgt := 42) hx hb dX4_stretch_80 (by decide) ?_
                have hc := lp_l h1 hz5
                exact ih5 v9 v10 hc _ _ hP hD hS ls (lv_sub hl [0, 1, 2, 3, 4, 5] rfl)
              · have h1 := it_f h1 hc
                refine lv_iconst (v := (1 : Int32)) hx hb dX4_stretch_69 (by decide) ?_
                refine lv_goto (tgt := 74) hx hb dX4_stretch_70 (by decide) ?_
                refine lv_isub hx hb dX4_stretch_74 ?_
                refine lv_topi (fun v11 ev11 => ?_)
                have h1 := nm_at ev11 h1
                refine lv_istore (lv' := [(4, .int v11), (5, .int x5), (0, .ref h), (1, .int a1), (2, .int a2), (3, .int a3)]) hx hb dX4_stretch_75 hl (by decide) rfl (fun ls hl => ?_)
                obtain ⟨v12, ev12, h1⟩ := nm_some h1
                refine lv_iinc (v := v12) (lv' := [(5, .int v12), (4, .int v11), (0, .ref h), (1, .int a1), (2, .int a2), (3, .int a3)]) hx hb dX4_stretch_77 hl (k := 1) rfl (by rw [ev12]; rfl) (by decide) rfl (fun ls hl => ?_)
                refine lv_goto (tgt := 42) hx hb dX4_stretch_80 (by decide) ?_
                have hc := lp_l h1 hz5
                exact ih5 v11 v12 hc _ _ hP hD hS ls (lv_sub hl [0, 1, 2, 3, 4, 5] rfl)
            · have h1 := it_f h1 hc
              refine lv_iload hx hb dX4_stretch_52 (lv_at hl 1 rfl) ?_
              refine lv_if_le (tgt := 83) hx hb dX4_stretch_54 (by decide) (fun hc => ?_) (fun hc => ?_)
              · have h1 := it_t h1 hc
                have he := lp_r h1 hz5
                exact KN5 x6 x5 he _ _ hP hD hS ls (lv_sub hl [0, 1, 2, 3, 4, 5] rfl)
              · have h1 := it_f h1 hc
                refine lv_iload hx hb dX4_stretch_57 (lv_at hl 1 rfl) ?_
                refine lv_aload_n hx hb dX4_stretch_59 rfl (lv_at hl 2 rfl) ?_
                refine lv_iload_n hx hb dX4_stretch_60 rfl (lv_at hl 3 rfl) ?_
                refine lv_iload hx hb dX4_stretch_61 (lv_at hl 0 rfl) ?_
                obtain ⟨r13, hf8, h1⟩ := bnd_some h1
                refine x_VI (As := [.int a1, .int x5]) (rest := [.int x6]) hC (kX4_begins l dC dI cA h ad a1 x5 σ r13  hf8) (cwV 2 hts gX4_stretch_X4_begins rfl rfl rfl (by decide +kernel) ⟨Nat.le_of_ble_eq_true rfl, Nat.le_of_ble_eq_true rfl⟩) 0 4 hV hN hK hP hD hS hA rfl rfl rfl rfl hl.1 rfl (Nat.le_of_ble_eq_true rfl) ⟨Nat.zero_le _, Nat.zero_le _⟩ dX4_stretch_63 (fun H locs hP hD hS => ?_)
                refine lv_if_eq (tgt := 73) hx hb dX4_stretch_66 (by decide) (fun hc => ?_) (fun hc => ?_)
                · have h1 := it_t h1 hc
                  refine lv_iconst (v := (0 : Int32)) hx hb dX4_stretch_73 (by decide) ?_
                  refine lv_isub hx hb dX4_stretch_74 ?_
                  refine lv_topi (fun v14 ev14 => ?_)
                  have h1 := nm_at ev14 h1
                  refine lv_istore (lv' := [(4, .int v14), (5, .int x5), (0, .ref h), (1, .int a1), (2, .int a2), (3, .int a3)]) hx hb dX4_stretch_75 hl (by decide) rfl (fun ls hl => ?_)
                  obtain ⟨v15, ev15, h1⟩ := nm_some h1
                  refine lv_iinc (v := v15) (lv' := [(5, .int v15), (4, .int v14), (0, .ref h), (1, .int a1), (2, .int a2), (3, .int a3)]) hx hb dX4_stretch_77 hl (k := 1) rfl (by rw [ev15]; rfl) (by decide) rfl (fun ls hl => ?_)
                  refine lv_goto (tgt := 42) hx hb dX4_stretch_80 (by decide) ?_
                  have hc := lp_l h1 hz5
                  exact ih5 v14 v15 hc _ _ hP hD hS ls (lv_sub hl [0, 1, 2, 3, 4, 5] rfl)
                · have h1 := it_f h1 hc
                  refine lv_iconst (v := (1 : Int32)) hx hb dX4_stretch_69 (by decide) ?_
                  refine lv_goto (tgt := 74) hx hb dX4_stretch_70 (by decide) ?_
                  refine lv_isub hx hb dX4_stretch_74 ?_
                  refine lv_topi (fun v16 ev16 => ?_)
                  have h1 := nm_at ev16 h1
                  refine lv_istore (lv' := [(4, .int v16), (5, .int x5), (0, .ref h), (1, .int a1), (2, .int a2), (3, .int a3)]) hx hb dX4_stretch_75 hl (by decide) rfl (fun ls hl => ?_)
                  obtain ⟨v17, ev17, h1⟩ := nm_some h1
                  refine lv_iinc (v := v17) (lv' := [(5, .int v17), (4, .int v16), (0, .ref h), (1, .int a1), (2, .int a2), (3, .int a3)]) hx hb dX4_stretch_77 hl (k := 1) rfl (by rw [ev17]; rfl) (by decide) rfl (fun ls hl => ?_)
                  refine lv_goto (tgt := 42) hx hb dX4_stretch_80 (by decide) ?_
                  have hc := lp_l h1 hz5
                  exact ih5 v16 v17 hc _ _ hP hD hS ls (lv_sub hl [0, 1, 2, 3, 4, 5] rfl)
        exact LP5 FU a2 (0 : Int32) hl5 _ _ hP hD hS ls hl
      · have h0 := it_t h0 hc
        refine lv_bipush (v := (-2 : Int32)) hx hb dX4_stretch_33 (by decide) ?_
        have e1 := Option.some.inj h0
        exact x_retI hC hr hlocks rfl hP hD hS dX4_stretch_35 ⟨e1, rfl⟩
    · have h0 := it_t h0 hc
      refine lv_iconst (v := (-1 : Int32)) hx hb dX4_stretch_22 (by decide) ?_
      have e1 := Option.some.inj h0
      exact x_retI hC hr hlocks rfl hP hD hS dX4_stretch_23 ⟨e1, rfl⟩
def fX4_ticks (a1 : Int32) (σ : St) : Option (Int32 × St) := bn2 (fX4_tryTicks a1 (1 : Int32) σ) fun r1 s2 => some (r1, s2)
abbrev rmX4_ticks : Room := { frames := 8, cells := 0, slots := 0, locals := 192 }
set_option maxHeartbeats 4000000 in
set_option maxRecDepth 100000 in
theorem kX4_ticks (l : Launch) (dC : Nat → ClassId) (dI : Nat → Nat → Nat) (cA : Nat → ClassId) (h : Nat) (ad : Nat → Nat) (a1 : Int32) (σ : St) (R0 : Int32) (σ' : St) (h0 : fX4_ticks a1 σ = some (R0, σ')) : CI l yX4_ticks wsX4_ticks rmX4_ticks (dC, dI) vwCl (tysW cA) [.ref h, .int a1] (wM cA h ad σ) R0 (wM cA h ad σ') := by
  refine CGI_of (cc := cX4_ticks) (nL := 2) (ret := (some .int)) (by decide) rfl (Nat.le_of_ble_eq_true rfl) ?_
  intro p e s m av below meth c A ls H locs hC hl
  obtain ⟨hC, hr, hlocks, hV, hN, hK, hP, hD, hS, hA⟩ := hC
  have hC : CallFix p m c cX4_ticks 2 s _ wsX4_ticks RX4 := hC
  obtain ⟨hx, hb, hml, hown, hts⟩ := id hC
  have hin0 : ∀ w ∈ u_ws RX4 TX4 16, w ∈ wsX4_ticks := fun _ h => (List.mem_cons_of_mem _ (List.mem_append_right _ h))
  have hl : lv_has ls 2 [(0, .ref h), (1, .int a1)] := hl
  unfold fX4_ticks at h0
  refine lv_aload_n hx hb dX4_ticks_0 rfl (lv_at hl 0 rfl) ?_
  refine lv_iload_n hx hb dX4_ticks_1 rfl (lv_at hl 1 rfl) ?_
  refine lv_iconst (v := (1 : Int32)) hx hb dX4_ticks_2 (by decide) ?_
  obtain ⟨r1, s2, hf1, h0⟩ := bn2_some h0
  refine x_VI (As := [.int a1, .int (1 : Int32)]) (rest := []) hC (kX4_tryTicks l dC dI cA h ad a1 (1 : Int32) σ r1 s2 hf1) (cwV 2 hts gX4_ticks_X4_tryTicks rfl rfl rfl (by decide +kernel) ⟨Nat.le_of_ble_eq_true rfl, Nat.le_of_ble_eq_true rfl⟩) 0 4 hV hN hK hP hD hS hA rfl rfl rfl rfl hl.1 rfl (Nat.le_of_ble_eq_true rfl) ⟨Nat.zero_le _, Nat.zero_le _⟩ dX4_ticks_3 (fun H locs hP hD hS => ?_)
  obtain ⟨e1, e2⟩ := Prod.mk.inj (Option.some.inj h0)
  exact x_retI hC hr hlocks rfl hP hD hS dX4_ticks_6 ⟨e1, by rw [← e2]⟩
def bX4_undo_35 (v2 : Int32) (x3 : Int32) (s4 : St) : Option ((Int32 × St) ⊕ (Int32 × St)) := if (2488 : Int32) ≤ x3 then (some (.inr (x3, s4))) else (ax (((2488 : Int32) * v2) + x3) 14928 (ax x3 2488 (nm (put s4 0 (upd (s4 0) (x3 : Int32).toNatClampNeg (s4 1 (((2488 : Int32) * v2) + x3 : Int32).toNatClampNeg))) fun s5 => nm (x3 + (1 : Int32)) fun v6 => some (.inl (v6, s5)))))
def fX4_undo (σ : St) : Option (Int32 × St) := if ((σ 3 0) : Int32) = (0 : Int32) then (some ((-5 : Int32), σ)) else (nm (put σ 3 (fun _ => (σ 3 0) - (1 : Int32))) fun s1 => nm (((s1 2 0) + (s1 3 0)) - ((s1 2 0) + (s1 3 0)) / (6 : Int32) * (6 : Int32)) fun v2 => bnd (lp (fun t : (Int32 × St) => bX4_undo_35 v2 t.1 t.2) FU ((0 : Int32), s1)) (fun e : (Int32 × St) => nm e.1 fun x7 => nm e.2 fun s8 => some (s8 3 0, s8)))
abbrev rmX4_undo : Room := { frames := 0, cells := 0, slots := 0, locals := 0 }
set_option maxHeartbeats 4000000 in
set_option maxRecDepth 100000 in
theorem kX4_undo (l : Launch) (dC : Nat → ClassId) (dI : Nat → Nat → Nat) (cA : Nat → ClassId) (h : Nat) (ad : Nat → Nat) (σ : St) (R0 : Int32) (σ' : St) (h0 : fX4_undo σ = some (R0, σ')) : CI l yX4_undo wsX4_undo rmX4_undo (dC, dI) vwCl (tysW cA) [.ref h] (wM cA h ad σ) R0 (wM cA h ad σ') := by
  refine CGI_of (cc := cX4_undo) (nL := 3) (ret := (some .int)) (by decide) rfl (Nat.le_of_ble_eq_true rfl) ?_
  intro p e s m av below meth c A ls H locs hC hl
  obtain ⟨hC, hr, hlocks, hV, hN, hK, hP, hD, hS, hA⟩ := hC
  have hC : CallFix p m c cX4_undo 3 s _ wsX4_undo RX4 := hC
  obtain ⟨hx, hb, hml, hown, hts⟩ := id hC
  have hin0 : ∀ w ∈ u_ws RX4 TX4 16, w ∈ wsX4_undo := fun _ h => (List.mem_cons_of_mem _ (List.mem_append_right _ h))
  have hl : lv_has ls 3 [(0, .ref h)] := hl
  unfold fX4_undo at h0
  refine lv_aload_n hx hb dX4_undo_0 rfl (lv_at hl 0 rfl) ?_
  refine va_get (D := (dC, dI)) (ci := 4) (v := .int (σ 3 0)) (C := RX4) (T := TX4) (N := 16) hx hb hts hin0 hown hK hP 0 rfl rfl 3 (by decide) (hts (.fieldLink RX4 45 "MeanLocksModel" "pastMany" "I") (List.mem_of_getElem? (i := 1) rfl)) (fun _ h9 => h9) rfl dX4_undo_1 ?_
  refine lv_if_ne (tgt := 10) hx hb dX4_undo_4 (by decide) (fun hc => ?_) (fun hc => ?_)
  · have h0 := it_f h0 hc
    refine lv_aload_n hx hb dX4_undo_10 rfl (lv_at hl 0 rfl) ?_
    refine lv_dup hx hb dX4_undo_11 rfl ?_
    refine va_get (D := (dC, dI)) (ci := 4) (v := .int (σ 3 0)) (C := RX4) (T := TX4) (N := 16) hx hb hts hin0 hown hK hP 0 rfl rfl 3 (by decide) (hts (.fieldLink RX4 45 "MeanLocksModel" "pastMany" "I") (List.mem_of_getElem? (i := 1) rfl)) (fun _ h9 => h9) rfl dX4_undo_12 ?_
    refine lv_iconst (v := (1 : Int32)) hx hb dX4_undo_15 (by decide) ?_
    refine lv_isub hx hb dX4_undo_16 ?_
    obtain ⟨s1, es1, h0⟩ := nm_some h0
    refine x_put (D := (dC, dI)) (ws' := wM cA h ad s1) (ci := 4) (fs := [.ref (ad 0), .ref (ad 1), .int (σ 2 0), .int (σ 3 0), .ref (ad 4), .ref (ad 5), .ref (ad 6), .ref (ad 7), .int (σ 8 0), .ref (ad 9), .ref (ad 10), .int (σ 11 0), .int (σ 12 0), .int (σ 13 0), .ref (ad 14), .ref (ad 15)]) (v := .int ((σ 3 0) - (1 : Int32))) (ty := .int) (C := RX4) (T := TX4) (N := 16) hC hin0 tyX4 tyX4_ok nmX4 hK hP hD hS 0 rfl rfl 3 (by decide) (hts (.fieldLink RX4 45 "MeanLocksModel" "pastMany" "I") (List.mem_of_getElem? (i := 1) rfl)) rfl rfl rfl rfl (by decide +kernel) (Nat.le_of_ble_eq_true rfl) (by rw [es1]; exact wM_s3 _ _ _ _ _) dX4_undo_17 (fun H locs hP hD hS => ?_)
    refine lv_aload_n hx hb dX4_undo_20 rfl (lv_at hl 0 rfl) ?_
    refine va_get (D := (dC, dI)) (ci := 4) (v := .int (s1 2 0)) (C := RX4) (T := TX4) (N := 16) hx hb hts hin0 hown hK hP 0 rfl rfl 2 (by decide) (hts (.fieldLink RX4 49 "MeanLocksModel" "pastFirst" "I") (List.mem_of_getElem? (i := 2) rfl)) (fun _ h9 => h9) rfl dX4_undo_21 ?_
    refine lv_aload_n hx hb dX4_undo_24 rfl (lv_at hl 0 rfl) ?_
    refine va_get (D := (dC, dI)) (ci := 4) (v := .int (s1 3 0)) (C := RX4) (T := TX4) (N := 16) hx hb hts hin0 hown hK hP 0 rfl rfl 3 (by decide) (hts (.fieldLink RX4 45 "MeanLocksModel" "pastMany" "I") (List.mem_of_getElem? (i := 1) rfl)) (fun _ h9 => h9) rfl dX4_undo_25 ?_
    refine lv_iadd hx hb dX4_undo_28 ?_
    refine lv_bipush (v := (6 : Int32)) hx hb dX4_undo_29 (by decide) ?_
    refine lv_irem hx hb dX4_undo_31 (by decide) ?_
    refine lv_topi (fun v2 ev2 => ?_)
    have h0 := nm_at ev2 h0
    refine lv_istore_n (lv' := [(1, .int v2), (0, .ref h)]) hx hb dX4_undo_32 rfl hl (by decide) rfl (fun ls hl => ?_)
    refine lv_iconst (v := (0 : Int32)) hx hb dX4_undo_33 (by decide) ?_
    refine lv_istore_n (lv' := [(2, .int (0 : Int32)), (1, .int v2), (0, .ref h)]) hx hb dX4_undo_34 rfl hl (by decide) rfl (fun ls hl => ?_)
    obtain ⟨ε1, hl1, h0⟩ := bnd_some h0
    have KN1 : ∀ (x7 : Int32) (s8 : St), ε1 = (x7, s8) → ∀ (H : Heap) (locs : List Loc), va_P (dC, dI) vwCl (wM cA h ad s8) H → va_D A (wM cA h ad s8) → va_S A s.heap H locs → ∀ (ls : Array Slot), lv_has ls 3 [(2, .int x7), (1, .int v2), (0, .ref h)] → W p l e (headSpec wsX4_undo rmX4_undo).room s m av below meth c H locs 0 0 (MQ below (qI (dC, dI) A R0 (wM cA h ad σ')) av s 0 0 A) (F0 m 66 ls []) := by
      intro x7 s8 hε H locs hP hD hS ls hl
      rw [hε] at h0
      have h0 := nm_at (z := x7) rfl h0
      have h0 := nm_at (z := s8) rfl h0
      refine lv_aload_n hx hb dX4_undo_66 rfl (lv_at hl 2 rfl) ?_
      refine va_get (D := (dC, dI)) (ci := 4) (v := .int (s8 3 0)) (C := RX4) (T := TX4) (N := 16) hx hb hts hin0 hown hK hP 0 rfl rfl 3 (by decide) (hts (.fieldLink RX4 45 "MeanLocksModel" "pastMany" "I") (List.mem_of_getElem? (i := 1) rfl)) (fun _ h9 => h9) rfl dX4_undo_67 ?_
      obtain ⟨e1, e2⟩ := Prod.mk.inj (Option.some.inj h0)
      exact x_retI hC hr hlocks rfl hP hD hS dX4_undo_70 ⟨e1, by rw [← e2]⟩
    have LP1 : ∀ (n : Nat) (x3 : Int32) (s4 : St), lp (fun t : (Int32 × St) => bX4_undo_35 v2 t.1 t.2) n (x3, s4) = some ε1 → ∀ (H : Heap) (locs : List Loc), va_P (dC, dI) vwCl (wM cA h ad s4) H → va_D A (wM cA h ad s4) → va_S A s.heap H locs → ∀ (ls : Array Slot), lv_has ls 3 [(2, .int x3), (1, .int v2), (0, .ref h)] → W p l e (headSpec wsX4_undo rmX4_undo).room s m av below meth c H locs 0 0 (MQ below (qI (dC, dI) A R0 (wM cA h ad σ')) av s 0 0 A) (F0 m 35 ls []) := by
      intro n
      induction n with
      | zero => intro x3 s4 hl0; exact (lp_0 hl0).elim
      | succ n ih1 =>
        intro x3 s4 hl0 H locs hP hD hS ls hl
        obtain ⟨z1, h1, hz1⟩ := lp_s hl0
        have h1 : bX4_undo_35 v2 x3 s4 = some z1 := h1
        unfold bX4_undo_35 at h1
        refine lv_iload_n hx hb dX4_undo_35 rfl (lv_at hl 0 rfl) ?_
        refine lv_sipush (v := (2488 : Int32)) hx hb dX4_undo_36 (by decide) ?_
        refine lv_icmp_ge (tgt := 66) hx hb dX4_undo_39 (by decide) (fun hc => ?_) (fun hc => ?_)
        · have h1 := it_t h1 hc
          have he := lp_r h1 hz1
          exact KN1 x3 s4 he _ _ hP hD hS ls (lv_sub hl [0, 1, 2] rfl)
        · have h1 := it_f h1 hc
          refine lv_aload_n hx hb dX4_undo_42 rfl (lv_at hl 2 rfl) ?_
          refine va_get (D := (dC, dI)) (ci := 4) (v := .ref (ad 0)) (C := RX4) (T := TX4) (N := 16) hx hb hts hin0 hown hK hP 0 rfl rfl 0 (by decide) (hts (.fieldLink RX4 7 "MeanLocksModel" "at" "[I") (List.mem_of_getElem? (i := 3) rfl)) (fun _ h9 => h9) rfl dX4_undo_43 ?_
          refine lv_iload_n hx hb dX4_undo_46 rfl (lv_at hl 0 rfl) ?_
          refine lv_aload_n hx hb dX4_undo_47 rfl (lv_at hl 2 rfl) ?_
          refine va_get (D := (dC, dI)) (ci := 4) (v := .ref (ad 1)) (C := RX4) (T := TX4) (N := 16) hx hb hts hin0 hown hK hP 0 rfl rfl 1 (by decide) (hts (.fieldLink RX4 13 "MeanLocksModel" "past" "[I") (List.mem_of_getElem? (i := 4) rfl)) (fun _ h9 => h9) rfl dX4_undo_48 ?_
          refine lv_sipush (v := (2488 : Int32)) hx hb dX4_undo_51 (by decide) ?_
          refine lv_iload_n hx hb dX4_undo_54 rfl (lv_at hl 1 rfl) ?_
          refine lv_imul hx hb dX4_undo_55 ?_
          refine lv_iload_n hx hb dX4_undo_56 rfl (lv_at hl 0 rfl) ?_
          refine lv_iadd hx hb dX4_undo_57 ?_
          obtain ⟨hi, h1⟩ := ax_some h1
          refine va_iald hx hb hK hP 2 0 rfl rfl hi dX4_undo_58 ?_
          obtain ⟨hi, h1⟩ := ax_some h1
          obtain ⟨s5, es5, h1⟩ := nm_some h1
          refine x_iast (ws' := wM cA h ad s5) hC hK hP hD hS 1 0 rfl rfl (by rw [es5]; exact wM_s0 _ _ _ _ _) hi dX4_undo_59 (fun H locs hP hD hS => ?_)
          obtain ⟨v6, ev6, h1⟩ := nm_some h1
          refine lv_iinc (v := v6) (lv' := [(2, .int v6), (1, .int v2), (0, .ref h)]) hx hb dX4_undo_60 hl (k := 0) rfl (by rw [ev6]; rfl) (by decide) rfl (fun ls hl => ?_)
          refine lv_goto (tgt := 35) hx hb dX4_undo_63 (by decide) ?_
          have hc := lp_l h1 hz1
          exact ih1 v6 s5 hc _ _ hP hD hS ls (lv_sub hl [0, 1, 2] rfl)
    exact LP1 FU (0 : Int32) s1 hl1 _ _ hP hD hS ls hl
  · have h0 := it_t h0 hc
    refine lv_bipush (v := (-5 : Int32)) hx hb dX4_undo_7 (by decide) ?_
    obtain ⟨e1, e2⟩ := Prod.mk.inj (Option.some.inj h0)
    exact x_retI hC hr hlocks rfl hP hD hS dX4_undo_9 ⟨e1, by rw [← e2]⟩
def fX4_waitsFor (a1 : Int32) (σ : St) : Option Int32 := bnd (fX4_isOwner a1) fun r1 => if (r1 : Int32) = (0 : Int32) then (some (-1 : Int32)) else (bnd (fX4_waitsForNow a1 σ) fun r2 => some r2)
abbrev rmX4_waitsFor : Room := { frames := 5, cells := 0, slots := 0, locals := 123 }
set_option maxHeartbeats 4000000 in
set_option maxRecDepth 100000 in
theorem kX4_waitsFor (l : Launch) (dC : Nat → ClassId) (dI : Nat → Nat → Nat) (cA : Nat → ClassId) (h : Nat) (ad : Nat → Nat) (a1 : Int32) (σ : St) (R0 : Int32) (h0 : fX4_waitsFor a1 σ = some R0) : CI l yX4_waitsFor wsX4_waitsFor rmX4_waitsFor (dC, dI) vwCl (tysW cA) [.ref h, .int a1] (wM cA h ad σ) R0 (wM cA h ad σ) := by
  refine CGI_of (cc := cX4_waitsFor) (nL := 2) (ret := (some .int)) (by decide) rfl (Nat.le_of_ble_eq_true rfl) ?_
  intro p e s m av below meth c A ls H locs hC hl
  obtain ⟨hC, hr, hlocks, hV, hN, hK, hP, hD, hS, hA⟩ := hC
  have hC : CallFix p m c cX4_waitsFor 2 s _ wsX4_waitsFor RX4 := hC
  obtain ⟨hx, hb, hml, hown, hts⟩ := id hC
  have hin0 : ∀ w ∈ u_ws RX4 TX4 16, w ∈ wsX4_waitsFor := fun _ h => (List.mem_cons_of_mem _ (List.mem_append_right _ h))
  have hl : lv_has ls 2 [(0, .ref h), (1, .int a1)] := hl
  unfold fX4_waitsFor at h0
  refine lv_iload_n hx hb dX4_waitsFor_0 rfl (lv_at hl 1 rfl) ?_
  obtain ⟨r1, hf1, h0⟩ := bnd_some h0
  refine x_SI (As := [.int a1]) (rest := []) hC (kX4_isOwner l dC dI cA a1 r1 hf1) (cwS 1 hts gX4_waitsFor_X4_isOwner rfl rfl rfl (by decide +kernel) ⟨Nat.le_of_ble_eq_true rfl, Nat.le_of_ble_eq_true rfl⟩) hV hN hK hP hD hS hA rfl hl.1 rfl (Nat.le_of_ble_eq_true rfl) ⟨Nat.zero_le _, Nat.zero_le _⟩ dX4_waitsFor_1 (fun H locs hP hD hS => ?_)
  refine lv_if_eq (tgt := 15) hx hb dX4_waitsFor_4 (by decide) (fun hc => ?_) (fun hc => ?_)
  · have h0 := it_t h0 hc
    refine lv_iconst (v := (-1 : Int32)) hx hb dX4_waitsFor_15 (by decide) ?_
    have e1 := Option.some.inj h0
    exact x_retI hC hr hlocks rfl hP hD hS dX4_waitsFor_16 ⟨e1, rfl⟩
  · have h0 := it_f h0 hc
    refine lv_aload_n hx hb dX4_waitsFor_7 rfl (lv_at hl 0 rfl) ?_
    refine lv_iload_n hx hb dX4_waitsFor_8 rfl (lv_at hl 1 rfl) ?_
    obtain ⟨r2, hf2, h0⟩ := bnd_some h0
    refine x_VI (As := [.int a1]) (rest := []) hC (kX4_waitsForNow l dC dI cA h ad a1 σ r2  hf2) (cwV 1 hts gX4_waitsFor_X4_waitsForNow rfl rfl rfl (by decide +kernel) ⟨Nat.le_of_ble_eq_true rfl, Nat.le_of_ble_eq_true rfl⟩) 0 4 hV hN hK hP hD hS hA rfl rfl rfl rfl hl.1 rfl (Nat.le_of_ble_eq_true rfl) ⟨Nat.zero_le _, Nat.zero_le _⟩ dX4_waitsFor_9 (fun H locs hP hD hS => ?_)
    refine lv_goto (tgt := 16) hx hb dX4_waitsFor_12 (by decide) ?_
    have e1 := Option.some.inj h0
    exact x_retI hC hr hlocks rfl hP hD hS dX4_waitsFor_16 ⟨e1, rfl⟩
def fX4_wipe (σ : St) : Option (Int32 × St) := nm (σ 8 0) fun v1 => nm (put σ 8 (fun _ => (0 : Int32))) fun s2 => some (v1, s2)
abbrev rmX4_wipe : Room := { frames := 0, cells := 0, slots := 0, locals := 0 }
set_option maxHeartbeats 4000000 in
set_option maxRecDepth 100000 in
theorem kX4_wipe (l : Launch) (dC : Nat → ClassId) (dI : Nat → Nat → Nat) (cA : Nat → ClassId) (h : Nat) (ad : Nat → Nat) (σ : St) (R0 : Int32) (σ' : St) (h0 : fX4_wipe σ = some (R0, σ')) : CI l yX4_wipe wsX4_wipe rmX4_wipe (dC, dI) vwCl (tysW cA) [.ref h] (wM cA h ad σ) R0 (wM cA h ad σ') := by
  refine CGI_of (cc := cX4_wipe) (nL := 2) (ret := (some .int)) (by decide) rfl (Nat.le_of_ble_eq_true rfl) ?_
  intro p e s m av below meth c A ls H locs hC hl
  obtain ⟨hC, hr, hlocks, hV, hN, hK, hP, hD, hS, hA⟩ := hC
  have hC : CallFix p m c cX4_wipe 2 s _ wsX4_wipe RX4 := hC
  obtain ⟨hx, hb, hml, hown, hts⟩ := id hC
  have hin0 : ∀ w ∈ u_ws RX4 TX4 16, w ∈ wsX4_wipe := fun _ h => (List.mem_cons_of_mem _ (List.mem_append_right _ h))
  have hl : lv_has ls 2 [(0, .ref h)] := hl
  unfold fX4_wipe at h0
  refine lv_aload_n hx hb dX4_wipe_0 rfl (lv_at hl 0 rfl) ?_
  refine va_get (D := (dC, dI)) (ci := 4) (v := .int (σ 8 0)) (C := RX4) (T := TX4) (N := 16) hx hb hts hin0 hown hK hP 0 rfl rfl 8 (by decide) (hts (.fieldLink RX4 193 "MeanLocksModel" "padMany" "I") (List.mem_of_getElem? (i := 1) rfl)) (fun _ h9 => h9) rfl dX4_wipe_1 ?_
  refine lv_topi (fun v1 ev1 => ?_)
  have h0 := nm_at ev1 h0
  refine lv_istore_n (lv' := [(1, .int v1), (0, .ref h)]) hx hb dX4_wipe_4 rfl hl (by decide) rfl (fun ls hl => ?_)
  refine lv_aload_n hx hb dX4_wipe_5 rfl (lv_at hl 1 rfl) ?_
  refine lv_iconst (v := (0 : Int32)) hx hb dX4_wipe_6 (by decide) ?_
  obtain ⟨s2, es2, h0⟩ := nm_some h0
  refine x_put (D := (dC, dI)) (ws' := wM cA h ad s2) (ci := 4) (fs := [.ref (ad 0), .ref (ad 1), .int (σ 2 0), .int (σ 3 0), .ref (ad 4), .ref (ad 5), .ref (ad 6), .ref (ad 7), .int (σ 8 0), .ref (ad 9), .ref (ad 10), .int (σ 11 0), .int (σ 12 0), .int (σ 13 0), .ref (ad 14), .ref (ad 15)]) (v := .int (0 : Int32)) (ty := .int) (C := RX4) (T := TX4) (N := 16) hC hin0 tyX4 tyX4_ok nmX4 hK hP hD hS 0 rfl rfl 8 (by decide) (hts (.fieldLink RX4 193 "MeanLocksModel" "padMany" "I") (List.mem_of_getElem? (i := 1) rfl)) rfl rfl rfl rfl (by decide +kernel) (Nat.le_of_ble_eq_true rfl) (by rw [es2]; exact wM_s8 _ _ _ _ _) dX4_wipe_7 (fun H locs hP hD hS => ?_)
  refine lv_iload_n hx hb dX4_wipe_10 rfl (lv_at hl 0 rfl) ?_
  obtain ⟨e1, e2⟩ := Prod.mk.inj (Option.some.inj h0)
  exact x_retI hC hr hlocks rfl hP hD hS dX4_wipe_11 ⟨e1, by rw [← e2]⟩
