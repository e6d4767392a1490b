/-! The law's loop and its start -/
theorem lw_cmp {i L : Nat} (hi : i ≤ 3072) (hL : L ≤ 3072) : Int32.ofNat L - 6 < nI i ↔ L < i + 6 := by
  show nI L - nI 6 < nI i ↔ _
  by_cases h6 : 6 ≤ L
  · rw [nI_sb h6, nI_ltI (by omega) (by omega)]
    omega
  · refine ⟨fun _ => by omega, fun _ => ?_⟩
    have h1 : nI L - nI 6 < (0 : Int32) := by
      rcases (show L = 0 ∨ L = 1 ∨ L = 2 ∨ L = 3 ∨ L = 4 ∨ L = 5 by omega) with rfl | rfl | rfl | rfl | rfl | rfl <;> decide
    have h2 : ¬ nI i < 0 := nI_pos (by omega)
    rw [Int32.lt_iff_toInt_lt] at h1 h2 ⊢
    omega
section LD
variable {p : Program} {l : Launch} {e : Env} {s : State} {m : MethodId} {below : List Frame} {meth : Method} {c : Code} {b L : Nat} {xs : Nat → Int32} {dC : Nat → ClassId} {dI : Nat → Nat → Nat} {cA : Nat → ClassId} {q : Nat → Nat} {h : Nat} {ad : Nat → Nat} {H : Heap} {locs : List Loc} {cells slots N i : Nat} {Q : State → Prop} {ls : Array Slot} {σN σW σP κ τ : St} {M : Mk}
set_option maxHeartbeats 4000000 in
set_option maxRecDepth 100000 in
theorem lw_loop (C : lwC p s m meth c b L xs dC dI cA) (hL : L ≤ 3072) : ∀ (n i cells slots N : Nat), i ≤ L → L + 1 ≤ i + n → cells + 17 * n ≤ 600000 → slots + 1303 * n ≤ 7302250 → N + 8100 * n < 2147483648 → ∀ (σN σW σP κ : St) (M : Mk) (τ : St) (H : Heap) (locs : List Loc), INV N σN σP κ M τ → va_P (dC, dI) vwCl (lwW cA q h ad σN σW σP κ M τ) H → va_D (fun q : Nat => s.heap.size ≤ q) (lwW cA q h ad σN σW σP κ M τ) → va_S (fun q : Nat => s.heap.size ≤ q) s.heap H locs → ∀ ls : Array Slot, lv_has ls 4 [(0, .ref b), (1, .ref (q 0)), (2, .ref h), (3, .int (nI i))] → W p l e room_1 s m #[Value.ref b] below meth c H locs cells slots (lw_Z below #[Value.ref b] s) (F0 m 18 ls []) := by
  obtain ⟨hx, hb, hr, hml, hown, hts0, hX, hbl, hlocks, hgv⟩ := id C.1
  have hbA : ¬ (fun q : Nat => s.heap.size ≤ q) b := Nat.not_le.mpr hbl
  intro n
  induction n with
  | zero =>
    intro i cells slots N h1 h2
    exact absurd h2 (by omega)
  | succ n ih =>
    intro i cells slots N hi hin hc1 hc2 hc3 σN σW σP κ M τ H locs I hP hD hS ls hl
    refine lv_iload_n hx hb dL_law_18 rfl (lv_at hl 3 rfl) ?_
    refine lv_aload_n hx hb dL_law_19 rfl (lv_at hl 0 rfl) ?_
    refine va_slen hx hb hX hbl hbA hS dL_law_20 ?_
    refine lv_bipush (v := (6 : Int32)) hx hb dL_law_21 (by decide) ?_
    refine lv_isub hx hb dL_law_23 ?_
    refine lv_icmp_gt (tgt := 1033) hx hb dL_law_24 (by decide) (fun hc => ?_) (fun hc => ?_)
    · refine lv_iconst (v := (1 : Int32)) hx hb dL_law_1033 (by decide) ?_
      refine va_forget (fun z hz => hS.2.2 z hz) ?_
      refine W.widen (k := 600000) (n := 7302250) (by omega) (by omega) ?_
      exact lw_ret hx hb hr hlocks dL_law_1034
    · have h6 : i + 6 ≤ L := Nat.not_lt.mp (fun q => hc ((lw_cmp (by omega) hL).mpr q))
      refine lv_aload_n hx hb dL_law_27 rfl (lv_at hl 0 rfl) ?_
      refine lv_iload_n hx hb dL_law_28 rfl (lv_at hl 3 rfl) ?_
      refine va_sld hx hb hX hbl hbA hS (vp_in_nI (by omega) (by omega)) dL_law_29 ?_
      refine lv_bipush (v := (31 : Int32)) hx hb dL_law_30 (by decide) ?_
      refine lv_iand hx hb dL_law_32 ?_
      refine lv_topi (fun y ey => ?_)
      refine lw_switch C hl h6 hL (by omega) (by omega) I hP hD hS (fun σN σW σP κ M τ H locs I hP hD hS => ?_)
      refine lv_iinc (v := nI (i + 6)) (lv' := [(3, .int (nI (i + 6))), (0, .ref b), (1, .ref (q 0)), (2, .ref h)]) hx hb dL_law_1027 hl (k := 3) rfl ((congrArg (fun z => nI i + z) (show Int32.ofInt 6 = nI 6 by decide)).trans (nI_add i 6)) (by decide) rfl (fun ls hl => ?_)
      refine lv_goto (tgt := 18) hx hb dL_law_1030 (by decide) ?_
      exact ih (i + 6) (cells + 17) (slots + 1303) (N + 8100) h6 (by omega) (by omega) (by omega) (by omega) σN σW σP κ M τ H locs I hP hD hS ls (lv_sub hl [1, 2, 3, 0] rfl)
end LD
set_option maxHeartbeats 4000000 in
set_option maxRecDepth 100000 in
/-- the law, from its entry -/
theorem whole_start {p : Program} {e : Env} {s : State} {m : MethodId} {below : List Frame} {meth : Method} {c : Code} (l : Launch) (hflags : l.flags = flags0) {b L : Nat} {xs : Nat → Int32} (hL : L ≤ 3072) (C0 : lw_At p s m meth c b L xs) : W p l e room_1 s m #[Value.ref b] below meth c s.heap [] 0 0 (lw_Z below #[Value.ref b] s) (entryFrame m ([Value.ref b] : List Value).toArray 4) := by
  obtain ⟨hx, hb, hr, hml, hown, hts0, hX, hbl, hlocks, hgv⟩ := id C0
  have htsE : ∀ w ∈ wsE, w.before #[Value.ref b] s = true := fun w hw => hts0 w (wsE_in w hw)
  have hts : ∀ w ∈ wsL_law, w.before #[Value.ref b] s = true := fun w hw => hts0 w (wsL_law_in w hw)
  have hA : ∀ z : Nat, s.heap.size ≤ z → (fun q : Nat => s.heap.size ≤ q) z := fun _ h => h
  obtain ⟨dC, dI, hKc⟩ := lw_cls hts0
  obtain ⟨cA, hKt⟩ := lw_tys htsE
  have hK : va_K (dC, dI) vwCl (tysW cA) s := ⟨hKc, hKt⟩
  have hO := lw_over htsE
  have hN0 := lw_nest hts0
  have hV := lw_str htsE hgv
  have CC : lwC p s m meth c b L xs dC dI cA := ⟨C0, hK, hO, hN0, hV⟩
  have hC : CallFix p m c code 4 s #[Value.ref b] wsL_law RL := ⟨hx, hb, hml, hown, hts⟩
  have hS : va_S (fun q : Nat => s.heap.size ≤ q) s.heap s.heap [] := va_S.rf
  have hP : va_P (dC, dI) vwCl [] s.heap := fun k q h => by simp at h
  have hD : va_D (fun q : Nat => s.heap.size ≤ q) [] := ⟨fun i j p q h => by simp at h, fun k q h => by simp at h⟩
  have hl := lv_entry ([.ref b]) (n := 4) (Nat.le_of_ble_eq_true rfl)
  rw [lg_entry_eq]
  generalize (lg_sl ([.ref b]) ++ List.replicate (4 - (lg_sl ([.ref b])).length) Slot.unset).toArray = ls at hl ⊢
  have hl : lv_has ls 4 [(0, .ref b)] := hl
  refine va_new (ci := 3) (fs := [.null, .null, .null, .null, .null]) (C := RX3) (T := TX3) (N := 5) hx hb hts0 wsL_in_X30 tyX3 tyX3_ok (own := RL) hown (hts0 (.classLink RL 7 RX3) (wsE_in _ (List.mem_of_getElem? (i := 15) rfl))) (hts0 (.instantiable RX3 5) (wsE_in _ (List.mem_of_getElem? (i := 12) rfl))) (hts0 (.initialized RX3) (wsE_in _ (List.mem_of_getElem? (i := 16) rfl))) hK hP hD hS hA rfl (fun j hj => by rcases (show j = 0 ∨ j = 1 ∨ j = 2 ∨ j = 3 ∨ j = 4 by omega) with rfl | rfl | rfl | rfl | rfl <;> rfl) (Nat.le_of_ble_eq_true rfl) (Nat.le_of_ble_eq_true rfl) dL_law_0 (fun h0 H hP hD hS => ?_)
  refine lv_dup hx hb dL_law_3 rfl ?_
  refine x_NV (As := []) (rest := [.ref h0]) (wr := []) hC (kX3_init l dC dI cA h0) (cwI 0 hts gL_law_X3_init rfl rfl rfl (hts0 (.initialized RX3) (wsE_in _ (List.mem_of_getElem? (i := 16) rfl))) (hts0 (.methodLink RL 9 yX3_init) (wsE_in _ (List.mem_of_getElem? (i := 19) rfl))) (hts0 (.instanceMethod yX3_init) (wsE_in _ (List.mem_of_getElem? (i := 20) rfl))) rfl (by decide +kernel) ⟨Nat.le_of_ble_eq_true rfl, Nat.le_of_ble_eq_true rfl⟩) hO hV hN0 hK hP hD hS hA (by rw [List.append_nil]; exact List.Perm.refl _) rfl hl.1 rfl (Nat.le_of_ble_eq_true rfl) ⟨Nat.le_of_ble_eq_true rfl, Nat.le_of_ble_eq_true rfl⟩ dL_law_4 (fun u H locs hu hP hD hS => ?_)
  obtain ⟨q, hq0, rfl⟩ := hu
  rw [List.append_nil] at hP hD
  rw [← hq0]
  refine lv_astore_n (lv' := [(1, .ref (q 0)), (0, .ref b)]) hx hb dL_law_7 rfl hl (by decide) rfl (fun ls hl => ?_)
  refine va_new (ci := 4) (fs := [.null, .null, .int 0, .int 0, .null, .null, .null, .null, .int 0, .null, .null, .int 0, .int 0, .int 0, .null, .null]) (C := RX4) (T := TX4) (N := 16) hx hb hts0 wsL_in_X40 tyX4 tyX4_ok (own := RL) hown (hts0 (.classLink RL 10 RX4) (wsE_in _ (List.mem_of_getElem? (i := 17) rfl))) (hts0 (.instantiable RX4 16) (wsE_in _ (List.mem_of_getElem? (i := 13) rfl))) (hts0 (.initialized RX4) (wsE_in _ (List.mem_of_getElem? (i := 18) rfl))) hK hP hD hS hA rfl (fun j hj => by rcases (show j = 0 ∨ j = 1 ∨ j = 2 ∨ j = 3 ∨ j = 4 ∨ j = 5 ∨ j = 6 ∨ j = 7 ∨ j = 8 ∨ j = 9 ∨ j = 10 ∨ j = 11 ∨ j = 12 ∨ j = 13 ∨ j = 14 ∨ j = 15 by omega) with rfl | rfl | rfl | rfl | rfl | rfl | rfl | rfl | rfl | rfl | rfl | rfl | rfl | rfl | rfl | rfl <;> rfl) (Nat.le_of_ble_eq_true rfl) (Nat.le_of_ble_eq_true rfl) dL_law_8 (fun h H hP hD hS => ?_)
  refine lv_dup hx hb dL_law_11 rfl ?_
  refine x_NV (As := []) (rest := [.ref h]) (ws := [(h, .inr (4, [.null, .null, .int 0, .int 0, .null, .null, .null, .null, .int 0, .null, .null, .int 0, .int 0, .int 0, .null, .null]))]) hC (kX4_init l dC dI cA h) (cwI 0 hts gL_law_X4_init rfl rfl rfl (hts0 (.initialized RX4) (wsE_in _ (List.mem_of_getElem? (i := 18) rfl))) (hts0 (.methodLink RL 12 yX4_init) (wsE_in _ (List.mem_of_getElem? (i := 21) rfl))) (hts0 (.instanceMethod yX4_init) (wsE_in _ (List.mem_of_getElem? (i := 22) rfl))) rfl (by decide +kernel) ⟨Nat.le_of_ble_eq_true rfl, Nat.le_of_ble_eq_true rfl⟩) hO hV hN0 hK hP hD hS hA List.perm_append_comm rfl hl.1 rfl (Nat.le_of_ble_eq_true rfl) ⟨Nat.le_of_ble_eq_true rfl, Nat.le_of_ble_eq_true rfl⟩ dL_law_12 (fun u H locs hu hP hD hS => ?_)
  obtain ⟨ad, rfl⟩ := hu
  refine lv_astore_n (lv' := [(2, .ref h), (1, .ref (q 0)), (0, .ref b)]) hx hb dL_law_15 rfl hl (by decide) rfl (fun ls hl => ?_)
  refine lv_iconst (v := nI 0) hx hb dL_law_16 (by decide) ?_
  refine lv_istore_n (lv' := [(3, .int (nI 0)), (2, .ref h), (1, .ref (q 0)), (0, .ref b)]) hx hb dL_law_17 rfl hl (by decide) rfl (fun ls hl => ?_)
  refine W.widen (k := 61) (n := 27850) (Nat.le_of_ble_eq_true rfl) (Nat.le_of_ble_eq_true rfl) ?_
  exact lw_loop CC hL (L + 1) 0 61 27850 0 (Nat.zero_le _) (by omega) (by omega) (by omega) (by omega) _ _ _ _ _ _ H _ inv0 hP hD hS ls (lv_sub hl [3, 2, 1, 0] rfl)
