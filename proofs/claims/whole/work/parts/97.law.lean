/-! The law's loop and its start -/
section LC
variable {p : Program} {l : Launch} {e : Env} {s : State} {m : MethodId} {below : List Frame} {meth : Method} {c : Code} {b L : Nat} {xs : Nat → Int32} {dC : Nat → ClassId} {dI : Nat → Nat → Nat} {cA : Nat → ClassId} {q : Nat → Nat} {h : Nat} {ad : Nat → Nat} {H : Heap} {locs : List Loc} {cells slots N i : Nat} {Q : State → Prop} {ls : Array Slot} {σN σW σP κ τ : St} {M : Mk}
set_option maxHeartbeats 4000000 in
set_option maxRecDepth 100000 in
/-- from the switch on -/
theorem lw_switch {y : Int32} (C : lwC p s m meth c b L xs dC dI cA) (hl : lv_has ls 4 [(0, .ref b), (1, .ref (q 0)), (2, .ref h), (3, .int (nI i))]) (hi : i + 6 ≤ L) (hL : L ≤ 3072) (hN : N + 8100 < 2147483648) (hf : cells + 17 ≤ 600000 ∧ slots + 1303 ≤ 7302250) (I : INV N σN σP κ M τ) (hP : va_P (dC, dI) vwCl (lwW cA q h ad σN σW σP κ M τ) H) (hD : va_D (fun q : Nat => s.heap.size ≤ q) (lwW cA q h ad σN σW σP κ M τ)) (hS : va_S (fun q : Nat => s.heap.size ≤ q) s.heap H locs) (kk : lwK p l e s m below meth c b dC dI cA q h ad cells slots (N + 8100) Q ls) : W p l e room_1 s m #[Value.ref b] below meth c H locs cells slots Q (F0 m 33 ls [.int y]) := by
  have hx : p.tables.exec = Jvm.exec := C.1.1
  have hb : c.code = code := C.1.2.1
  by_cases hy : y.toInt < 0 ∨ 26 < y.toInt
  · refine lv_tableOut (tgt := 1027) hx hb dL_law_33 hy (by decide) ?_
    refine W.widen (k := cells + 17) (n := slots + 1303) (by omega) (by omega) ?_
    exact kk _ _ _ _ _ _ _ _ (I.mono (by omega)) hP hD hS
  · obtain ⟨n, hn, en⟩ : ∃ n : Nat, n ≤ 26 ∧ y.toInt = (n : Int) := ⟨y.toInt.toNat, by omega, by omega⟩
    have h1 : ¬ y.toInt < 0 := fun h => hy (Or.inl h)
    have h2 : ¬ 26 < y.toInt := fun h => hy (Or.inr h)
    rcases (show n = 0 ∨ n = 1 ∨ n = 2 ∨ n = 3 ∨ n = 4 ∨ n = 5 ∨ n = 6 ∨ n = 7 ∨ n = 8 ∨ n = 9 ∨ n = 10 ∨ n = 11 ∨ n = 12 ∨ n = 13 ∨ n = 14 ∨ n = 15 ∨ n = 16 ∨ n = 17 ∨ n = 18 ∨ n = 19 ∨ n = 20 ∨ n = 21 ∨ n = 22 ∨ n = 23 ∨ n = 24 ∨ n = 25 ∨ n = 26 by omega) with rfl | rfl | rfl | rfl | rfl | rfl | rfl | rfl | rfl | rfl | rfl | rfl | rfl | rfl | rfl | rfl | rfl | rfl | rfl | rfl | rfl | rfl | rfl | rfl | rfl | rfl | rfl
    · refine lv_tableIn (off := 123) (tgt := 156) hx hb dL_law_33 h1 h2 (by rw [en]; rfl) (by decide) ?_
      exact cs_set C hl hi hL hN hf I hP hD hS kk
    · refine lv_tableIn (off := 156) (tgt := 189) hx hb dL_law_33 h1 h2 (by rw [en]; rfl) (by decide) ?_
      exact cs_request C hl hi hL hN hf I hP hD hS kk
    · refine lv_tableIn (off := 219) (tgt := 252) hx hb dL_law_33 h1 h2 (by rw [en]; rfl) (by decide) ?_
      exact cs_free C hl hi hL hN hf I hP hD hS kk
    · refine lv_tableIn (off := 262) (tgt := 295) hx hb dL_law_33 h1 h2 (by rw [en]; rfl) (by decide) ?_
      exact cs_cancel C hl hi hL hN hf I hP hD hS kk
    · refine lv_tableIn (off := 285) (tgt := 318) hx hb dL_law_33 h1 h2 (by rw [en]; rfl) (by decide) ?_
      exact cs_leave C hl hi hL hN hf I hP hD hS kk
    · refine lv_tableIn (off := 308) (tgt := 341) hx hb dL_law_33 h1 h2 (by rw [en]; rfl) (by decide) ?_
      exact cs_ticks C hl hi hL hN hf I hP hD hS kk
    · refine lv_tableIn (off := 331) (tgt := 364) hx hb dL_law_33 h1 h2 (by rw [en]; rfl) (by decide) ?_
      exact cs_at C hl hi hL hN hf I hP hD hS kk
    · refine lv_tableIn (off := 364) (tgt := 397) hx hb dL_law_33 h1 h2 (by rw [en]; rfl) (by decide) ?_
      exact cs_owners C hl hi hL hN hf I hP hD hS kk
    · refine lv_tableIn (off := 397) (tgt := 430) hx hb dL_law_33 h1 h2 (by rw [en]; rfl) (by decide) ?_
      exact cs_ofOwner C hl hi hL hN hf I hP hD hS kk
    · refine lv_tableIn (off := 430) (tgt := 463) hx hb dL_law_33 h1 h2 (by rw [en]; rfl) (by decide) ?_
      exact cs_stretch C hl hi hL hN hf I hP hD hS kk
    · refine lv_tableIn (off := 473) (tgt := 506) hx hb dL_law_33 h1 h2 (by rw [en]; rfl) (by decide) ?_
      exact cs_inRow C hl hi hL hN hf I hP hD hS kk
    · refine lv_tableIn (off := 496) (tgt := 529) hx hb dL_law_33 h1 h2 (by rw [en]; rfl) (by decide) ?_
      exact cs_waitsFor C hl hi hL hN hf I hP hD hS kk
    · refine lv_tableIn (off := 519) (tgt := 552) hx hb dL_law_33 h1 h2 (by rw [en]; rfl) (by decide) ?_
      exact cs_count C hl hi hL hN hf I hP hD hS kk
    · refine lv_tableIn (off := 542) (tgt := 575) hx hb dL_law_33 h1 h2 (by rw [en]; rfl) (by decide) ?_
      exact cs_couldGive C hl hi hL hN hf I hP hD hS kk
    · refine lv_tableIn (off := 595) (tgt := 628) hx hb dL_law_33 h1 h2 (by rw [en]; rfl) (by decide) ?_
      exact cs_inTheWay C hl hi hL hN hf I hP hD hS kk
    · refine lv_tableIn (off := 648) (tgt := 681) hx hb dL_law_33 h1 h2 (by rw [en]; rfl) (by decide) ?_
      exact cs_ring C hl hi hL hN hf I hP hD hS kk
    · refine lv_tableIn (off := 701) (tgt := 734) hx hb dL_law_33 h1 h2 (by rw [en]; rfl) (by decide) ?_
      exact cs_firstFor C hl hi hL hN hf I hP hD hS kk
    · refine lv_tableIn (off := 754) (tgt := 787) hx hb dL_law_33 h1 h2 (by rw [en]; rfl) (by decide) ?_
      exact cs_longestFor C hl hi hL hN hf I hP hD hS kk
    · refine lv_tableIn (off := 797) (tgt := 830) hx hb dL_law_33 h1 h2 (by rw [en]; rfl) (by decide) ?_
      exact cs_givenIf C hl hi hL hN hf I hP hD hS kk
    · refine lv_tableIn (off := 820) (tgt := 853) hx hb dL_law_33 h1 h2 (by rw [en]; rfl) (by decide) ?_
      exact cs_greatestBar C hl hi hL hN hf I hP hD hS kk
    · refine lv_tableIn (off := 843) (tgt := 876) hx hb dL_law_33 h1 h2 (by rw [en]; rfl) (by decide) ?_
      exact cs_put C hl hi hL hN hf I hP hD hS kk
    · refine lv_tableIn (off := 896) (tgt := 929) hx hb dL_law_33 h1 h2 (by rw [en]; rfl) (by decide) ?_
      exact cs_wipe C hl hi hL hN hf I hP hD hS kk
    · refine lv_tableIn (off := 909) (tgt := 942) hx hb dL_law_33 h1 h2 (by rw [en]; rfl) (by decide) ?_
      exact cs_fault C hl hi hL hN hf I hP hD hS kk
    · refine lv_tableIn (off := 922) (tgt := 955) hx hb dL_law_33 h1 h2 (by rw [en]; rfl) (by decide) ?_
      exact cs_carryOut C hl hi hL hN hf I hP hD hS kk
    · refine lv_tableIn (off := 935) (tgt := 968) hx hb dL_law_33 h1 h2 (by rw [en]; rfl) (by decide) ?_
      exact cs_undo C hl hi hL hN hf I hP hD hS kk
    · refine lv_tableIn (off := 948) (tgt := 981) hx hb dL_law_33 h1 h2 (by rw [en]; rfl) (by decide) ?_
      exact cs_save C hl hi hL hN hf I hP hD hS kk
    · refine lv_tableIn (off := 971) (tgt := 1004) hx hb dL_law_33 h1 h2 (by rw [en]; rfl) (by decide) ?_
      exact cs_restore C hl hi hL hN hf I hP hD hS kk
end LC
