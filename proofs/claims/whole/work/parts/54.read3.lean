/-! Counts and stretches, on both sides -/
def sm (f : Nat → Int32) : Nat → Int32
  | 0 => 0
  | n + 1 => sm f n + f n
theorem sum_loop {b : (Int32 × Int32) → Option ((Int32 × Int32) ⊕ (Int32 × Int32))} (f : Nat → Int32) (hs : ∀ j z, j < 8 → b (z, nI j) = some (.inl (z + f j, nI (j + 1)))) (hx : ∀ z, b (z, nI 8) = some (.inr (z, nI 8))) : lp b FU (nI 0, nI 0) = some (sm f 8, nI 8) := by
  obtain ⟨e, he, rfl⟩ := lp_rng (b := b) (fun j s => s = (sm f j, nI j)) (fun e => e = (sm f 8, nI 8)) 0 8
    (fun j s _ hj hs' => by
      subst hs'
      exact ⟨_, hs j _ hj, rfl⟩)
    (fun s hs => by subst hs; exact ⟨_, hx _, rfl⟩) (nI 0, nI 0) (by omega) rfl (by omega)
  exact he
theorem isM_255 : isM (nI 255) (fun x => x < 8) := fun i hi => by
  have h : ∀ i : Fin 32, (bt (nI 255) i.val = true ↔ i.val < 8) := by decide +kernel
  exact h ⟨i, hi⟩
abbrev lckd (A : AS) (p : Nat) : Prop := ∃ x, x < 8 ∧ aK A x p ≠ 0
section CN
variable {A : AS} {σ : St} {σW σP κ : St}
theorem givenL (h : RepL σ A) : fX1_allGiven σ = some (sm (fun x => aC A x 0) 8) := by
  have e := sum_loop (b := fun t : (Int32 × Int32) => bX1_allGiven_4 σ t.1 t.2) (fun x => aC A x 0)
    (fun j z hj => by
      show bX1_allGiven_4 σ z (nI j) = _
      have g := (h.2.2.2.1 j hj).1
      unfold bX1_allGiven_4
      simp (disch := omega) only [g, nm, bnd_s, bnd_n, bn2_s, l0, l1, l2, l3, l4, l7, l8, l9, l16, l80, l88, l200, l300, pk_mul, nI_add, nI_sb, mx1, mn1, ax_nI, nI_cl, nI_lt', nI_le', nI_eq', if_pos, if_neg, if_true, if_false])
    (fun z => by
      show bX1_allGiven_4 σ z (nI 8) = _
      unfold bX1_allGiven_4
      simp (disch := omega) only [nm, bnd_s, bnd_n, bn2_s, l0, l1, l2, l3, l4, l7, l8, l9, l16, l80, l88, l200, l300, pk_mul, nI_add, nI_sb, mx1, mn1, ax_nI, nI_cl, nI_lt', nI_le', nI_eq', if_pos, if_neg, if_true, if_false])
  unfold fX1_allGiven
  rw [show lp (fun t : (Int32 × Int32) => bX1_allGiven_4 σ t.1 t.2) FU ((0 : Int32), (0 : Int32)) = _ from e]
  rfl
theorem sumM (h : RepM (σ 0) A) : fX4_sum 4 σ = some (sm (fun x => aC A x 0) 8) := by
  have e := sum_loop (b := fun t : (Int32 × Int32) => bX4_sum_4 4 σ t.1 t.2) (fun x => aC A x 0)
    (fun j z hj => by
      show bX4_sum_4 4 σ z (nI j) = _
      have g : fX4_of (nI j) (nI 4) σ = some (aC A j 0) := by rw [show fX4_of (nI j) (nI 4) σ = some (σ 0 (16 + 9 * j + 4)) from ofM_eq hj (by omega), (h.2.2.2.1 j hj).1]
      unfold bX4_sum_4
      simp (disch := omega) only [g, nm, bnd_s, bnd_n, bn2_s, l0, l1, l2, l3, l4, l7, l8, l9, l16, l80, l88, l200, l300, pk_mul, nI_add, nI_sb, mx1, mn1, ax_nI, nI_cl, nI_lt', nI_le', nI_eq', if_pos, if_neg, if_true, if_false])
    (fun z => by
      show bX4_sum_4 4 σ z (nI 8) = _
      unfold bX4_sum_4
      simp (disch := omega) only [nm, bnd_s, bnd_n, bn2_s, l0, l1, l2, l3, l4, l7, l8, l9, l16, l80, l88, l200, l300, pk_mul, nI_add, nI_sb, mx1, mn1, ax_nI, nI_cl, nI_lt', nI_le', nI_eq', if_pos, if_neg, if_true, if_false])
  unfold fX4_sum
  rw [show lp (fun t : (Int32 × Int32) => bX4_sum_4 4 σ t.1 t.2) FU ((0 : Int32), (0 : Int32)) = _ from e]
  rfl
theorem lckdL (h : RepL σ A) : ∀ [DecidablePred (lckd A)], fX1_placesLocked σ = some (nI (cnt (lckd A) 300)) := by
  intro inst
  have e := cnt_loop (b := fun t : (Int32 × Int32) => bX1_placesLocked_4 σ t.1 t.2) (lckd A) (n := 300) (by omega)
    (fun j c hj hc hP => by
      show bX1_placesLocked_4 σ (nI c) (nI j) = _
      have m := h.2.2.2.2 1 j (by omega) (by omega) hj
      have g : ¬ σ (16 + 1) j = nI 0 := fun q => by
        obtain ⟨x, hx, hk⟩ := hP
        exact (isM_z m).mp q x (by omega) ⟨hx, by omega⟩
      unfold bX1_placesLocked_4
      simp (disch := omega) only [l300, eq_false g, nm, bnd_s, bnd_n, bn2_s, l0, l1, l2, l3, l4, l7, l8, l9, l16, l80, l88, l200, l300, pk_mul, nI_add, nI_sb, mx1, mn1, ax_nI, nI_cl, nI_lt', nI_le', nI_eq', if_pos, if_neg, if_true, if_false])
    (fun j c hj hc hP => by
      show bX1_placesLocked_4 σ (nI c) (nI j) = _
      have m := h.2.2.2.2 1 j (by omega) (by omega) hj
      have g : σ (16 + 1) j = nI 0 := (isM_z m).mpr fun x _ ⟨hx, hk⟩ => hP ⟨x, hx, by omega⟩
      unfold bX1_placesLocked_4
      simp (disch := omega) only [l300, eq_true g, nm, bnd_s, bnd_n, bn2_s, l0, l1, l2, l3, l4, l7, l8, l9, l16, l80, l88, l200, l300, pk_mul, nI_add, nI_sb, mx1, mn1, ax_nI, nI_cl, nI_lt', nI_le', nI_eq', if_pos, if_neg, if_true, if_false])
    (fun c => by
      show bX1_placesLocked_4 σ (nI c) (nI 300) = _
      unfold bX1_placesLocked_4
      simp (disch := omega) only [l300, nm, bnd_s, bnd_n, bn2_s, l0, l1, l2, l3, l4, l7, l8, l9, l16, l80, l88, l200, l300, pk_mul, nI_add, nI_sb, mx1, mn1, ax_nI, nI_cl, nI_lt', nI_le', nI_eq', if_pos, if_neg, if_true, if_false])
  unfold fX1_placesLocked
  rw [show lp (fun t : (Int32 × Int32) => bX1_placesLocked_4 σ t.1 t.2) FU ((0 : Int32), (0 : Int32)) = _ from e]
  rfl
theorem lckdM (h : RepM (σ 0) A) (hw : WF A) : ∀ [DecidablePred (lckd A)], fX4_placesTaken σ = some (nI (cnt (lckd A) 300)) := by
  intro inst
  have l255 : (255 : Int32) = nI 255 := rfl
  have e := cnt_loop (b := fun t : (Int32 × Int32) => bX4_placesTaken_4 σ t.1 t.2) (lckd A) (n := 300) (by omega)
    (fun j c hj hc hP => by
      show bX4_placesTaken_4 σ (nI c) (nI j) = _
      obtain ⟨z, ez, hz⟩ := ownersM h hw hj (k := 0) (by omega)
      have g : ¬ z = nI 255 := fun q => by
        obtain ⟨x, hx, hk⟩ := hP
        rw [q] at hz
        exact hk ((hz x (by omega)).mp ((isM_255 x (by omega)).mpr hx)).2
      unfold bX4_placesTaken_4
      simp (disch := omega) only [l300, l255, ez, eq_false g, nm, bnd_s, bnd_n, bn2_s, l0, l1, l2, l3, l4, l7, l8, l9, l16, l80, l88, l200, l300, pk_mul, nI_add, nI_sb, mx1, mn1, ax_nI, nI_cl, nI_lt', nI_le', nI_eq', if_pos, if_neg, if_true, if_false])
    (fun j c hj hc hP => by
      show bX4_placesTaken_4 σ (nI c) (nI j) = _
      obtain ⟨z, ez, hz⟩ := ownersM h hw hj (k := 0) (by omega)
      have g : z = nI 255 := isM_eq hz (isM_congr isM_255 fun x _ => ⟨fun q => ⟨q, Classical.byContradiction fun q2 => hP ⟨x, q, q2⟩⟩, fun q => q.1⟩)
      unfold bX4_placesTaken_4
      simp (disch := omega) only [l300, l255, ez, eq_true g, nm, bnd_s, bnd_n, bn2_s, l0, l1, l2, l3, l4, l7, l8, l9, l16, l80, l88, l200, l300, pk_mul, nI_add, nI_sb, mx1, mn1, ax_nI, nI_cl, nI_lt', nI_le', nI_eq', if_pos, if_neg, if_true, if_false]
      rfl)
    (fun c => by
      show bX4_placesTaken_4 σ (nI c) (nI 300) = _
      unfold bX4_placesTaken_4
      simp (disch := omega) only [l300, nm, bnd_s, bnd_n, bn2_s, l0, l1, l2, l3, l4, l7, l8, l9, l16, l80, l88, l200, l300, pk_mul, nI_add, nI_sb, mx1, mn1, ax_nI, nI_cl, nI_lt', nI_le', nI_eq', if_pos, if_neg, if_true, if_false])
  unfold fX4_placesTaken
  rw [show lp (fun t : (Int32 × Int32) => bX4_placesTaken_4 σ t.1 t.2) FU ((0 : Int32), (0 : Int32)) = _ from e]
  rfl
theorem count_b (hw : WF A) (a pl kc : Int32) : ∃ v, (∀ σN σW σP κ : St, RepL σN A → σP 1 0 = pl → κ 2 0 = kc → fX3_count a σN σW σP κ = some v) ∧ ∀ σ : St, RepM (σ 0) A → σ 8 0 = pl → σ 3 0 = kc → fX4_count a σ = some v := by
  haveI : DecidablePred (lckd A) := fun _ => Classical.propDecidable _
  by_cases c : ∃ w, w < 11 ∧ a = nI w
  · obtain ⟨w, hw11, rfl⟩ := c
    rcases (show w = 0 ∨ w = 1 ∨ w = 2 ∨ w = 3 ∨ w = 4 ∨ w = 5 ∨ w = 6 ∨ w = 7 ∨ w = 8 ∨ w = 9 ∨ w = 10 by omega) with rfl | rfl | rfl | rfl | rfl | rfl | rfl | rfl | rfl | rfl | rfl
    · exact ⟨_, fun σN σW σP κ h _ _ => congrArg some h.1.1, fun σ h _ _ => congrArg some h.1.1⟩
    · exact ⟨_, fun σN σW σP κ h _ _ => congrArg some h.1.2.2.2.2.2.2, fun σ h _ _ => congrArg some h.1.2.2.2.2.2.2⟩
    · refine ⟨nI (cnt (lckd A) 300), fun σN σW σP κ h _ _ => ?_, fun σ h _ _ => ?_⟩
      · have e := lckdL h
        unfold fX3_count
        simp (disch := omega) only [e, nm, bnd_s, bnd_n, bn2_s, l0, l1, l2, l3, l4, l7, l8, l9, l16, l80, l88, l200, l300, pk_mul, nI_add, nI_sb, mx1, mn1, ax_nI, nI_cl, nI_lt', nI_le', nI_eq', if_pos, if_neg, if_true, if_false]
      · have e := lckdM h hw
        unfold fX4_count
        simp (disch := omega) only [e, nm, bnd_s, bnd_n, bn2_s, l0, l1, l2, l3, l4, l7, l8, l9, l16, l80, l88, l200, l300, pk_mul, nI_add, nI_sb, mx1, mn1, ax_nI, nI_cl, nI_lt', nI_le', nI_eq', if_pos, if_neg, if_true, if_false]
    · exact ⟨_, fun σN σW σP κ h _ _ => congrArg some h.1.2.2.2.1, fun σ h _ _ => congrArg some h.1.2.2.2.1⟩
    · exact ⟨_, fun σN σW σP κ h _ _ => congrArg some h.1.2.2.2.2.1, fun σ h _ _ => congrArg some h.1.2.2.2.2.1⟩
    · exact ⟨_, fun σN σW σP κ h _ _ => congrArg some h.1.2.2.2.2.2.1, fun σ h _ _ => congrArg some h.1.2.2.2.2.2.1⟩
    · refine ⟨sm (fun x => aC A x 0) 8, fun σN σW σP κ h _ _ => ?_, fun σ h _ _ => ?_⟩
      · have e := givenL h
        unfold fX3_count
        simp (disch := omega) only [l5, l6, e, nm, bnd_s, bnd_n, bn2_s, l0, l1, l2, l3, l4, l7, l8, l9, l16, l80, l88, l200, l300, pk_mul, nI_add, nI_sb, mx1, mn1, ax_nI, nI_cl, nI_lt', nI_le', nI_eq', if_pos, if_neg, if_true, if_false]
      · have e : fX4_sum (nI 4) σ = _ := sumM h
        unfold fX4_count
        simp (disch := omega) only [l5, l6, or_self, e, nm, bnd_s, bnd_n, bn2_s, l0, l1, l2, l3, l4, l7, l8, l9, l16, l80, l88, l200, l300, pk_mul, nI_add, nI_sb, mx1, mn1, ax_nI, nI_cl, nI_lt', nI_le', nI_eq', if_pos, if_neg, if_true, if_false]
    · exact ⟨_, fun σN σW σP κ h _ _ => congrArg some h.1.2.1, fun σ h _ _ => congrArg some h.1.2.1⟩
    · exact ⟨_, fun σN σW σP κ h _ _ => congrArg some h.1.2.2.1, fun σ h _ _ => congrArg some h.1.2.2.1⟩
    · exact ⟨_, fun σN σW σP κ h hp _ => congrArg some hp, fun σ h hp _ => congrArg some hp⟩
    · exact ⟨_, fun σN σW σP κ h _ hk => congrArg some hk, fun σ h _ hk => congrArg some hk⟩
  · have hne : ∀ w, w < 11 → (a = nI w) = False := fun w hw => eq_false fun q => c ⟨w, hw, q⟩
    refine ⟨-2, fun σN σW σP κ h _ _ => ?_, fun σ h _ _ => ?_⟩
    · unfold fX3_count
      simp (disch := omega) only [l5, l6, l10, hne, nm, bnd_s, bnd_n, bn2_s, l0, l1, l2, l3, l4, l7, l8, l9, l16, l80, l88, l200, l300, pk_mul, nI_add, nI_sb, mx1, mn1, ax_nI, nI_cl, nI_lt', nI_le', nI_eq', if_pos, if_neg, if_true, if_false]
    · unfold fX4_count
      simp (disch := omega) only [l5, l6, l10, hne, or_self, nm, bnd_s, bnd_n, bn2_s, l0, l1, l2, l3, l4, l7, l8, l9, l16, l80, l88, l200, l300, pk_mul, nI_add, nI_sb, mx1, mn1, ax_nI, nI_cl, nI_lt', nI_le', nI_eq', if_pos, if_neg, if_true, if_false]
end CN
