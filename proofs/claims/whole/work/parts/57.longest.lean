/-! The longest run, on both sides -/
/-- after j places: the run that ends there, the longest run, where it begins -/
noncomputable def lgS (P : Nat → Prop) : Nat → Nat × Nat × Nat
  | 0 => (0, 0, 0)
  | j + 1 => @ite _ (P j) (Classical.propDecidable _) (if (lgS P j).2.1 < (lgS P j).1 + 1 then ((lgS P j).1 + 1, (lgS P j).1 + 1, j + 1 - ((lgS P j).1 + 1)) else ((lgS P j).1 + 1, (lgS P j).2.1, (lgS P j).2.2)) (0, (lgS P j).2.1, (lgS P j).2.2)
theorem lgS_le (P : Nat → Prop) : ∀ j, (lgS P j).1 ≤ j ∧ (lgS P j).2.1 ≤ j ∧ (lgS P j).2.2 ≤ j
  | 0 => ⟨Nat.le_refl _, Nat.le_refl _, Nat.le_refl _⟩
  | j + 1 => by
    obtain ⟨a, b, c⟩ := lgS_le P j
    rw [lgS]
    split
    · split <;> refine ⟨?_, ?_, ?_⟩ <;> simp only <;> omega
    · refine ⟨?_, ?_, ?_⟩ <;> simp only <;> omega
theorem lgS_n {P : Nat → Prop} {j : Nat} (h : ¬ P j) : lgS P (j + 1) = (0, (lgS P j).2.1, (lgS P j).2.2) := by rw [lgS, if_neg h]
theorem lgS_g {P : Nat → Prop} {j : Nat} (h : P j) (h2 : (lgS P j).2.1 < (lgS P j).1 + 1) : lgS P (j + 1) = ((lgS P j).1 + 1, (lgS P j).1 + 1, j + 1 - ((lgS P j).1 + 1)) := by rw [lgS, if_pos h, if_pos h2]
theorem lgS_l {P : Nat → Prop} {j : Nat} (h : P j) (h2 : ¬ (lgS P j).2.1 < (lgS P j).1 + 1) : lgS P (j + 1) = ((lgS P j).1 + 1, (lgS P j).2.1, (lgS P j).2.2) := by rw [lgS, if_pos h, if_neg h2]
section LG
variable {A : AS} {σ : St} {σW σP κ : St}
theorem longLoopL (h : RepL σ A) (hw : WF A) {o k : Nat} (ho : o < 8) (hk : 1 ≤ k) (hk3 : k ≤ 3) : lp (fun t : (Int32 × Int32 × Int32 × Int32) => bX3_longestFor_41 (nI o) (nI k) σ σW σP κ t.1 t.2.1 t.2.2.1 t.2.2.2) FU (nI 0, nI 0, (-6 : Int32), nI 0) = some (nI (lgS (cdl A o k) 300).1, nI (lgS (cdl A o k) 300).2.1, (if (lgS (cdl A o k) 300).2.1 = 0 then (-6 : Int32) else nI (lgS (cdl A o k) 300).2.2), nI 300) := by
  obtain ⟨e, he, rfl⟩ := lp_rng (b := fun t : (Int32 × Int32 × Int32 × Int32) => bX3_longestFor_41 (nI o) (nI k) σ σW σP κ t.1 t.2.1 t.2.2.1 t.2.2.2)
    (fun j s => s = (nI (lgS (cdl A o k) j).1, nI (lgS (cdl A o k) j).2.1, (if (lgS (cdl A o k) j).2.1 = 0 then (-6 : Int32) else nI (lgS (cdl A o k) j).2.2), nI j))
    (fun e => e = (nI (lgS (cdl A o k) 300).1, nI (lgS (cdl A o k) 300).2.1, (if (lgS (cdl A o k) 300).2.1 = 0 then (-6 : Int32) else nI (lgS (cdl A o k) 300).2.2), nI 300)) 0 300
    (fun j s _ hj hs => by
      subst hs
      obtain ⟨b1, b2, b3⟩ := lgS_le (cdl A o k) j
      show ∃ s', bX3_longestFor_41 (nI o) (nI k) σ σW σP κ (nI (lgS (cdl A o k) j).1) (nI (lgS (cdl A o k) j).2.1) (if (lgS (cdl A o k) j).2.1 = 0 then (-6 : Int32) else nI (lgS (cdl A o k) j).2.2) (nI j) = some (.inl s') ∧ _
      obtain ⟨F, hF⟩ : ∃ F, F = (if (lgS (cdl A o k) j).2.1 = 0 then (-6 : Int32) else nI (lgS (cdl A o k) j).2.2) := ⟨_, rfl⟩
      rw [← hF]
      obtain ⟨g1, g0⟩ := couldL (σW := σW) (σP := σP) (κ := κ) h hw ho hk hk3 hj
      by_cases c : cdl A o k j
      · have g := g1 c
        by_cases c2 : (lgS (cdl A o k) j).2.1 < (lgS (cdl A o k) j).1 + 1
        · refine ⟨(nI ((lgS (cdl A o k) j).1 + 1), nI ((lgS (cdl A o k) j).1 + 1), nI (j + 1 - ((lgS (cdl A o k) j).1 + 1)), nI (j + 1)), ?_, by rw [lgS_g c c2, if_neg (by simp only; omega)]⟩
          unfold bX3_longestFor_41
          simp (disch := omega) only [l300, g, nm, bnd_s, bnd_n, bn2_s, l0, l1, l2, l3, l4, l7, l8, l9, l16, l80, l88, l200, l300, pk_mul, nI_add, nI_sb, mx1, mn1, ax_nI, nI_cl, nI_lt', nI_le', nI_eq', if_pos, if_neg, if_true, if_false]
        · refine ⟨(nI ((lgS (cdl A o k) j).1 + 1), nI (lgS (cdl A o k) j).2.1, F, nI (j + 1)), ?_, by rw [lgS_l c c2, hF]⟩
          unfold bX3_longestFor_41
          simp (disch := omega) only [l300, g, nm, bnd_s, bnd_n, bn2_s, l0, l1, l2, l3, l4, l7, l8, l9, l16, l80, l88, l200, l300, pk_mul, nI_add, nI_sb, mx1, mn1, ax_nI, nI_cl, nI_lt', nI_le', nI_eq', if_pos, if_neg, if_true, if_false]
      · have g := g0 c
        refine ⟨(nI 0, nI (lgS (cdl A o k) j).2.1, F, nI (j + 1)), ?_, by rw [lgS_n c, hF]⟩
        unfold bX3_longestFor_41
        simp (disch := omega) only [l300, g, nm, bnd_s, bnd_n, bn2_s, l0, l1, l2, l3, l4, l7, l8, l9, l16, l80, l88, l200, l300, pk_mul, nI_add, nI_sb, mx1, mn1, ax_nI, nI_cl, nI_lt', nI_le', nI_eq', if_pos, if_neg, if_true, if_false])
    (fun s hs => by
      subst hs
      refine ⟨_, ?_, rfl⟩
      show bX3_longestFor_41 _ _ _ _ _ _ _ _ _ (nI 300) = _
      unfold bX3_longestFor_41
      rw [if_pos (by decide)]) (nI 0, nI 0, (-6 : Int32), nI 0) (by omega) rfl (by omega)
  exact he
theorem longLoopM (h : RepM (σ 0) A) (hw : WF A) {o k : Nat} (ho : o < 8) (hk : 1 ≤ k) (hk3 : k ≤ 3) : lp (fun t : (Int32 × Int32 × Int32 × Int32) => bX4_longestFor_42 (nI o) (nI k) σ t.1 t.2.1 t.2.2.1 t.2.2.2) FU (nI 0, nI 0, nI 0, nI 0) = some (nI (lgS (cdl A o k) 300).1, nI (lgS (cdl A o k) 300).2.2, nI (lgS (cdl A o k) 300).2.1, nI 300) := by
  have g1 : σ 0 1 = nI (aR A).length := h.1.2.2.2.2.2.2
  obtain ⟨e, he, rfl⟩ := lp_rng (b := fun t : (Int32 × Int32 × Int32 × Int32) => bX4_longestFor_42 (nI o) (nI k) σ t.1 t.2.1 t.2.2.1 t.2.2.2)
    (fun j s => s = (nI (lgS (cdl A o k) j).1, nI (lgS (cdl A o k) j).2.2, nI (lgS (cdl A o k) j).2.1, nI j))
    (fun e => e = (nI (lgS (cdl A o k) 300).1, nI (lgS (cdl A o k) 300).2.2, nI (lgS (cdl A o k) 300).2.1, nI 300)) 0 300
    (fun j s _ hj hs => by
      subst hs
      obtain ⟨b1, b2, b3⟩ := lgS_le (cdl A o k) j
      show ∃ s', bX4_longestFor_42 (nI o) (nI k) σ (nI (lgS (cdl A o k) j).1) (nI (lgS (cdl A o k) j).2.2) (nI (lgS (cdl A o k) j).2.1) (nI j) = some (.inl s') ∧ _
      obtain ⟨z, g, gz⟩ := couldM h hw ho hk hk3 hj
      by_cases c : cdl A o k j
      · have z0 : z = nI 0 := by rw [gz]; exact c
        by_cases c2 : (lgS (cdl A o k) j).2.1 < (lgS (cdl A o k) j).1 + 1
        · refine ⟨(nI ((lgS (cdl A o k) j).1 + 1), nI (j + 1 - ((lgS (cdl A o k) j).1 + 1)), nI ((lgS (cdl A o k) j).1 + 1), nI (j + 1)), ?_, by rw [lgS_g c c2]⟩
          unfold bX4_longestFor_42
          simp (disch := omega) only [l300, g1, g, eq_true z0, nm, bnd_s, bnd_n, bn2_s, l0, l1, l2, l3, l4, l7, l8, l9, l16, l80, l88, l200, l300, pk_mul, nI_add, nI_sb, mx1, mn1, ax_nI, nI_cl, nI_lt', nI_le', nI_eq', if_pos, if_neg, if_true, if_false]
        · refine ⟨(nI ((lgS (cdl A o k) j).1 + 1), nI (lgS (cdl A o k) j).2.2, nI (lgS (cdl A o k) j).2.1, nI (j + 1)), ?_, by rw [lgS_l c c2]⟩
          unfold bX4_longestFor_42
          simp (disch := omega) only [l300, g1, g, eq_true z0, nm, bnd_s, bnd_n, bn2_s, l0, l1, l2, l3, l4, l7, l8, l9, l16, l80, l88, l200, l300, pk_mul, nI_add, nI_sb, mx1, mn1, ax_nI, nI_cl, nI_lt', nI_le', nI_eq', if_pos, if_neg, if_true, if_false]
      · have z0 : ¬ z = nI 0 := by rw [gz]; exact c
        refine ⟨(nI 0, nI (lgS (cdl A o k) j).2.2, nI (lgS (cdl A o k) j).2.1, nI (j + 1)), ?_, by rw [lgS_n c]⟩
        unfold bX4_longestFor_42
        simp (disch := omega) only [l300, g1, g, eq_false z0, nm, bnd_s, bnd_n, bn2_s, l0, l1, l2, l3, l4, l7, l8, l9, l16, l80, l88, l200, l300, pk_mul, nI_add, nI_sb, mx1, mn1, ax_nI, nI_cl, nI_lt', nI_le', nI_eq', if_pos, if_neg, if_true, if_false])
    (fun s hs => by
      subst hs
      refine ⟨_, ?_, rfl⟩
      show bX4_longestFor_42 _ _ _ _ _ _ (nI 300) = _
      unfold bX4_longestFor_42
      rw [if_pos (by decide)]) (nI 0, nI 0, nI 0, nI 0) (by omega) rfl (by omega)
  exact he
theorem longestFor_b (hw : WF A) (a b c : Int32) : rdr (fun σ => fX3_longestFor a b c σ σW σP κ) (fX4_longestFor a b c) A := by
  rcases own_c a with ⟨o, ho, rfl⟩ | ⟨h1, h2⟩
  · rcases lck_c b with ⟨k, hk, hk3, rfl⟩ | ⟨h1, h2⟩
    · have i1 : fX4_in (nI k) 1 3 = some (nI 1) := by rw [show fX4_in (nI k) 1 3 = _ from inM_eq (v := k) (lo := 1) (hi := 3) (by omega) (by omega) (by omega), if_pos (by omega)]
      rcases one_c c with ⟨w, hw1, rfl⟩ | ⟨h1, h2⟩
      · have i2 : fX4_in (nI w) 0 1 = some (nI 1) := by rw [show fX4_in (nI w) 0 1 = _ from inM_eq (v := w) (lo := 0) (hi := 1) (by omega) (by omega) (by omega), if_pos (by omega)]
        have c1 : ¬ nI w < 0 := nI_pos (by omega)
        have c2 : nI w ≤ 1 := (nI_leI (b := 1) (by omega) (by omega)).mpr hw1
        obtain ⟨b1, b2, b3⟩ := lgS_le (cdl A o k) 300
        refine ⟨if (lgS (cdl A o k) 300).2.1 = 0 then -6 else if w = 0 then nI (lgS (cdl A o k) 300).2.2 else nI (lgS (cdl A o k) 300).2.1, fun σ h => ?_, fun σ h => ?_⟩
        · have e := longLoopL (σW := σW) (σP := σP) (κ := κ) h hw ho hk hk3
          show fX3_longestFor _ _ _ σ σW σP κ = _
          unfold fX3_longestFor
          rw [ownerL_eq ho, bnd_s, if_neg n1_0, lockL_ok hk hk3, bnd_s, if_neg n1_0, if_neg c1, if_pos c2, show lp (fun t : (Int32 × Int32 × Int32 × Int32) => bX3_longestFor_41 (nI o) (nI k) σ σW σP κ t.1 t.2.1 t.2.2.1 t.2.2.2) FU ((0 : Int32), (0 : Int32), (-6 : Int32), (0 : Int32)) = _ from e, bnd_s]
          simp only [nm]
          by_cases q : (lgS (cdl A o k) 300).2.1 = 0
          · rw [if_pos (show nI (lgS (cdl A o k) 300).2.1 = 0 by rw [q]; rfl), if_pos q]
          · rw [if_neg (nI_ne0 (by omega) (by omega)), if_neg q, if_neg q]
            by_cases q2 : w = 0
            · rw [if_pos (show nI w = 0 by rw [q2]; rfl), if_pos q2]
            · rw [if_neg (nI_ne0 (by omega) (by omega)), if_neg q2]
        · have e := longLoopM h hw ho hk hk3
          unfold fX4_longestFor
          rw [isOwnerM_ok ho, bnd_s, if_neg n1_0, i1, bnd_s, if_neg n1_0, i2, bnd_s, if_neg n1_0, show lp (fun t : (Int32 × Int32 × Int32 × Int32) => bX4_longestFor_42 (nI o) (nI k) σ t.1 t.2.1 t.2.2.1 t.2.2.2) FU ((0 : Int32), (0 : Int32), (0 : Int32), (0 : Int32)) = _ from e, bnd_s]
          simp only [nm]
          by_cases q : (lgS (cdl A o k) 300).2.1 = 0
          · rw [if_pos (show nI (lgS (cdl A o k) 300).2.1 = 0 by rw [q]; rfl), if_pos q]
          · rw [if_neg (nI_ne0 (by omega) (by omega)), if_neg q]
            by_cases q2 : w = 0
            · rw [if_pos (show nI w = 0 by rw [q2]; rfl), if_pos q2]
            · rw [if_neg (nI_ne0 (by omega) (by omega)), if_neg q2]
      · refine ⟨-2, fun σ h => ?_, fun σ h => ?_⟩
        · show fX3_longestFor _ _ _ σ σW σP κ = _
          unfold fX3_longestFor
          rw [ownerL_eq ho, bnd_s, if_neg n1_0, lockL_ok hk hk3, bnd_s, if_neg n1_0]
          rcases h1 with q | ⟨q, q2⟩
          · rw [if_pos q]
          · rw [if_neg q, if_neg q2]
        · unfold fX4_longestFor
          rw [isOwnerM_ok ho, bnd_s, if_neg n1_0, i1, bnd_s, if_neg n1_0, h2]; rfl
    · refine ⟨-2, fun σ h => ?_, fun σ h => ?_⟩
      · show fX3_longestFor _ _ _ σ σW σP κ = _
        unfold fX3_longestFor
        rw [ownerL_eq ho, bnd_s, if_neg n1_0, h1]; rfl
      · unfold fX4_longestFor
        rw [isOwnerM_ok ho, bnd_s, if_neg n1_0, h2]; rfl
  · refine ⟨-1, fun σ h => ?_, fun σ h => ?_⟩
    · show fX3_longestFor _ _ _ σ σW σP κ = _
      unfold fX3_longestFor
      rw [h1]; rfl
    · unfold fX4_longestFor
      rw [h2]; rfl
end LG
