/-! Settings and ticks, on both sides -/
section TK
variable {σ : St} {A : AS} {N : Nat}
theorem RepL.opt (h : RepL σ A) {j : Nat} (hj : j < 3) (v : Int32) : RepL (put σ 0 (upd (σ 0) j v)) (glbA A (3 + j) v) := by
  obtain ⟨g0, g1, g2, g3, g4, g5, g6⟩ := h.1
  have key : ∀ i, i < 3 → σ 0 i = aG A (3 + i) → upd (σ 0) j v i = if 3 + i = 3 + j then v else aG A (3 + i) := by
    intro i hi hg
    by_cases c : i = j
    · subst c; rw [upd_s, if_pos rfl]
    · rw [upd_n _ _ c, if_neg (by omega), hg]
  have key2 : ∀ i, i < 3 → (if i = 3 + j then v else aG A i) = aG A i := fun i hi => if_neg (by omega)
  refine ⟨⟨?_, ?_, ?_, ?_, ?_, ?_, ?_⟩, ?_, ?_, ?_, ?_⟩
  · rw [put_n _ _ (by omega)]; exact g0.trans (key2 0 (by omega)).symm
  · rw [put_n _ _ (by omega)]; exact g1.trans (key2 1 (by omega)).symm
  · rw [put_n _ _ (by omega)]; exact g2.trans (key2 2 (by omega)).symm
  · rw [put_s]; exact key 0 (by omega) g3
  · rw [put_s]; exact key 1 (by omega) g4
  · rw [put_s]; exact key 2 (by omega) g5
  · rw [put_n _ _ (by omega)]; exact g6
  · intro i r hr
    rw [put_n _ _ (by omega), put_n _ _ (by omega), put_n _ _ (by omega), put_n _ _ (by omega), put_n _ _ (by omega)]
    exact h.2.1 i r hr
  · intro x hx hno
    rw [put_n _ _ (by omega)]
    exact h.2.2.1 x hx hno
  · intro x hx
    rw [put_n _ _ (by omega), put_n _ _ (by omega), put_n _ _ (by omega), put_n _ _ (by omega)]
    exact h.2.2.2.1 x hx
  · intro k p hk hk3 hp
    rw [put_n _ _ (by omega)]
    exact h.2.2.2.2 k p hk hk3 hp
theorem Qt.opt (hq : Qt A) {j : Nat} {v : Int32} (hc : j = 0 → (aR A).length = 0) : Qt (glbA A (3 + j) v) := by
  intro i hi hf
  by_cases c : j = 0
  · have hi : i < (aR A).length := hi
    rw [hc c] at hi
    omega
  · exact hq i hi fun x ⟨r, hr, p, a, b, c, d1, d2, d3⟩ => hf x ⟨r, hr, p, a, b, c, d1, d2, d3.imp id fun ⟨q, q2⟩ => ⟨by
      show (if 3 = 3 + j then v else aG A 3) = 1
      rw [if_neg (by omega)]
      exact q, q2⟩⟩
theorem WF.opt (h : WF A) {j v : Nat} (h0 : j ≠ 2 → v ≤ 1) (h2 : v ≤ 200) : WF (glbA A (3 + j) (nI v)) := by
  obtain ⟨a1, a2, a3, a4, a5, a6, a7⟩ := h
  have z01 : j ≠ 2 → nI v = 0 ∨ nI v = 1 := fun q => by
    rcases (show v = 0 ∨ v = 1 by have := h0 q; omega) with rfl | rfl
    · exact Or.inl rfl
    · exact Or.inr rfl
  refine ⟨a1, a2, a3, ?_, ?_, ?_, ?_⟩
  · show (if 3 = 3 + j then nI v else aG A 3) = 0 ∨ (if 3 = 3 + j then nI v else aG A 3) = 1
    by_cases c : 3 = 3 + j
    · rw [if_pos c]; exact z01 (by omega)
    · rw [if_neg c]; exact a4
  · show (if 4 = 3 + j then nI v else aG A 4) = 0 ∨ (if 4 = 3 + j then nI v else aG A 4) = 1
    by_cases c : 4 = 3 + j
    · rw [if_pos c]; exact z01 (by omega)
    · rw [if_neg c]; exact a5
  · show 0 ≤ (if 5 = 3 + j then nI v else aG A 5)
    by_cases c : 5 = 3 + j
    · rw [if_pos c]; exact nI_pos' (by omega)
    · rw [if_neg c]; exact a6
  · show (if 5 = 3 + j then nI v else aG A 5) ≤ 200
    by_cases c : 5 = 3 + j
    · rw [if_pos c]; exact (nI_leI (b := 200) (by omega) (by omega)).mpr h2
    · rw [if_neg c]; exact a7
theorem opt_nn (hw : WF A) {j : Nat} (hj : j < 3) : ¬ aG A (3 + j) < 0 := by
  obtain ⟨-, -, -, a4, a5, a6, -⟩ := hw
  rcases (show j = 0 ∨ j = 1 ∨ j = 2 by omega) with rfl | rfl | rfl
  · rcases a4 with q | q <;> (show ¬ aG A 3 < 0; rw [q]; decide)
  · rcases a5 with q | q <;> (show ¬ aG A 4 < 0; rw [q]; decide)
  · exact le_nlt a6
theorem changeL (h : RepL σ A) (hw : WF A) {j v : Nat} (hj : j < 3) (h0 : j ≠ 2 → v ≤ 1) (h2 : v ≤ 200) (hc : j = 0 → (aR A).length = 0) : fX1_change (nI j) (nI v) σ = some (σ 0 j, put σ 0 (upd (σ 0) j (nI v))) := by
  have h4 := h.1.2.2.2.2.2.2
  have hlen := hw.len
  unfold fX1_change
  rcases (show j = 0 ∨ j = 1 ∨ j = 2 by omega) with rfl | rfl | rfl
  · have := h0 (by omega)
    have h4 : σ 4 0 = nI 0 := by rw [h4, hc rfl]
    simp (disch := omega) only [h4, nm, bnd_s, bnd_n, bn2_s, l0, l1, l2, l3, l4, l7, l8, l9, l16, l80, l88, l200, l300, pk_mul, nI_add, nI_sb, mx1, mn1, ax_nI, nI_cl, nI_lt', nI_le', nI_eq', if_pos, if_neg, if_true, if_false]
  · have := h0 (by omega)
    simp (disch := omega) only [nm, bnd_s, bnd_n, bn2_s, l0, l1, l2, l3, l4, l7, l8, l9, l16, l80, l88, l200, l300, pk_mul, nI_add, nI_sb, mx1, mn1, ax_nI, nI_cl, nI_lt', nI_le', nI_eq', if_pos, if_neg, if_true, if_false]
  · simp (disch := omega) only [nm, bnd_s, bnd_n, bn2_s, l0, l1, l2, l3, l4, l7, l8, l9, l16, l80, l88, l200, l300, pk_mul, nI_add, nI_sb, mx1, mn1, ax_nI, nI_cl, nI_lt', nI_le', nI_eq', if_pos, if_neg, if_true, if_false]
theorem setM {L : List AS} (h : RepM (σ 0) A) (hw : OK A) (hH : HM σ L) {j v : Nat} (hj : j < 3) (h0 : j ≠ 2 → v ≤ 1) (h2 : v ≤ 200) (hc : j = 0 → (aR A).length = 0) : ∃ σ', fX4_set (nI j) (nI v) σ = some (aG A (3 + j), σ') ∧ RepM (σ' 0) (glbA A (3 + j) (nI v)) ∧ frK σ σ' ∧ HM σ' (pushL L A) := by
  have h4 := h.1.2.2.2.2.2.2
  have hlen := hw.1.len
  obtain ⟨s1, e1, f1, h1⟩ := keepM_eq hH h hw
  have q1 : s1 0 = σ 0 := f1 0 (by omega) (by omega) (by omega)
  have r1 : RepM (s1 0) A := by rw [q1]; exact h
  have f1' : frK σ s1 := fun c _ a b d _ _ => f1 c a b d
  obtain ⟨g0, g1, g2, g3, g4, g5, g6⟩ := r1.1
  have i1 : fX4_in (nI j) (nI 0) (nI 2) = some (nI 1) := by rw [inM_eq (by omega) (by omega) (by omega), if_pos (by omega)]
  rcases (show j = 0 ∨ j = 1 ∨ j = 2 by omega) with rfl | rfl | rfl
  · have := h0 (by omega)
    have i2 : fX4_in (nI v) (nI 0) (nI 1) = some (nI 1) := by rw [inM_eq (by omega) (by omega) (by omega), if_pos (by omega)]
    have h4 : σ 0 1 = nI 0 := by rw [h4, hc rfl]
    refine ⟨put s1 0 (upd (s1 0) 2 (nI v)), ?_, by rw [put_s]; exact r1.glb hw.1 (j := 3) (by omega) _, f1'.tr frM.put.K, h1.frM frM.put⟩
    unfold fX4_set
    simp (disch := omega) only [i1, i2, h4, e1, g3, nm, bnd_s, bnd_n, bn2_s, l0, l1, l2, l3, l4, l7, l8, l9, l16, l80, l88, l200, l300, pk_mul, nI_add, nI_sb, mx1, mn1, ax_nI, nI_cl, nI_lt', nI_le', nI_eq', if_pos, if_neg, if_true, if_false]
  · have := h0 (by omega)
    have i2 : fX4_in (nI v) (nI 0) (nI 1) = some (nI 1) := by rw [inM_eq (by omega) (by omega) (by omega), if_pos (by omega)]
    refine ⟨put s1 0 (upd (s1 0) 3 (nI v)), ?_, by rw [put_s]; exact r1.glb hw.1 (j := 4) (by omega) _, f1'.tr frM.put.K, h1.frM frM.put⟩
    unfold fX4_set
    simp (disch := omega) only [i1, i2, e1, g4, nm, bnd_s, bnd_n, bn2_s, l0, l1, l2, l3, l4, l7, l8, l9, l16, l80, l88, l200, l300, pk_mul, nI_add, nI_sb, mx1, mn1, ax_nI, nI_cl, nI_lt', nI_le', nI_eq', if_pos, if_neg, if_true, if_false]
  · have i2 : fX4_in (nI v) (nI 0) (nI 200) = some (nI 1) := by rw [inM_eq (by omega) (by omega) (by omega), if_pos (by omega)]
    refine ⟨put s1 0 (upd (s1 0) 4 (nI v)), ?_, by rw [put_s]; exact r1.glb hw.1 (j := 5) (by omega) _, f1'.tr frM.put.K, h1.frM frM.put⟩
    unfold fX4_set
    simp (disch := omega) only [i1, i2, e1, g5, nm, bnd_s, bnd_n, bn2_s, l0, l1, l2, l3, l4, l7, l8, l9, l16, l80, l88, l200, l300, pk_mul, nI_add, nI_sb, mx1, mn1, ax_nI, nI_cl, nI_lt', nI_le', nI_eq', if_pos, if_neg, if_true, if_false]
theorem set_b (hw : OK A) (hb : BD N A) (a b : Int32) : chg N true (fX1_change a b) (fX4_set a b) A := by
  have hlen := hw.1.len
  rcases pk_ix a (n := 3) (by omega) with ha | ha | ⟨j, hj, rfl⟩
  · refine chg_no (v := -2) hw hb (by decide) (fun σ h => ?_) fun σ h => ?_
    · unfold fX1_change
      rw [if_pos ha]
    · unfold fX4_set
      rw [inM_lo ha]; rfl
  · refine chg_no (v := -2) hw hb (by decide) (fun σ h => ?_) fun σ h => ?_
    · unfold fX1_change
      rw [if_neg (fun q => lt_nle (neg_lt q (n := 3) (by omega)) ha), if_neg (show ¬ a ≤ 2 from lt_nle (ge_gt (n := 2) ha (by omega)))]
    · unfold fX4_set
      rw [show fX4_in a 0 2 = some 0 from inM_hi (ge_gt (n := 2) ha (by omega))]; rfl
  · have i1 : fX4_in (nI j) 0 2 = some (nI 1) := by rw [show fX4_in (nI j) 0 2 = _ from inM_eq (v := j) (lo := 0) (hi := 2) (by omega) (by omega) (by omega), if_pos (by omega)]
    have j0 : ¬ nI j < 0 := nI_pos (by omega)
    have j2 : nI j ≤ 2 := (nI_leI (b := 2) (by omega) (by omega)).mpr (by omega)
    have m1 : ¬ (nI 1 : Int32) = 0 := by decide
    by_cases cj : j = 2
    · subst cj
      rcases pk_ix b (n := 201) (by omega) with hb' | hb' | ⟨v, hv, rfl⟩
      · refine chg_no (v := -2) hw hb (by decide) (fun σ h => ?_) fun σ h => ?_
        · unfold fX1_change
          rw [if_neg j0, if_pos j2, if_pos (show nI 2 = 2 from rfl), if_pos hb']
        · unfold fX4_set
          rw [i1, bnd_s, if_neg m1, if_pos (show nI 2 = 2 from rfl), inM_lo hb']; rfl
      · refine chg_no (v := -2) hw hb (by decide) (fun σ h => ?_) fun σ h => ?_
        · unfold fX1_change
          rw [if_neg j0, if_pos j2, if_pos (show nI 2 = 2 from rfl), if_neg (fun q => lt_nle (neg_lt q (n := 201) (by omega)) hb'), if_neg (show ¬ b ≤ 200 from lt_nle (ge_gt (n := 200) hb' (by omega)))]
        · unfold fX4_set
          rw [i1, bnd_s, if_neg m1, if_pos (show nI 2 = 2 from rfl), show fX4_in b 0 200 = some 0 from inM_hi (ge_gt (n := 200) hb' (by omega))]; rfl
      · refine ⟨aG A 5, glbA A (3 + 2) (nI v), fun σ h => ⟨_, by rw [changeL h hw.1 (j := 2) (by omega) (by omega) (by omega) (by omega), h.1.2.2.2.2.2.1], h.opt (by omega) _⟩, fun σ L h hH => ?_, ⟨hw.1.opt (by omega) (by omega), hw.2.opt (by omega)⟩, ⟨hb.1, hb.2⟩, fun q => absurd q (opt_nn hw.1 (j := 2) (by omega))⟩
        obtain ⟨s, a1, a2, a3, a4⟩ := setM h hw hH (j := 2) (v := v) (by omega) (by omega) (by omega) (by omega)
        exact ⟨s, a1, a2, a3, by rw [if_neg (opt_nn hw.1 (j := 2) (by omega))]; exact a4⟩
    · have j22 : ¬ nI j = 2 := fun q => cj ((nI_eq (b := 2) (by omega) (by omega)).mp q)
      rcases pk_ix b (n := 2) (by omega) with hb' | hb' | ⟨v, hv, rfl⟩
      · refine chg_no (v := -2) hw hb (by decide) (fun σ h => ?_) fun σ h => ?_
        · unfold fX1_change
          rw [if_neg j0, if_pos j2, if_neg j22, if_pos hb']
        · unfold fX4_set
          rw [i1, bnd_s, if_neg m1, if_neg j22, inM_lo hb']; rfl
      · refine chg_no (v := -2) hw hb (by decide) (fun σ h => ?_) fun σ h => ?_
        · unfold fX1_change
          rw [if_neg j0, if_pos j2, if_neg j22, if_neg (fun q => lt_nle (neg_lt q (n := 2) (by omega)) hb'), if_neg (show ¬ b ≤ 1 from lt_nle (ge_gt (n := 1) hb' (by omega)))]
        · unfold fX4_set
          rw [i1, bnd_s, if_neg m1, if_neg j22, show fX4_in b 0 1 = some 0 from inM_hi (ge_gt (n := 1) hb' (by omega))]; rfl
      · by_cases c0 : j = 0 ∧ (aR A).length ≠ 0
        · obtain ⟨rfl, c0⟩ := c0
          refine chg_no (v := -5) hw hb (by decide) (fun σ h => ?_) fun σ h => ?_
          · unfold fX1_change
            have h4 := h.1.2.2.2.2.2.2
            simp (disch := omega) only [h4, nm, bnd_s, bnd_n, bn2_s, l0, l1, l2, l3, l4, l7, l8, l9, l16, l80, l88, l200, l300, pk_mul, nI_add, nI_sb, mx1, mn1, ax_nI, nI_cl, nI_lt', nI_le', nI_eq', if_pos, if_neg, if_true, if_false]
          · unfold fX4_set
            have h4 := h.1.2.2.2.2.2.2
            have i2 : fX4_in (nI v) (nI 0) (nI 1) = some (nI 1) := by rw [inM_eq (by omega) (by omega) (by omega), if_pos (by omega)]
            simp (disch := omega) only [show fX4_in (nI 0) (nI 0) (nI 2) = some (nI 1) from i1, i2, h4, nm, bnd_s, bnd_n, bn2_s, l0, l1, l2, l3, l4, l7, l8, l9, l16, l80, l88, l200, l300, pk_mul, nI_add, nI_sb, mx1, mn1, ax_nI, nI_cl, nI_lt', nI_le', nI_eq', if_pos, if_neg, if_true, if_false]
        · have hc : j = 0 → (aR A).length = 0 := fun q => Classical.byContradiction fun q2 => c0 ⟨q, q2⟩
          refine ⟨aG A (3 + j), glbA A (3 + j) (nI v), fun σ h => ⟨_, by
              rw [changeL h hw.1 hj (by omega) (by omega) hc]
              have g := h.1
              rcases (show j = 0 ∨ j = 1 by omega) with rfl | rfl
              · rw [g.2.2.2.1]
              · rw [g.2.2.2.2.1], h.opt hj _⟩, fun σ L h hH => ?_, ⟨hw.1.opt (by omega) (by omega), hw.2.opt hc⟩, ⟨by
              show ∃ n, n ≤ N ∧ (if 0 = 3 + j then nI v else aG A 0) = nI n
              rw [if_neg (by omega)]
              exact hb.1, hb.2⟩, fun q => absurd q (opt_nn hw.1 hj)⟩
          obtain ⟨s, a1, a2, a3, a4⟩ := setM h hw hH (v := v) hj (by omega) (by omega) hc
          exact ⟨s, a1, a2, a3, by rw [if_neg (opt_nn hw.1 hj)]; exact a4⟩
end TK
