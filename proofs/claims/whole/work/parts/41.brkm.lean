/-! The reference: circles are broken -/
section MK
variable {σ : St} {A : AS}
theorem givesUp_eq (h : RepM (σ 0) A) (hw : WF A) {o p : Nat} (g : Int32) (ho : o < 8) (hp : p < 300) : (dsp A o p g ∧ fX4_givesUp (nI o) (nI p) g σ = some (nI 1)) ∨ (¬ dsp A o p g ∧ fX4_givesUp (nI o) (nI p) g σ = some (nI 0)) := by
  have hlen := hw.len
  have hko := lockM_eq h ho hp
  have hK := hw.1 o p ho hp
  obtain ⟨e, he, z, rfl, hz⟩ := lp_rng (b := fun t : (Int32 × Int32) => bX4_givesUp_6 (nI o) (nI p) g σ t.1 t.2)
    (fun j s => ∃ z, s = (z, nI j) ∧ ((z = nI 1 ∧ ∃ r ∈ aR A, r.1 < j ∧ r.1 ≠ o ∧ bt g r.1 = true ∧ r.2.2.1 ≤ p ∧ p < r.2.2.2.1 ∧ 4 ≤ aK A o p + r.2.1 ∧ aK A r.1 p < r.2.1) ∨ (z = nI 0 ∧ ¬ ∃ r ∈ aR A, r.1 < j ∧ r.1 ≠ o ∧ bt g r.1 = true ∧ r.2.2.1 ≤ p ∧ p < r.2.2.2.1 ∧ 4 ≤ aK A o p + r.2.1 ∧ aK A r.1 p < r.2.1)))
    (fun e => ∃ z, e = (z, nI 8) ∧ ((z = nI 1 ∧ dsp A o p g) ∨ (z = nI 0 ∧ ¬ dsp A o p g))) 0 8
    (fun j s _ hj hs => by
      obtain ⟨z, rfl, hz⟩ := hs
      show ∃ s', bX4_givesUp_6 (nI o) (nI p) g σ z (nI j) = some (.inl s') ∧ _
      have hq0 : fX4_of (nI j) (nI 0) σ = some (σ 0 (16 + 9 * j)) := ofM_eq (w := 0) hj (by omega)
      have hq1 : fX4_of (nI j) (nI 1) σ = some (σ 0 (16 + 9 * j + 1)) := ofM_eq hj (by omega)
      have hq2 : fX4_of (nI j) (nI 2) σ = some (σ 0 (16 + 9 * j + 2)) := ofM_eq hj (by omega)
      have stay : (∀ r ∈ aR A, r.1 = j → ¬ (r.1 ≠ o ∧ bt g r.1 = true ∧ r.2.2.1 ≤ p ∧ p < r.2.2.2.1 ∧ 4 ≤ aK A o p + r.2.1 ∧ aK A r.1 p < r.2.1)) → ((z ||| nI 0 = nI 1 ∧ ∃ r ∈ aR A, r.1 < j + 1 ∧ r.1 ≠ o ∧ bt g r.1 = true ∧ r.2.2.1 ≤ p ∧ p < r.2.2.2.1 ∧ 4 ≤ aK A o p + r.2.1 ∧ aK A r.1 p < r.2.1) ∨ (z ||| nI 0 = nI 0 ∧ ¬ ∃ r ∈ aR A, r.1 < j + 1 ∧ r.1 ≠ o ∧ bt g r.1 = true ∧ r.2.2.1 ≤ p ∧ p < r.2.2.2.1 ∧ 4 ≤ aK A o p + r.2.1 ∧ aK A r.1 p < r.2.1)) := fun hno => by
        rcases hz with ⟨rfl, r, hr, q1, q2⟩ | ⟨rfl, q⟩
        · exact Or.inl ⟨or10, r, hr, by omega, q2⟩
        · refine Or.inr ⟨or00, fun ⟨r, hr, q1, q2⟩ => ?_⟩
          by_cases e : r.1 = j
          · exact hno r hr e q2
          · exact q ⟨r, hr, by omega, q2⟩
      unfold bX4_givesUp_6
      by_cases c1 : j = o
      · simp (disch := omega) only [hq0, nm, bnd_s, bnd_n, bn2_s, l0, l1, l2, l3, l4, l7, l8, l9, l16, l80, l88, l200, l300, pk_mul, nI_add, nI_sb, mx1, mn1, ax_nI, nI_cl, nI_lt', nI_le', nI_eq', if_pos, if_neg, if_true, if_false]
        exact ⟨_, rfl, _, rfl, stay fun r hr e q => q.1 (e.trans c1)⟩
      · by_cases c2 : bt g j = true
        · rcases row_cases A j with ⟨i, r, hr, hej, -⟩ | hno
          · subst hej
            obtain ⟨g1, g2, g3, g4, -⟩ := h.2.1 i r hr
            obtain ⟨w1, w2, w3, w4, w5⟩ := hw.2.2.1 r (List.mem_of_getElem? hr)
            have hk2 := lockM_eq h w1 hp
            have hK2 := hw.1 r.1 p w1 hp
            have uniq : ∀ r' ∈ aR A, r'.1 = r.1 → r' = r := fun r' hr' e => by
              obtain ⟨i', hi'⟩ := List.getElem?_of_mem hr'
              have := row_inj hw hi' hr e
              subst this
              rw [hr] at hi'
              cases hi'
              rfl
            have stay' : ¬ (r.1 ≠ o ∧ bt g r.1 = true ∧ r.2.2.1 ≤ p ∧ p < r.2.2.2.1 ∧ 4 ≤ aK A o p + r.2.1 ∧ aK A r.1 p < r.2.1) → _ := fun q => stay fun r' hr' e => by rw [uniq r' hr' e]; exact q
            rw [g2] at hq0
            rw [g3] at hq1
            rw [g4] at hq2
            by_cases c3 : p < r.2.2.1
            · simp (disch := omega) only [hq0, hasM_eq hj, eq_true c2, hq1, hq2, nm, bnd_s, bnd_n, bn2_s, l0, l1, l2, l3, l4, l7, l8, l9, l16, l80, l88, l200, l300, pk_mul, nI_add, nI_sb, mx1, mn1, ax_nI, nI_cl, nI_lt', nI_le', nI_eq', if_pos, if_neg, if_true, if_false]
              exact ⟨_, rfl, _, rfl, stay' (by omega)⟩
            · by_cases c4 : r.2.2.2.1 ≤ p
              · simp (disch := omega) only [hq0, hasM_eq hj, eq_true c2, hq1, hq2, nm, bnd_s, bnd_n, bn2_s, l0, l1, l2, l3, l4, l7, l8, l9, l16, l80, l88, l200, l300, pk_mul, nI_add, nI_sb, mx1, mn1, ax_nI, nI_cl, nI_lt', nI_le', nI_eq', if_pos, if_neg, if_true, if_false]
                exact ⟨_, rfl, _, rfl, stay' (by omega)⟩
              · by_cases c6 : r.2.1 ≤ aK A r.1 p
                · simp (disch := omega) only [hq0, hasM_eq hj, eq_true c2, hq1, hq2, hk2, nm, bnd_s, bnd_n, bn2_s, l0, l1, l2, l3, l4, l7, l8, l9, l16, l80, l88, l200, l300, pk_mul, nI_add, nI_sb, mx1, mn1, ax_nI, nI_cl, nI_lt', nI_le', nI_eq', if_pos, if_neg, if_true, if_false]
                  exact ⟨_, rfl, _, rfl, stay' (by omega)⟩
                · by_cases c5 : 4 ≤ r.2.1 + aK A o p
                  · simp (disch := omega) only [hq0, hasM_eq hj, eq_true c2, hq1, hq2, hk2, hko, tog_eq w2 w3 hK, nm, bnd_s, bnd_n, bn2_s, l0, l1, l2, l3, l4, l7, l8, l9, l16, l80, l88, l200, l300, pk_mul, nI_add, nI_sb, mx1, mn1, ax_nI, nI_cl, nI_lt', nI_le', nI_eq', if_pos, if_neg, if_true, if_false]
                    refine ⟨_, rfl, _, rfl, Or.inl ⟨?_, r, List.mem_of_getElem? hr, by omega, c1, c2, by omega, by omega, by omega, by omega⟩⟩
                    rcases hz with ⟨rfl, -⟩ | ⟨rfl, -⟩
                    · exact or11
                    · exact or01
                  · simp (disch := omega) only [hq0, hasM_eq hj, eq_true c2, hq1, hq2, hk2, hko, tog_eq w2 w3 hK, nm, bnd_s, bnd_n, bn2_s, l0, l1, l2, l3, l4, l7, l8, l9, l16, l80, l88, l200, l300, pk_mul, nI_add, nI_sb, mx1, mn1, ax_nI, nI_cl, nI_lt', nI_le', nI_eq', if_pos, if_neg, if_true, if_false]
                    exact ⟨_, rfl, _, rfl, stay' (by omega)⟩
          · rw [h.2.2.1 j hj hno] at hq0
            simp (disch := omega) only [hq0, hasM_eq hj, eq_true c2, nm, bnd_s, bnd_n, bn2_s, l0, l1, l2, l3, l4, l7, l8, l9, l16, l80, l88, l200, l300, pk_mul, nI_add, nI_sb, mx1, mn1, ax_nI, nI_cl, nI_lt', nI_le', nI_eq', if_pos, if_neg, if_true, if_false]
            exact ⟨_, rfl, _, rfl, stay fun r hr e => absurd e (hno r hr)⟩
        · simp (disch := omega) only [hq0, hasM_eq hj, eq_false c2, nm, bnd_s, bnd_n, bn2_s, l0, l1, l2, l3, l4, l7, l8, l9, l16, l80, l88, l200, l300, pk_mul, nI_add, nI_sb, mx1, mn1, ax_nI, nI_cl, nI_lt', nI_le', nI_eq', if_pos, if_neg, if_true, if_false]
          exact ⟨_, rfl, _, rfl, stay fun r hr e q => c2 (by rw [← e]; exact q.2.1)⟩)
    (fun s hs => by
      obtain ⟨z, rfl, hz⟩ := hs
      show ∃ e, bX4_givesUp_6 (nI o) (nI p) g σ z (nI 8) = some (.inr e) ∧ _
      unfold bX4_givesUp_6
      simp (disch := omega) only [nm, bnd_s, bnd_n, bn2_s, l0, l1, l2, l3, l4, l7, l8, l9, l16, l80, l88, l200, l300, pk_mul, nI_add, nI_sb, mx1, mn1, ax_nI, nI_cl, nI_lt', nI_le', nI_eq', if_pos, if_neg, if_true, if_false]
      refine ⟨_, rfl, z, rfl, ?_⟩
      rcases hz with ⟨rfl, r, hr, q1, q2⟩ | ⟨rfl, q⟩
      · exact Or.inl ⟨rfl, r, hr, q2⟩
      · exact Or.inr ⟨rfl, fun ⟨r, hr, q2⟩ => q ⟨r, hr, (hw.2.2.1 r hr).1, q2⟩⟩) (nI 0, nI 0) (by omega) ⟨_, rfl, Or.inr ⟨rfl, fun ⟨r, hr, q, _⟩ => by omega⟩⟩ (by omega)
  unfold fX4_givesUp
  rcases hz with ⟨rfl, hz⟩ | ⟨rfl, hz⟩
  · left
    refine ⟨hz, ?_⟩
    rw [show lp (fun t : (Int32 × Int32) => bX4_givesUp_6 (nI o) (nI p) g σ t.1 t.2) FU ((0 : Int32), (0 : Int32)) = _ from he]
    rfl
  · right
    refine ⟨hz, ?_⟩
    rw [show lp (fun t : (Int32 × Int32) => bX4_givesUp_6 (nI o) (nI p) g σ t.1 t.2) FU ((0 : Int32), (0 : Int32)) = _ from he]
    rfl
theorem placesOf_eq (h : RepM (σ 0) A) (hw : WF A) {o : Nat} (g : Int32) (ho : o < 8) : fX4_placesOf (nI o) g σ = some (nI (dcn A o g)) := by
  obtain ⟨e, he, rfl⟩ := lp_rng (b := fun t : (Int32 × Int32) => bX4_placesOf_5 (nI o) g σ t.1 t.2)
    (fun j s => s = (nI (dcu A o g j), nI j)) (fun e => e = (nI (dcu A o g 300), nI 300)) 0 300
    (fun j s _ hj hs => by
      subst hs
      show ∃ s', bX4_placesOf_5 (nI o) g σ (nI (dcu A o g j)) (nI j) = some (.inl s') ∧ _
      have hn := dcu_le A o g j
      unfold bX4_placesOf_5
      rcases givesUp_eq h hw g ho hj with ⟨c, e⟩ | ⟨c, e⟩
      · simp (disch := omega) only [e, nm, bnd_s, bnd_n, bn2_s, l0, l1, l2, l3, l4, l7, l8, l9, l16, l80, l88, l200, l300, pk_mul, nI_add, nI_sb, mx1, mn1, ax_nI, nI_cl, nI_lt', nI_le', nI_eq', if_pos, if_neg, if_true, if_false]
        exact ⟨_, rfl, by rw [dcu_s c]⟩
      · simp (disch := omega) only [e, nm, bnd_s, bnd_n, bn2_s, l0, l1, l2, l3, l4, l7, l8, l9, l16, l80, l88, l200, l300, pk_mul, nI_add, nI_sb, mx1, mn1, ax_nI, nI_cl, nI_lt', nI_le', nI_eq', if_pos, if_neg, if_true, if_false]
        exact ⟨_, rfl, by rw [dcu_ns c, Nat.add_zero]⟩)
    (fun s hs => by
      subst hs
      show ∃ e, bX4_placesOf_5 (nI o) g σ (nI (dcu A o g 300)) (nI 300) = some (.inr e) ∧ _
      unfold bX4_placesOf_5
      simp (disch := omega) only [nm, bnd_s, bnd_n, bn2_s, l0, l1, l2, l3, l4, l7, l8, l9, l16, l80, l88, l200, l300, pk_mul, nI_add, nI_sb, mx1, mn1, ax_nI, nI_cl, nI_lt', nI_le', nI_eq', if_pos, if_neg, if_true, if_false]
      exact ⟨_, rfl, rfl⟩) (nI 0, nI 0) (by omega) rfl (by omega)
  unfold fX4_placesOf dcn
  simp (disch := omega) only [he, nm, bnd_s, bnd_n, bn2_s, l0, l1, l2, l3, l4, l7, l8, l9, l16, l80, l88, l200, l300, pk_mul, nI_add, nI_sb, mx1, mn1, ax_nI, nI_cl, nI_lt', nI_le', nI_eq', if_pos, if_neg, if_true, if_false]
theorem breakM_eq (h : RepM (σ 0) A) (hw : WF A) (g : Int32) (hex : ∃ x, x < 8 ∧ bt g x = true ∧ 0 < dcn A x g) : ∃ b σ', lh A g b ∧ fX4_breakRing g σ = some σ' ∧ frM σ σ' ∧ RepM (σ' 0) (goA (brk A b g)) := by
  have m6 : ((-6 : Int32) < nI 0) = True := eq_true (by decide)
  obtain ⟨e, he, b, hb, rfl⟩ := lp_rng (b := fun t : (Int32 × Int32 × Int32) => bX4_breakRing_8 g σ t.1 t.2.1 t.2.2)
    (fun j s => (s = (-6, nI 0, nI j) ∧ ∀ x, x < j → bt g x = true → ¬ 0 < dcn A x g) ∨ ∃ b, b < j ∧ s = (nI b, nI (dcn A b g), nI j) ∧ bt g b = true ∧ 0 < dcn A b g ∧ ∀ x, x < j → bt g x = true → 0 < dcn A x g → dcn A b g < dcn A x g ∨ (dcn A b g = dcn A x g ∧ x ≤ b))
    (fun e => ∃ b, lh A g b ∧ e = (nI b, nI (dcn A b g), nI 8)) 0 8
    (fun j s _ hj hs => by
      have hd : dcn A j g ≤ 300 := dcu_le A j g 300
      have hq := placesOf_eq h hw g hj
      rcases hs with ⟨rfl, hno⟩ | ⟨b, hbj, rfl, hb1, hb2, hb3⟩
      · show ∃ s', bX4_breakRing_8 g σ (-6) (nI 0) (nI j) = some (.inl s') ∧ _
        unfold bX4_breakRing_8
        by_cases c : bt g j = true
        · by_cases c2 : dcn A j g ≤ 0
          · simp (disch := omega) only [hasM_eq hj, eq_true c, hq, nm, bnd_s, bnd_n, bn2_s, l0, l1, l2, l3, l4, l7, l8, l9, l16, l80, l88, l200, l300, pk_mul, nI_add, nI_sb, mx1, mn1, ax_nI, nI_cl, nI_lt', nI_le', nI_eq', if_pos, if_neg, if_true, if_false]
            exact ⟨_, rfl, Or.inl ⟨rfl, fun x hx hbx => by
              by_cases e : x = j
              · subst e; omega
              · exact hno x (by omega) hbx⟩⟩
          · simp (disch := omega) only [hasM_eq hj, eq_true c, hq, m6, nm, bnd_s, bnd_n, bn2_s, l0, l1, l2, l3, l4, l7, l8, l9, l16, l80, l88, l200, l300, pk_mul, nI_add, nI_sb, mx1, mn1, ax_nI, nI_cl, nI_lt', nI_le', nI_eq', if_pos, if_neg, if_true, if_false]
            exact ⟨_, rfl, Or.inr ⟨j, by omega, rfl, c, by omega, fun x hx hbx hdx => by
              by_cases e : x = j
              · subst e; exact Or.inr ⟨rfl, Nat.le_refl _⟩
              · exact absurd hdx (hno x (by omega) hbx)⟩⟩
        · simp (disch := omega) only [hasM_eq hj, eq_false c, nm, bnd_s, bnd_n, bn2_s, l0, l1, l2, l3, l4, l7, l8, l9, l16, l80, l88, l200, l300, pk_mul, nI_add, nI_sb, mx1, mn1, ax_nI, nI_cl, nI_lt', nI_le', nI_eq', if_pos, if_neg, if_true, if_false]
          exact ⟨_, rfl, Or.inl ⟨rfl, fun x hx hbx => by
            by_cases e : x = j
            · subst e; exact absurd hbx c
            · exact hno x (by omega) hbx⟩⟩
      · show ∃ s', bX4_breakRing_8 g σ (nI b) (nI (dcn A b g)) (nI j) = some (.inl s') ∧ _
        have hn2 : dcn A b g ≤ 300 := dcu_le A b g 300
        unfold bX4_breakRing_8
        by_cases c : bt g j = true
        · by_cases c2 : dcn A j g ≤ 0
          · simp (disch := omega) only [hasM_eq hj, eq_true c, hq, nm, bnd_s, bnd_n, bn2_s, l0, l1, l2, l3, l4, l7, l8, l9, l16, l80, l88, l200, l300, pk_mul, nI_add, nI_sb, mx1, mn1, ax_nI, nI_cl, nI_lt', nI_le', nI_eq', if_pos, if_neg, if_true, if_false]
            exact ⟨_, rfl, Or.inr ⟨b, by omega, rfl, hb1, hb2, fun x hx hbx hdx => by
              by_cases e : x = j
              · subst e; omega
              · exact hb3 x (by omega) hbx hdx⟩⟩
          · by_cases c3 : dcn A b g < dcn A j g
            · simp (disch := omega) only [hasM_eq hj, eq_true c, hq, nm, bnd_s, bnd_n, bn2_s, l0, l1, l2, l3, l4, l7, l8, l9, l16, l80, l88, l200, l300, pk_mul, nI_add, nI_sb, mx1, mn1, ax_nI, nI_cl, nI_lt', nI_le', nI_eq', if_pos, if_neg, if_true, if_false]
              exact ⟨_, rfl, Or.inr ⟨b, by omega, rfl, hb1, hb2, fun x hx hbx hdx => by
                by_cases e : x = j
                · subst e; exact Or.inl c3
                · exact hb3 x (by omega) hbx hdx⟩⟩
            · simp (disch := omega) only [hasM_eq hj, eq_true c, hq, nm, bnd_s, bnd_n, bn2_s, l0, l1, l2, l3, l4, l7, l8, l9, l16, l80, l88, l200, l300, pk_mul, nI_add, nI_sb, mx1, mn1, ax_nI, nI_cl, nI_lt', nI_le', nI_eq', if_pos, if_neg, if_true, if_false]
              exact ⟨_, rfl, Or.inr ⟨j, by omega, rfl, c, by omega, fun x hx hbx hdx => by
                by_cases e : x = j
                · subst e; exact Or.inr ⟨rfl, Nat.le_refl _⟩
                · have := hb3 x (by omega) hbx hdx
                  omega⟩⟩
        · simp (disch := omega) only [hasM_eq hj, eq_false c, nm, bnd_s, bnd_n, bn2_s, l0, l1, l2, l3, l4, l7, l8, l9, l16, l80, l88, l200, l300, pk_mul, nI_add, nI_sb, mx1, mn1, ax_nI, nI_cl, nI_lt', nI_le', nI_eq', if_pos, if_neg, if_true, if_false]
          exact ⟨_, rfl, Or.inr ⟨b, by omega, rfl, hb1, hb2, fun x hx hbx hdx => by
            by_cases e : x = j
            · subst e; exact absurd hbx c
            · exact hb3 x (by omega) hbx hdx⟩⟩)
    (fun s hs => by
      rcases hs with ⟨rfl, hno⟩ | ⟨b, hbj, rfl, hb1, hb2, hb3⟩
      · obtain ⟨x, hx, hbx, hdx⟩ := hex
        exact absurd hdx (hno x hx hbx)
      · show ∃ e, bX4_breakRing_8 g σ (nI b) (nI (dcn A b g)) (nI 8) = some (.inr e) ∧ _
        unfold bX4_breakRing_8
        simp (disch := omega) only [nm, bnd_s, bnd_n, bn2_s, l0, l1, l2, l3, l4, l7, l8, l9, l16, l80, l88, l200, l300, pk_mul, nI_add, nI_sb, mx1, mn1, ax_nI, nI_cl, nI_lt', nI_le', nI_eq', if_pos, if_neg, if_true, if_false]
        exact ⟨_, rfl, b, ⟨hbj, hb1, hb2, hb3⟩, rfl⟩) ((-6 : Int32), nI 0, nI 0) (by omega) (Or.inl ⟨rfl, fun x hx => by omega⟩) (by omega)
  have hb8 := hb.1
  obtain ⟨e2, he2, s2, rfl, a2, r2⟩ := lp_rng (b := fun t : (Int32 × St) => bX4_breakRing_67 g (nI b) t.1 t.2)
    (fun j s => ∃ s', s = (nI j, s') ∧ (∀ c, c ≠ 0 → s' c = σ c) ∧ RepM (s' 0) (dropU A b g j))
    (fun e => ∃ s', e = (nI 300, s') ∧ (∀ c, c ≠ 0 → s' c = σ c) ∧ RepM (s' 0) (dropU A b g 300)) 0 300
    (fun j s _ hj hs => by
      obtain ⟨s', rfl, a, r1⟩ := hs
      show ∃ s'', bX4_breakRing_67 g (nI b) (nI j) s' = some (.inl s'') ∧ _
      have hd0 : dsp (dropU A b g j) b j g ↔ dsp A b j g := dropU_dsp
      unfold bX4_breakRing_67
      rcases givesUp_eq r1 (hw.dropU (b := b) (g := g) (n := j)) g hb8 hj with ⟨c, e⟩ | ⟨c, e⟩
      · simp (disch := omega) only [e, layLockM (σ := s') (nI 0) hb8 hj, nm, bnd_s, bnd_n, bn2_s, l0, l1, l2, l3, l4, l7, l8, l9, l16, l80, l88, l200, l300, pk_mul, nI_add, nI_sb, mx1, mn1, ax_nI, nI_cl, nI_lt', nI_le', nI_eq', if_pos, if_neg, if_true, if_false]
        refine ⟨_, rfl, _, rfl, fun c hc => by rw [put_n _ _ hc]; exact a c hc, ?_⟩
        rw [put_s, ← dropU_s (hd0.mp c)]
        refine r1.kinds (hw.dropU (b := b) (g := g) (n := j)) (fun i hi => by rw [upd_n _ _ (by omega)]) (fun x p hx hp => ?_) rfl rfl rfl
        show _ = nI (if x = b ∧ j ≤ p ∧ p < j + 1 then 0 else aK (dropU A b g j) x p)
        by_cases c : x = b ∧ p = j
        · obtain ⟨rfl, rfl⟩ := c
          rw [upd_s, if_pos (by omega)]
        · rw [upd_n _ _ (by omega), if_neg (by omega)]
          exact r1.2.2.2.2 x p hx hp
      · simp (disch := omega) only [e, nm, bnd_s, bnd_n, bn2_s, l0, l1, l2, l3, l4, l7, l8, l9, l16, l80, l88, l200, l300, pk_mul, nI_add, nI_sb, mx1, mn1, ax_nI, nI_cl, nI_lt', nI_le', nI_eq', if_pos, if_neg, if_true, if_false]
        refine ⟨_, rfl, s', rfl, a, ?_⟩
        rw [dropU_ns fun q => c (hd0.mpr q)]
        exact r1)
    (fun s hs => by
      obtain ⟨s', rfl, a, r1⟩ := hs
      show ∃ e, bX4_breakRing_67 g (nI b) (nI 300) s' = some (.inr e) ∧ _
      unfold bX4_breakRing_67
      simp (disch := omega) only [nm, bnd_s, bnd_n, bn2_s, l0, l1, l2, l3, l4, l7, l8, l9, l16, l80, l88, l200, l300, pk_mul, nI_add, nI_sb, mx1, mn1, ax_nI, nI_cl, nI_lt', nI_le', nI_eq', if_pos, if_neg, if_true, if_false]
      exact ⟨_, rfl, s', rfl, a, r1⟩) (nI 0, σ) (by omega) ⟨σ, rfl, fun _ _ => rfl, by rw [dropU_0]; exact h⟩ (by omega)
  have r3 := r2.cnt (hw.dropU (b := b) (g := g) (n := 300)) hb8 (j := 2) (by omega) (nI (dcn A b g))
  obtain ⟨s3, hs3⟩ : ∃ s3, s3 = put s2 0 (upd (s2 0) (16 + 9 * b + 6) (s2 0 (16 + 9 * b + 6) + nI (dcn A b g))) := ⟨_, rfl⟩
  have r3 : RepM (s3 0) (cntA (dropU A b g 300) b 2 (nI (dcn A b g))) := by rw [hs3, put_s]; exact r3
  have w3 : WF (cntA (dropU A b g 300) b 2 (nI (dcn A b g))) := hw.dropU (b := b) (g := g) (n := 300)
  have g6 : s3 0 6 = aG A 2 := r3.1.2.2.1
  have r4 := r3.glb w3 (j := 2) (by omega) (aG A 2 + 1)
  obtain ⟨s4, hs4⟩ : ∃ s4, s4 = put s3 0 (upd (s3 0) 6 (aG A 2 + 1)) := ⟨_, rfl⟩
  have r4 : RepM (s4 0) (brk A b g) := by rw [hs4, put_s]; exact r4
  obtain ⟨s5, e5, f5, r5⟩ := goM_eq r4 hw.brk
  refine ⟨b, s5, hb, ?_, ?_, r5⟩
  · unfold fX4_breakRing
    rw [show lp (fun t : (Int32 × Int32 × Int32) => bX4_breakRing_8 g σ t.1 t.2.1 t.2.2) FU ((-6 : Int32), (0 : Int32), (0 : Int32)) = _ from he]
    simp only [bnd_s, nm]
    rw [show lp (fun t : (Int32 × St) => bX4_breakRing_67 g (nI b) t.1 t.2) FU ((0 : Int32), σ) = _ from he2]
    have hmo := moreM (σ := s2) (nI (dcn A b g)) hb8 (show 6 < 9 by omega)
    rw [← hs3] at hmo
    simp only [bnd_s]
    rw [show fX4_more (nI b) (6 : Int32) (nI (dcn A b g)) s2 = _ from hmo]
    have i6 : ∀ {β : Type} (k : Option β), ax (6 : Int32) 2488 k = k := fun k => ax_nI (j := 6) (by omega) (by omega)
    simp only [bnd_s, i6]
    have c6 : (6 : Int32).toNatClampNeg = 6 := by decide
    rw [c6, g6, ← hs4, e5]
    rfl
  · refine frM.tr ?_ f5
    rw [hs4, hs3]
    intro c h0 _ _
    rw [put_n _ _ h0, put_n _ _ h0]
    exact a2 c h0
end MK
