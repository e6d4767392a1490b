/-! Runs of places that could be locked, on both sides -/
/-- the run of places with P that ends before j, counted from p0 on -/
noncomputable def rn (P : Nat → Prop) (p0 : Nat) : Nat → Nat
  | 0 => 0
  | j + 1 => if j + 1 ≤ p0 then 0 else @ite _ (P j) (Classical.propDecidable _) (rn P p0 j + 1) 0
theorem rn_le (P : Nat → Prop) (p0 : Nat) : ∀ j, rn P p0 j ≤ j
  | 0 => Nat.le_refl _
  | j + 1 => by
    have := rn_le P p0 j
    rw [rn]
    split
    · omega
    · split <;> omega
theorem rn_p {P : Nat → Prop} {p0 j : Nat} (h : p0 ≤ j) (hP : P j) : rn P p0 (j + 1) = rn P p0 j + 1 := by rw [rn, if_neg (by omega), if_pos hP]
theorem rn_n {P : Nat → Prop} {p0 j : Nat} (h : p0 ≤ j) (hP : ¬ P j) : rn P p0 (j + 1) = 0 := by rw [rn, if_neg (by omega), if_neg hP]
theorem rn_0 (P : Nat → Prop) : ∀ p0, rn P p0 p0 = 0
  | 0 => rfl
  | p + 1 => by rw [rn, if_pos (by omega)]
/-- where the first run of length n ends -/
def ffZ (P : Nat → Prop) (p0 n : Nat) (z : Int32) : Prop := (∃ j, p0 ≤ j ∧ j < 300 ∧ rn P p0 (j + 1) = n ∧ (∀ i, p0 ≤ i → i < j → rn P p0 (i + 1) ≠ n) ∧ z = nI (j + 1 - n)) ∨ ((∀ i, p0 ≤ i → i < 300 → rn P p0 (i + 1) ≠ n) ∧ z = -6)
theorem ffZ_u {P : Nat → Prop} {p0 n : Nat} (a b : Int32) (h : ffZ P p0 n a) (h' : ffZ P p0 n b) : a = b := by
  rcases h with ⟨j, j1, j2, j3, j4, rfl⟩ | ⟨j1, rfl⟩
  · rcases h' with ⟨i, i1, i2, i3, i4, rfl⟩ | ⟨i1, rfl⟩
    · rcases Nat.lt_trichotomy i j with q | q | q
      · exact absurd i3 (j4 i i1 q)
      · rw [q]
      · exact absurd j3 (i4 j j1 q)
    · exact absurd j3 (i1 j j1 j2)
  · rcases h' with ⟨i, i1, i2, i3, i4, rfl⟩ | ⟨i1, rfl⟩
    · exact absurd i3 (j1 i i1 i2)
    · rfl
theorem ff_loop {b : (Int32 × Int32) → Option ((Int32 × Int32) ⊕ ((Int32 × Int32) ⊕ Int32))} (P : Nat → Prop) {p0 n : Nat} (hn : 1 ≤ n) (hn3 : n ≤ 300) (hp : p0 ≤ 300)
    (h1 : ∀ j r, j < 300 → r ≤ j → P j → b (nI r, nI j) = if r + 1 = n then some (.inr (.inr (nI (j + 1 - n)))) else some (.inl (nI (r + 1), nI (j + 1))))
    (h0 : ∀ j r, j < 300 → r ≤ j → ¬ P j → b (nI r, nI j) = some (.inl (nI 0, nI (j + 1)))) (hx : ∀ r, r ≤ 300 → b (nI r, nI 300) = some (.inr (.inl (nI r, nI 300)))) :
    ∃ e, lp b FU (nI 0, nI p0) = some e ∧ ∃ z, (e = .inr z ∨ (z = -6 ∧ ∃ y, e = .inl y)) ∧ ffZ P p0 n z := by
  obtain ⟨e, he, z, hz⟩ := lp_rngB (b := b) (fun j s => p0 ≤ j ∧ s = (nI (rn P p0 j), nI j) ∧ ∀ i, p0 ≤ i → i < j → rn P p0 (i + 1) ≠ n)
    (fun e => ∃ z, (e = .inr z ∨ (z = -6 ∧ ∃ y, e = .inl y)) ∧ ffZ P p0 n z) p0 300
    (fun j s _ hj hs => by
      obtain ⟨hpj, rfl, hno⟩ := hs
      have hr := rn_le P p0 j
      by_cases c : P j
      · have e := h1 j (rn P p0 j) hj hr c
        by_cases c2 : rn P p0 j + 1 = n
        · right
          rw [if_pos c2] at e
          exact ⟨_, e, _, Or.inl rfl, Or.inl ⟨j, hpj, hj, by rw [rn_p hpj c, c2], hno, rfl⟩⟩
        · left
          rw [if_neg c2] at e
          refine ⟨_, e, by omega, by rw [rn_p hpj c], fun i hi hij => ?_⟩
          by_cases q : i = j
          · subst q; rw [rn_p hpj c]; exact c2
          · exact hno i hi (by omega)
      · left
        refine ⟨_, h0 j _ hj hr c, by omega, by rw [rn_n hpj c], fun i hi hij => ?_⟩
        by_cases q : i = j
        · subst q; rw [rn_n hpj c]; omega
        · exact hno i hi (by omega))
    (fun s hs => by
      obtain ⟨hpj, rfl, hno⟩ := hs
      exact ⟨_, hx _ (rn_le P p0 300), -6, Or.inr ⟨rfl, _, rfl⟩, Or.inr ⟨hno, rfl⟩⟩) (nI 0, nI p0) hp ⟨Nat.le_refl _, by rw [rn_0], fun i hi hij => by omega⟩ (by omega)
  exact ⟨e, he, z, hz⟩
section RU
variable {A : AS} {σ : St} {σW σP κ : St}
theorem firstFor_b (hw : WF A) (a b c d : Int32) : rdr (fun σ => fX3_firstFor a b c d σ σW σP κ) (fX4_firstFor a b c d) A := by
  rcases own_c a with ⟨o, ho, rfl⟩ | ⟨h1, h2⟩
  · rcases lck_c b with ⟨k, hk, hk3, rfl⟩ | ⟨h1, h2⟩
    · have i1 : fX4_in (nI k) 1 3 = some (nI 1) := by rw [show fX4_in (nI k) 1 3 = _ from inM_eq (v := k) (lo := 1) (hi := 3) (by omega) (by omega) (by omega), if_pos (by omega)]
      by_cases hc : ∃ n, 1 ≤ n ∧ n ≤ 300 ∧ c = nI n
      · obtain ⟨n, hn, hn3, rfl⟩ := hc
        have i2 : fX4_in (nI n) 1 300 = some (nI 1) := by rw [show fX4_in (nI n) 1 300 = _ from inM_eq (v := n) (lo := 1) (hi := 300) (by omega) (by omega) (by omega), if_pos (by omega)]
        have c1 : ¬ nI n < 1 := fun q => absurd ((nI_ltI (b := 1) (by omega) (by omega)).mp q) (by omega)
        have c2 : ¬ 300 < nI n := fun q => absurd ((nI_ltI (a := 300) (by omega) (by omega)).mp q) (by omega)
        rcases plc_c d with ⟨p, hp, rfl⟩ | ⟨h1, h2⟩
        · refine rdr_u (ffZ (cdl A o k) p n) ffZ_u (fun σ h => ?_) fun σ h => ?_
          · obtain ⟨e, he, z, hz, hf⟩ := ff_loop (b := fun t : (Int32 × Int32) => bX3_firstFor_46 (nI o) (nI k) (nI n) σ σW σP κ t.1 t.2) (cdl A o k) (p0 := p) hn hn3 (by omega)
              (fun j r hj hr hP => by
                show bX3_firstFor_46 (nI o) (nI k) (nI n) σ σW σP κ (nI r) (nI j) = _
                have g := (couldL (σW := σW) (σP := σP) (κ := κ) h hw ho hk hk3 hj).1 hP
                unfold bX3_firstFor_46
                by_cases q : r + 1 = n
                · simp (disch := omega) only [l300, g, q, nm, bnd_s, bnd_n, bn2_s, l0, l1, l2, l3, l4, l7, l8, l9, l16, l80, l88, l200, l300, pk_mul, nI_add, nI_sb, mx1, mn1, ax_nI, nI_cl, nI_lt', nI_le', nI_eq', if_pos, if_neg, if_true, if_false]
                · simp (disch := omega) only [l300, g, nm, bnd_s, bnd_n, bn2_s, l0, l1, l2, l3, l4, l7, l8, l9, l16, l80, l88, l200, l300, pk_mul, nI_add, nI_sb, mx1, mn1, ax_nI, nI_cl, nI_lt', nI_le', nI_eq', if_pos, if_neg, if_true, if_false])
              (fun j r hj hr hP => by
                show bX3_firstFor_46 (nI o) (nI k) (nI n) σ σW σP κ (nI r) (nI j) = _
                have g := (couldL (σW := σW) (σP := σP) (κ := κ) h hw ho hk hk3 hj).2 hP
                unfold bX3_firstFor_46
                simp (disch := omega) only [l300, g, nm, bnd_s, bnd_n, bn2_s, l0, l1, l2, l3, l4, l7, l8, l9, l16, l80, l88, l200, l300, pk_mul, nI_add, nI_sb, mx1, mn1, ax_nI, nI_cl, nI_lt', nI_le', nI_eq', if_pos, if_neg, if_true, if_false])
              (fun r hr => by
                show bX3_firstFor_46 (nI o) (nI k) (nI n) σ σW σP κ (nI r) (nI 300) = _
                unfold bX3_firstFor_46
                simp (disch := omega) only [l300, nm, bnd_s, bnd_n, bn2_s, l0, l1, l2, l3, l4, l7, l8, l9, l16, l80, l88, l200, l300, pk_mul, nI_add, nI_sb, mx1, mn1, ax_nI, nI_cl, nI_lt', nI_le', nI_eq', if_pos, if_neg, if_true, if_false])
            refine ⟨z, ?_, hf⟩
            show fX3_firstFor _ _ _ _ σ σW σP κ = _
            unfold fX3_firstFor
            rw [ownerL_eq ho, bnd_s, if_neg n1_0, lockL_ok hk hk3, bnd_s, if_neg n1_0, if_neg c1, if_neg c2, placeL_ok hp, bnd_s, if_neg n1_0, show lp (fun t : (Int32 × Int32) => bX3_firstFor_46 (nI o) (nI k) (nI n) σ σW σP κ t.1 t.2) FU ((0 : Int32), nI p) = _ from he, bnd_s]
            rcases hz with rfl | ⟨rfl, y, rfl⟩ <;> rfl
          · have g1 : σ 0 1 = nI (aR A).length := h.1.2.2.2.2.2.2
            obtain ⟨e, he, z, hz, hf⟩ := ff_loop (b := fun t : (Int32 × Int32) => bX4_firstFor_51 (nI o) (nI k) (nI n) σ t.1 t.2) (cdl A o k) (p0 := p) hn hn3 (by omega)
              (fun j r hj hr hP => by
                show bX4_firstFor_51 (nI o) (nI k) (nI n) σ (nI r) (nI j) = _
                obtain ⟨z, g, gz⟩ := couldM h hw ho hk hk3 hj
                have z0 : z = nI 0 := by rw [gz]; exact hP
                unfold bX4_firstFor_51
                by_cases q : r + 1 = n
                · simp (disch := omega) only [l300, g1, g, eq_true z0, q, nm, bnd_s, bnd_n, bn2_s, l0, l1, l2, l3, l4, l7, l8, l9, l16, l80, l88, l200, l300, pk_mul, nI_add, nI_sb, mx1, mn1, ax_nI, nI_cl, nI_lt', nI_le', nI_eq', if_pos, if_neg, if_true, if_false]
                · simp (disch := omega) only [l300, g1, g, eq_true z0, nm, bnd_s, bnd_n, bn2_s, l0, l1, l2, l3, l4, l7, l8, l9, l16, l80, l88, l200, l300, pk_mul, nI_add, nI_sb, mx1, mn1, ax_nI, nI_cl, nI_lt', nI_le', nI_eq', if_pos, if_neg, if_true, if_false])
              (fun j r hj hr hP => by
                show bX4_firstFor_51 (nI o) (nI k) (nI n) σ (nI r) (nI j) = _
                obtain ⟨z, g, gz⟩ := couldM h hw ho hk hk3 hj
                have z0 : ¬ z = nI 0 := by rw [gz]; exact hP
                unfold bX4_firstFor_51
                simp (disch := omega) only [l300, g1, g, eq_false z0, nm, bnd_s, bnd_n, bn2_s, l0, l1, l2, l3, l4, l7, l8, l9, l16, l80, l88, l200, l300, pk_mul, nI_add, nI_sb, mx1, mn1, ax_nI, nI_cl, nI_lt', nI_le', nI_eq', if_pos, if_neg, if_true, if_false])
              (fun r hr => by
                show bX4_firstFor_51 (nI o) (nI k) (nI n) σ (nI r) (nI 300) = _
                unfold bX4_firstFor_51
                simp (disch := omega) only [l300, nm, bnd_s, bnd_n, bn2_s, l0, l1, l2, l3, l4, l7, l8, l9, l16, l80, l88, l200, l300, pk_mul, nI_add, nI_sb, mx1, mn1, ax_nI, nI_cl, nI_lt', nI_le', nI_eq', if_pos, if_neg, if_true, if_false])
            refine ⟨z, ?_, hf⟩
            unfold fX4_firstFor
            rw [isOwnerM_ok ho, bnd_s, if_neg n1_0, i1, bnd_s, if_neg n1_0, i2, bnd_s, if_neg n1_0, placeM_ok hp, bnd_s, if_neg n1_0, show lp (fun t : (Int32 × Int32) => bX4_firstFor_51 (nI o) (nI k) (nI n) σ t.1 t.2) FU ((0 : Int32), nI p) = _ from he, bnd_s]
            rcases hz with rfl | ⟨rfl, y, rfl⟩ <;> rfl
        · refine ⟨-2, fun σ h => ?_, fun σ h => ?_⟩
          · show fX3_firstFor _ _ _ _ σ σW σP κ = _
            unfold fX3_firstFor
            rw [ownerL_eq ho, bnd_s, if_neg n1_0, lockL_ok hk hk3, bnd_s, if_neg n1_0, if_neg c1, if_neg c2, h1]; rfl
          · unfold fX4_firstFor
            rw [isOwnerM_ok ho, bnd_s, if_neg n1_0, i1, bnd_s, if_neg n1_0, i2, bnd_s, if_neg n1_0, h2]; rfl
      · have hc' : c < 1 ∨ (¬ c < 1 ∧ 300 < c) := by
          rcases pk_ix c (n := 301) (by omega) with q | q | ⟨n, hn, rfl⟩
          · exact Or.inl (neg_lt q (n := 1) (by omega))
          · have := ge_gt (n := 300) q (by omega)
            refine Or.inr ⟨fun q2 => ?_, this⟩
            rw [Int32.lt_iff_toInt_lt] at q2
            rw [Int32.lt_iff_toInt_lt, nI_toInt (by omega)] at this
            have : (1 : Int32).toInt = 1 := rfl
            omega
          · refine Or.inl ((nI_ltI (b := 1) (by omega) (by omega)).mpr ?_)
            rcases Nat.lt_or_ge n 1 with g | g
            · exact g
            · exact absurd ⟨n, g, by omega, rfl⟩ hc
        refine ⟨-2, fun σ h => ?_, fun σ h => ?_⟩
        · show fX3_firstFor _ _ _ _ σ σW σP κ = _
          unfold fX3_firstFor
          rw [ownerL_eq ho, bnd_s, if_neg n1_0, lockL_ok hk hk3, bnd_s, if_neg n1_0]
          rcases hc' with q | ⟨q, q2⟩
          · rw [if_pos q]
          · rw [if_neg q, if_pos q2]
        · have : fX4_in c 1 300 = some 0 := by
            rcases hc' with q | ⟨q, q2⟩
            · exact inM_lo q
            · exact inM_hi q2
          unfold fX4_firstFor
          rw [isOwnerM_ok ho, bnd_s, if_neg n1_0, i1, bnd_s, if_neg n1_0, this]; rfl
    · refine ⟨-2, fun σ h => ?_, fun σ h => ?_⟩
      · show fX3_firstFor _ _ _ _ σ σW σP κ = _
        unfold fX3_firstFor
        rw [ownerL_eq ho, bnd_s, if_neg n1_0, h1]; rfl
      · unfold fX4_firstFor
        rw [isOwnerM_ok ho, bnd_s, if_neg n1_0, h2]; rfl
  · refine ⟨-1, fun σ h => ?_, fun σ h => ?_⟩
    · show fX3_firstFor _ _ _ _ σ σW σP κ = _
      unfold fX3_firstFor
      rw [h1]; rfl
    · unfold fX4_firstFor
      rw [h2]; rfl
end RU
