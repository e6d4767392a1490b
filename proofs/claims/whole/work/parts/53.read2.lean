/-! Questions about an owner, on both sides -/
theorem cnt_mono {P : Nat → Prop} [DecidablePred P] : ∀ {m n : Nat}, m ≤ n → cnt P m ≤ cnt P n
  | m, 0, h => by rw [show m = 0 by omega]; exact Nat.le_refl _
  | m, n + 1, h => by
    by_cases e : m = n + 1
    · rw [e]; exact Nat.le_refl _
    · have := cnt_mono (P := P) (show m ≤ n by omega)
      rw [cnt]
      omega
theorem cnt_find {P : Nat → Prop} [DecidablePred P] {k : Nat} : ∀ {n : Nat}, k < cnt P n → ∃ p, p < n ∧ P p ∧ cnt P p = k
  | 0, h => by rw [cnt] at h; omega
  | n + 1, h => by
    by_cases c : k < cnt P n
    · obtain ⟨p, a, b, d⟩ := cnt_find c
      exact ⟨p, by omega, b, d⟩
    · by_cases q : P n
      · rw [cnt_s q] at h
        exact ⟨n, by omega, q, by omega⟩
      · rw [cnt_ns q] at h
        omega
theorem cnt_uniq {P : Nat → Prop} [DecidablePred P] {p q : Nat} (hp : P p) (hq : P q) (e : cnt P p = cnt P q) : p = q := by
  rcases Nat.lt_trichotomy p q with h | h | h
  · have := cnt_mono (P := P) (show p + 1 ≤ q by omega)
    rw [cnt_s hp] at this; omega
  · exact h
  · have := cnt_mono (P := P) (show q + 1 ≤ p by omega)
    rw [cnt_s hq] at this; omega
theorem rdr_u {A : AS} {cl rf : St → Option Int32} (P : Int32 → Prop) (hu : ∀ a b, P a → P b → a = b) (h1 : ∀ σ, RepL σ A → ∃ z, cl σ = some z ∧ P z) (h2 : ∀ σ, RepM (σ 0) A → ∃ z, rf σ = some z ∧ P z) : rdr cl rf A := by
  by_cases c : ∃ z, P z
  · obtain ⟨z, hz⟩ := c
    refine ⟨z, fun σ h => ?_, fun σ h => ?_⟩
    · obtain ⟨y, e, hy⟩ := h1 σ h
      rw [e, hu y z hy hz]
    · obtain ⟨y, e, hy⟩ := h2 σ h
      rw [e, hu y z hy hz]
  · exact ⟨0, fun σ h => by obtain ⟨y, -, hy⟩ := h1 σ h; exact absurd ⟨y, hy⟩ c, fun σ h => by obtain ⟨y, -, hy⟩ := h2 σ h; exact absurd ⟨y, hy⟩ c⟩
abbrev isSt (A : AS) (o p : Nat) : Prop := aK A o p ≠ 0 ∧ (p = 0 ∨ aK A o (p - 1) ≠ aK A o p)
section OW
variable {A : AS} {σ : St} {σW σP κ : St}
theorem placesL (h : RepL σ A) (hw : WF A) {o k : Nat} (ho : o < 8) (hk : k ≤ 3) : fX1_placesOf (nI o) (nI k) σ = some (nI (cnt (fun p => aK A o p = k) 300)) := by
  have e := cnt_loop (b := fun t : (Int32 × Int32) => bX1_placesOf_5 (nI o) (nI k) σ t.1 t.2) (fun p => aK A o p = k) (n := 300) (by omega)
    (fun j c hj hc hP => by
      have := hw.1 o j ho hj
      show bX1_placesOf_5 (nI o) (nI k) σ (nI c) (nI j) = _
      unfold bX1_placesOf_5
      simp (disch := omega) only [l300, kindAt_eq h hw ho hj, nm, bnd_s, bnd_n, bn2_s, l0, l1, l2, l3, l4, l7, l8, l9, l16, l80, l88, l200, l300, pk_mul, nI_add, nI_sb, mx1, mn1, ax_nI, nI_cl, nI_lt', nI_le', nI_eq', if_pos, if_neg, if_true, if_false])
    (fun j c hj hc hP => by
      have := hw.1 o j ho hj
      show bX1_placesOf_5 (nI o) (nI k) σ (nI c) (nI j) = _
      unfold bX1_placesOf_5
      simp (disch := omega) only [l300, kindAt_eq h hw ho hj, nm, bnd_s, bnd_n, bn2_s, l0, l1, l2, l3, l4, l7, l8, l9, l16, l80, l88, l200, l300, pk_mul, nI_add, nI_sb, mx1, mn1, ax_nI, nI_cl, nI_lt', nI_le', nI_eq', if_pos, if_neg, if_true, if_false])
    (fun c => by
      show bX1_placesOf_5 (nI o) (nI k) σ (nI c) (nI 300) = _
      unfold bX1_placesOf_5
      simp (disch := omega) only [l300, nm, bnd_s, bnd_n, bn2_s, l0, l1, l2, l3, l4, l7, l8, l9, l16, l80, l88, l200, l300, pk_mul, nI_add, nI_sb, mx1, mn1, ax_nI, nI_cl, nI_lt', nI_le', nI_eq', if_pos, if_neg, if_true, if_false])
  unfold fX1_placesOf
  rw [show lp (fun t : (Int32 × Int32) => bX1_placesOf_5 (nI o) (nI k) σ t.1 t.2) FU ((0 : Int32), (0 : Int32)) = _ from e]
  rfl
theorem placesM (h : RepM (σ 0) A) (hw : WF A) {o k : Nat} (ho : o < 8) (hk : k ≤ 3) : fX4_placesOfKind (nI o) (nI k) σ = some (nI (cnt (fun p => aK A o p = k) 300)) := by
  have e := cnt_loop (b := fun t : (Int32 × Int32) => bX4_placesOfKind_5 (nI o) (nI k) σ t.1 t.2) (fun p => aK A o p = k) (n := 300) (by omega)
    (fun j c hj hc hP => by
      have := hw.1 o j ho hj
      show bX4_placesOfKind_5 (nI o) (nI k) σ (nI c) (nI j) = _
      unfold bX4_placesOfKind_5
      simp (disch := omega) only [l300, lockM_eq h ho hj, nm, bnd_s, bnd_n, bn2_s, l0, l1, l2, l3, l4, l7, l8, l9, l16, l80, l88, l200, l300, pk_mul, nI_add, nI_sb, mx1, mn1, ax_nI, nI_cl, nI_lt', nI_le', nI_eq', if_pos, if_neg, if_true, if_false])
    (fun j c hj hc hP => by
      have := hw.1 o j ho hj
      show bX4_placesOfKind_5 (nI o) (nI k) σ (nI c) (nI j) = _
      unfold bX4_placesOfKind_5
      simp (disch := omega) only [l300, lockM_eq h ho hj, nm, bnd_s, bnd_n, bn2_s, l0, l1, l2, l3, l4, l7, l8, l9, l16, l80, l88, l200, l300, pk_mul, nI_add, nI_sb, mx1, mn1, ax_nI, nI_cl, nI_lt', nI_le', nI_eq', if_pos, if_neg, if_true, if_false]
      rfl)
    (fun c => by
      show bX4_placesOfKind_5 (nI o) (nI k) σ (nI c) (nI 300) = _
      unfold bX4_placesOfKind_5
      simp (disch := omega) only [l300, nm, bnd_s, bnd_n, bn2_s, l0, l1, l2, l3, l4, l7, l8, l9, l16, l80, l88, l200, l300, pk_mul, nI_add, nI_sb, mx1, mn1, ax_nI, nI_cl, nI_lt', nI_le', nI_eq', if_pos, if_neg, if_true, if_false])
  unfold fX4_placesOfKind
  rw [show lp (fun t : (Int32 × Int32) => bX4_placesOfKind_5 (nI o) (nI k) σ t.1 t.2) FU ((0 : Int32), (0 : Int32)) = _ from e]
  rfl
theorem startL_eq (h : RepL σ A) (hw : WF A) {o p : Nat} (ho : o < 8) (hp : p < 300) : fX1_isStart (nI o) (nI p) σ = some (if isSt A o p then nI 1 else nI 0) := by
  have k0 := hw.1 o p ho hp
  unfold fX1_isStart
  by_cases c0 : aK A o p = 0
  · rw [show (if isSt A o p then (nI 1 : Int32) else nI 0) = nI 0 from if_neg (fun q => q.1 c0)]
    simp (disch := omega) only [kindAt_eq h hw ho hp, c0, nm, bnd_s, bnd_n, bn2_s, l0, l1, l2, l3, l4, l7, l8, l9, l16, l80, l88, l200, l300, pk_mul, nI_add, nI_sb, mx1, mn1, ax_nI, nI_cl, nI_lt', nI_le', nI_eq', if_pos, if_neg, if_true, if_false]
  · by_cases c1 : p = 0
    · rw [show (if isSt A o p then (nI 1 : Int32) else nI 0) = nI 1 from if_pos ⟨c0, Or.inl c1⟩]
      simp (disch := omega) only [kindAt_eq h hw ho hp, nm, bnd_s, bnd_n, bn2_s, l0, l1, l2, l3, l4, l7, l8, l9, l16, l80, l88, l200, l300, pk_mul, nI_add, nI_sb, mx1, mn1, ax_nI, nI_cl, nI_lt', nI_le', nI_eq', if_pos, if_neg, if_true, if_false]
    · have k1 := hw.1 o (p - 1) ho (by omega)
      by_cases c2 : aK A o (p - 1) = aK A o p
      · rw [show (if isSt A o p then (nI 1 : Int32) else nI 0) = nI 0 from if_neg (fun q => q.2.elim c1 fun q => q c2)]
        simp (disch := omega) only [kindAt_eq h hw ho hp, kindAt_eq h hw ho (show p - 1 < 300 by omega), c2, nm, bnd_s, bnd_n, bn2_s, l0, l1, l2, l3, l4, l7, l8, l9, l16, l80, l88, l200, l300, pk_mul, nI_add, nI_sb, mx1, mn1, ax_nI, nI_cl, nI_lt', nI_le', nI_eq', if_pos, if_neg, if_true, if_false]
      · rw [show (if isSt A o p then (nI 1 : Int32) else nI 0) = nI 1 from if_pos ⟨c0, Or.inr c2⟩]
        simp (disch := omega) only [kindAt_eq h hw ho hp, kindAt_eq h hw ho (show p - 1 < 300 by omega), nm, bnd_s, bnd_n, bn2_s, l0, l1, l2, l3, l4, l7, l8, l9, l16, l80, l88, l200, l300, pk_mul, nI_add, nI_sb, mx1, mn1, ax_nI, nI_cl, nI_lt', nI_le', nI_eq', if_pos, if_neg, if_true, if_false]
theorem beginM_eq (h : RepM (σ 0) A) (hw : WF A) {o p : Nat} (ho : o < 8) (hp : p < 300) : fX4_begins (nI o) (nI p) σ = some (if isSt A o p then nI 1 else nI 0) := by
  have k0 := hw.1 o p ho hp
  unfold fX4_begins
  by_cases c0 : aK A o p = 0
  · rw [show (if isSt A o p then (nI 1 : Int32) else nI 0) = nI 0 from if_neg (fun q => q.1 c0)]
    simp (disch := omega) only [lockM_eq h ho hp, c0, nm, bnd_s, bnd_n, bn2_s, l0, l1, l2, l3, l4, l7, l8, l9, l16, l80, l88, l200, l300, pk_mul, nI_add, nI_sb, mx1, mn1, ax_nI, nI_cl, nI_lt', nI_le', nI_eq', if_pos, if_neg, if_true, if_false]
  · by_cases c1 : p = 0
    · rw [show (if isSt A o p then (nI 1 : Int32) else nI 0) = nI 1 from if_pos ⟨c0, Or.inl c1⟩]
      simp (disch := omega) only [lockM_eq h ho hp, nm, bnd_s, bnd_n, bn2_s, l0, l1, l2, l3, l4, l7, l8, l9, l16, l80, l88, l200, l300, pk_mul, nI_add, nI_sb, mx1, mn1, ax_nI, nI_cl, nI_lt', nI_le', nI_eq', if_pos, if_neg, if_true, if_false]
    · have k1 := hw.1 o (p - 1) ho (by omega)
      by_cases c2 : aK A o (p - 1) = aK A o p
      · rw [show (if isSt A o p then (nI 1 : Int32) else nI 0) = nI 0 from if_neg (fun q => q.2.elim c1 fun q => q c2)]
        simp (disch := omega) only [lockM_eq h ho hp, lockM_eq h ho (show p - 1 < 300 by omega), c2, nm, bnd_s, bnd_n, bn2_s, l0, l1, l2, l3, l4, l7, l8, l9, l16, l80, l88, l200, l300, pk_mul, nI_add, nI_sb, mx1, mn1, ax_nI, nI_cl, nI_lt', nI_le', nI_eq', if_pos, if_neg, if_true, if_false]
      · rw [show (if isSt A o p then (nI 1 : Int32) else nI 0) = nI 1 from if_pos ⟨c0, Or.inr c2⟩]
        simp (disch := omega) only [lockM_eq h ho hp, lockM_eq h ho (show p - 1 < 300 by omega), nm, bnd_s, bnd_n, bn2_s, l0, l1, l2, l3, l4, l7, l8, l9, l16, l80, l88, l200, l300, pk_mul, nI_add, nI_sb, mx1, mn1, ax_nI, nI_cl, nI_lt', nI_le', nI_eq', if_pos, if_neg, if_true, if_false]
theorem stretchesL (h : RepL σ A) (hw : WF A) {o : Nat} (ho : o < 8) : fX1_stretchesOf (nI o) σ = some (nI (cnt (isSt A o) 300)) := by
  have e := cnt_loop (b := fun t : (Int32 × Int32) => bX1_stretchesOf_4 (nI o) σ t.1 t.2) (isSt A o) (n := 300) (by omega)
    (fun j c hj hc hP => by
      show bX1_stretchesOf_4 (nI o) σ (nI c) (nI j) = _
      have s := startL_eq h hw ho hj
      rw [if_pos hP] at s
      unfold bX1_stretchesOf_4
      simp (disch := omega) only [l300, s, nm, bnd_s, bnd_n, bn2_s, l0, l1, l2, l3, l4, l7, l8, l9, l16, l80, l88, l200, l300, pk_mul, nI_add, nI_sb, mx1, mn1, ax_nI, nI_cl, nI_lt', nI_le', nI_eq', if_pos, if_neg, if_true, if_false])
    (fun j c hj hc hP => by
      show bX1_stretchesOf_4 (nI o) σ (nI c) (nI j) = _
      have s := startL_eq h hw ho hj
      rw [if_neg hP] at s
      unfold bX1_stretchesOf_4
      simp (disch := omega) only [l300, s, nm, bnd_s, bnd_n, bn2_s, l0, l1, l2, l3, l4, l7, l8, l9, l16, l80, l88, l200, l300, pk_mul, nI_add, nI_sb, mx1, mn1, ax_nI, nI_cl, nI_lt', nI_le', nI_eq', if_pos, if_neg, if_true, if_false])
    (fun c => by
      show bX1_stretchesOf_4 (nI o) σ (nI c) (nI 300) = _
      unfold bX1_stretchesOf_4
      simp (disch := omega) only [l300, nm, bnd_s, bnd_n, bn2_s, l0, l1, l2, l3, l4, l7, l8, l9, l16, l80, l88, l200, l300, pk_mul, nI_add, nI_sb, mx1, mn1, ax_nI, nI_cl, nI_lt', nI_le', nI_eq', if_pos, if_neg, if_true, if_false])
  unfold fX1_stretchesOf
  rw [show lp (fun t : (Int32 × Int32) => bX1_stretchesOf_4 (nI o) σ t.1 t.2) FU ((0 : Int32), (0 : Int32)) = _ from e]
  rfl
theorem stretchesM (h : RepM (σ 0) A) (hw : WF A) {o : Nat} (ho : o < 8) : fX4_stretches (nI o) σ = some (nI (cnt (isSt A o) 300)) := by
  have e := cnt_loop (b := fun t : (Int32 × Int32) => bX4_stretches_4 (nI o) σ t.1 t.2) (isSt A o) (n := 300) (by omega)
    (fun j c hj hc hP => by
      show bX4_stretches_4 (nI o) σ (nI c) (nI j) = _
      have s := beginM_eq h hw ho hj
      rw [if_pos hP] at s
      unfold bX4_stretches_4
      simp (disch := omega) only [l300, s, nm, bnd_s, bnd_n, bn2_s, l0, l1, l2, l3, l4, l7, l8, l9, l16, l80, l88, l200, l300, pk_mul, nI_add, nI_sb, mx1, mn1, ax_nI, nI_cl, nI_lt', nI_le', nI_eq', if_pos, if_neg, if_true, if_false])
    (fun j c hj hc hP => by
      show bX4_stretches_4 (nI o) σ (nI c) (nI j) = _
      have s := beginM_eq h hw ho hj
      rw [if_neg hP] at s
      unfold bX4_stretches_4
      simp (disch := omega) only [l300, s, nm, bnd_s, bnd_n, bn2_s, l0, l1, l2, l3, l4, l7, l8, l9, l16, l80, l88, l200, l300, pk_mul, nI_add, nI_sb, mx1, mn1, ax_nI, nI_cl, nI_lt', nI_le', nI_eq', if_pos, if_neg, if_true, if_false]
      rfl)
    (fun c => by
      show bX4_stretches_4 (nI o) σ (nI c) (nI 300) = _
      unfold bX4_stretches_4
      simp (disch := omega) only [l300, nm, bnd_s, bnd_n, bn2_s, l0, l1, l2, l3, l4, l7, l8, l9, l16, l80, l88, l200, l300, pk_mul, nI_add, nI_sb, mx1, mn1, ax_nI, nI_cl, nI_lt', nI_le', nI_eq', if_pos, if_neg, if_true, if_false])
  unfold fX4_stretches
  rw [show lp (fun t : (Int32 × Int32) => bX4_stretches_4 (nI o) σ t.1 t.2) FU ((0 : Int32), (0 : Int32)) = _ from e]
  rfl
/-- what is asked of an owner -/
theorem ofOwner_b (hw : WF A) (a b : Int32) : rdr (fun σ => fX3_ofOwner a b σ σW σP κ) (fX4_ofOwner a b) A := by
  have l13 : (13 : Int32) = nI 13 := rfl
  rcases own_c a with ⟨o, ho, rfl⟩ | ⟨h1, h2⟩
  · rcases pk_ix b (n := 13) (by omega) with hb | hb | ⟨w, hw13, rfl⟩
    · have hne : ∀ c, c < 13 → (b = nI c) = False := fun c hc => eq_false fun q => by
        rw [q] at hb
        exact nI_pos (by omega) hb
      refine ⟨-2, fun σ h => ?_, fun σ h => ?_⟩
      · show fX3_ofOwner _ _ σ σW σP κ = _
        unfold fX3_ofOwner
        simp (disch := omega) only [ownerL_eq ho, l5, l6, l10, l11, l12, hne, or_self, nm, bnd_s, bnd_n, bn2_s, l0, l1, l2, l3, l4, l7, l8, l9, l16, l80, l88, l200, l300, pk_mul, nI_add, nI_sb, mx1, mn1, ax_nI, nI_cl, nI_lt', nI_le', nI_eq', if_pos, if_neg, if_true, if_false]
      · have i1 : fX4_in b 0 2 = some 0 := inM_lo hb
        have i5 : fX4_in b 5 8 = some 0 := inM_lo (neg_lt hb (n := 5) (by omega))
        have i9 : fX4_in b 9 12 = some 0 := inM_lo (neg_lt hb (n := 9) (by omega))
        unfold fX4_ofOwner
        rw [isOwnerM_ok ho, bnd_s, if_neg n1_0, i1, bnd_s, if_pos rfl, if_neg (show ¬ b = 3 from of_eq_false (hne 3 (by omega))), if_neg (show ¬ b = 4 from of_eq_false (hne 4 (by omega))), i5, bnd_s, if_pos rfl, i9, bnd_s, if_pos rfl]
    · have hne : ∀ c, c < 13 → (b = nI c) = False := fun c hc => eq_false fun q => by
        rw [q] at hb
        have := (nI_leI (by omega) (by omega)).mp hb
        omega
      have h12 : (12 : Int32) < b := ge_gt (n := 12) hb (by omega)
      have hgt : ∀ c, c < 13 → nI c < b := fun c hc => by
        rw [Int32.lt_iff_toInt_lt, nI_toInt (by omega)]
        rw [Int32.le_iff_toInt_le, nI_toInt (by omega)] at hb
        omega
      refine ⟨-2, fun σ h => ?_, fun σ h => ?_⟩
      · show fX3_ofOwner _ _ σ σW σP κ = _
        unfold fX3_ofOwner
        simp (disch := omega) only [ownerL_eq ho, l5, l6, l10, l11, l12, hne, or_self, nm, bnd_s, bnd_n, bn2_s, l0, l1, l2, l3, l4, l7, l8, l9, l16, l80, l88, l200, l300, pk_mul, nI_add, nI_sb, mx1, mn1, ax_nI, nI_cl, nI_lt', nI_le', nI_eq', if_pos, if_neg, if_true, if_false]
      · have i1 : fX4_in b 0 2 = some 0 := inM_hi (hgt 2 (by omega))
        have i5 : fX4_in b 5 8 = some 0 := inM_hi (hgt 8 (by omega))
        have i9 : fX4_in b 9 12 = some 0 := inM_hi (hgt 12 (by omega))
        unfold fX4_ofOwner
        rw [isOwnerM_ok ho, bnd_s, if_neg n1_0, i1, bnd_s, if_pos rfl, if_neg (show ¬ b = 3 from of_eq_false (hne 3 (by omega))), if_neg (show ¬ b = 4 from of_eq_false (hne 4 (by omega))), i5, bnd_s, if_pos rfl, i9, bnd_s, if_pos rfl]
    · by_cases c2 : w ≤ 2
      · refine ⟨nI (cnt (fun p => aK A o p = w + 1) 300), fun σ h => ?_, fun σ h => ?_⟩
        · have e := placesL h hw (k := w + 1) ho (by omega)
          show fX3_ofOwner _ _ σ σW σP κ = _
          unfold fX3_ofOwner
          rcases (show w = 0 ∨ w = 1 ∨ w = 2 by omega) with rfl | rfl | rfl
          · simp (disch := omega) only [ownerL_eq ho, e, nm, bnd_s, bnd_n, bn2_s, l0, l1, l2, l3, l4, l7, l8, l9, l16, l80, l88, l200, l300, pk_mul, nI_add, nI_sb, mx1, mn1, ax_nI, nI_cl, nI_lt', nI_le', nI_eq', if_pos, if_neg, if_true, if_false]
          · simp (disch := omega) only [ownerL_eq ho, e, nm, bnd_s, bnd_n, bn2_s, l0, l1, l2, l3, l4, l7, l8, l9, l16, l80, l88, l200, l300, pk_mul, nI_add, nI_sb, mx1, mn1, ax_nI, nI_cl, nI_lt', nI_le', nI_eq', if_pos, if_neg, if_true, if_false]
          · simp (disch := omega) only [ownerL_eq ho, e, nm, bnd_s, bnd_n, bn2_s, l0, l1, l2, l3, l4, l7, l8, l9, l16, l80, l88, l200, l300, pk_mul, nI_add, nI_sb, mx1, mn1, ax_nI, nI_cl, nI_lt', nI_le', nI_eq', if_pos, if_neg, if_true, if_false]
        · have e := placesM h hw (k := w + 1) ho (by omega)
          have i1 : fX4_in (nI w) (nI 0) (nI 2) = some (nI 1) := by rw [inM_eq (by omega) (by omega) (by omega), if_pos (by omega)]
          unfold fX4_ofOwner
          rw [isOwnerM_ok ho, bnd_s, if_neg n1_0, show fX4_in (nI w) 0 2 = _ from i1, bnd_s, if_neg n1_0, l1, nI_add, e]; rfl
      · have i1 : fX4_in (nI w) 0 2 = some 0 := inM_hi (show nI 2 < nI w from (nI_ltI (by omega) (by omega)).mpr (by omega))
        by_cases c3 : w = 3
        · subst c3
          refine ⟨nI (cnt (isSt A o) 300), fun σ h => ?_, fun σ h => ?_⟩
          · have e := stretchesL h hw ho
            show fX3_ofOwner _ _ σ σW σP κ = _
            unfold fX3_ofOwner
            simp (disch := omega) only [ownerL_eq ho, e, nm, bnd_s, bnd_n, bn2_s, l0, l1, l2, l3, l4, l7, l8, l9, l16, l80, l88, l200, l300, pk_mul, nI_add, nI_sb, mx1, mn1, ax_nI, nI_cl, nI_lt', nI_le', nI_eq', if_pos, if_neg, if_true, if_false]
          · have e := stretchesM h hw ho
            unfold fX4_ofOwner
            rw [isOwnerM_ok ho, bnd_s, if_neg n1_0, i1, bnd_s, if_pos rfl, if_pos (show nI 3 = 3 from rfl), e]; rfl
        · have n3 : ¬ nI w = 3 := fun q => c3 ((nI_eq (b := 3) (by omega) (by omega)).mp q)
          by_cases c9 : 9 ≤ w
          · have n4 : ¬ nI w = 4 := fun q => absurd ((nI_eq (b := 4) (by omega) (by omega)).mp q) (by omega)
            have i5 : fX4_in (nI w) 5 8 = some 0 := inM_hi (show nI 8 < nI w from (nI_ltI (by omega) (by omega)).mpr (by omega))
            have i9 : fX4_in (nI w) (nI 9) (nI 12) = some (nI 1) := by rw [inM_eq (by omega) (by omega) (by omega), if_pos (by omega)]
            refine ⟨aC A o (w - 9), fun σ h => ?_, fun σ h => ?_⟩
            · have g := h.2.2.2.1 o ho
              show fX3_ofOwner _ _ σ σW σP κ = _
              unfold fX3_ofOwner
              rcases (show w = 9 ∨ w = 10 ∨ w = 11 ∨ w = 12 by omega) with rfl | rfl | rfl | rfl
              · simp (disch := omega) only [ownerL_eq ho, l5, l6, l10, l11, l12, or_self, g.1, nm, bnd_s, bnd_n, bn2_s, l0, l1, l2, l3, l4, l7, l8, l9, l16, l80, l88, l200, l300, pk_mul, nI_add, nI_sb, mx1, mn1, ax_nI, nI_cl, nI_lt', nI_le', nI_eq', if_pos, if_neg, if_true, if_false]
              · simp (disch := omega) only [ownerL_eq ho, l5, l6, l10, l11, l12, or_self, g.2.1, nm, bnd_s, bnd_n, bn2_s, l0, l1, l2, l3, l4, l7, l8, l9, l16, l80, l88, l200, l300, pk_mul, nI_add, nI_sb, mx1, mn1, ax_nI, nI_cl, nI_lt', nI_le', nI_eq', if_pos, if_neg, if_true, if_false]
              · simp (disch := omega) only [ownerL_eq ho, l5, l6, l10, l11, l12, or_self, g.2.2.1, nm, bnd_s, bnd_n, bn2_s, l0, l1, l2, l3, l4, l7, l8, l9, l16, l80, l88, l200, l300, pk_mul, nI_add, nI_sb, mx1, mn1, ax_nI, nI_cl, nI_lt', nI_le', nI_eq', if_pos, if_neg, if_true, if_false]
              · simp (disch := omega) only [ownerL_eq ho, l5, l6, l10, l11, l12, or_self, g.2.2.2, nm, bnd_s, bnd_n, bn2_s, l0, l1, l2, l3, l4, l7, l8, l9, l16, l80, l88, l200, l300, pk_mul, nI_add, nI_sb, mx1, mn1, ax_nI, nI_cl, nI_lt', nI_le', nI_eq', if_pos, if_neg, if_true, if_false]
            · have g := h.2.2.2.1 o ho
              unfold fX4_ofOwner
              rw [isOwnerM_ok ho, bnd_s, if_neg n1_0, i1, bnd_s, if_pos rfl, if_neg n3, if_neg n4, i5, bnd_s, if_pos rfl, show fX4_in (nI w) 9 12 = _ from i9, bnd_s, if_neg n1_0, l5, nI_sb (by omega), show fX4_of (nI o) (nI (w - 5)) σ = _ from ofM_eq ho (by omega)]
              rcases (show w = 9 ∨ w = 10 ∨ w = 11 ∨ w = 12 by omega) with rfl | rfl | rfl | rfl
              · exact congrArg some g.1
              · exact congrArg some g.2.1
              · exact congrArg some g.2.2.1
              · exact congrArg some g.2.2.2
          · rcases row_cases A o with ⟨i, r, hr, rfl, -⟩ | hno
            · have hk := hw.2.2.1 r (List.mem_of_getElem? hr)
              by_cases c4 : w = 4
              · subst c4
                refine ⟨nI i, fun σ h => ?_, fun σ h => ?_⟩
                · have e := (placeL_eq h hw ho).1 i r hr rfl
                  have g := h.2.1 i r hr
                  show fX3_ofOwner _ _ σ σW σP κ = _
                  unfold fX3_ofOwner fX3_ofRequest
                  simp (disch := omega) only [ownerL_eq ho, l5, l6, e, g.2.1, or_true, true_or, true_or, nm, bnd_s, bnd_n, bn2_s, l0, l1, l2, l3, l4, l7, l8, l9, l16, l80, l88, l200, l300, pk_mul, nI_add, nI_sb, mx1, mn1, ax_nI, nI_cl, nI_lt', nI_le', nI_eq', if_pos, if_neg, if_true, if_false]
                · have e := (placeM_eq h hw ho).1 i r hr rfl
                  unfold fX4_ofOwner
                  rw [isOwnerM_ok ho, bnd_s, if_neg n1_0, i1, bnd_s, if_pos rfl, if_neg n3, if_pos (show nI 4 = 4 from rfl), e]; rfl
              · have n4 : ¬ nI w = 4 := fun q => c4 ((nI_eq (b := 4) (by omega) (by omega)).mp q)
                have i5 : fX4_in (nI w) (nI 5) (nI 8) = some (nI 1) := by rw [inM_eq (by omega) (by omega) (by omega), if_pos (by omega)]
                refine ⟨if w = 5 then nI r.2.1 else if w = 6 then nI r.2.2.1 else if w = 7 then nI r.2.2.2.1 else r.2.2.2.2, fun σ h => ?_, fun σ h => ?_⟩
                · have g := h.2.1 i r hr
                  show fX3_ofOwner _ _ σ σW σP κ = _
                  unfold fX3_ofOwner fX3_ofRequest
                  rcases (show w = 5 ∨ w = 6 ∨ w = 7 ∨ w = 8 by omega) with rfl | rfl | rfl | rfl
                  · simp (disch := omega) only [ownerL_eq ho, l5, l6, g.2.1, or_true, true_or, nm, bnd_s, bnd_n, bn2_s, l0, l1, l2, l3, l4, l7, l8, l9, l16, l80, l88, l200, l300, pk_mul, nI_add, nI_sb, mx1, mn1, ax_nI, nI_cl, nI_lt', nI_le', nI_eq', if_pos, if_neg, if_true, if_false]
                  · simp (disch := omega) only [ownerL_eq ho, l5, l6, g.2.1, g.2.2.1, or_true, true_or, nm, bnd_s, bnd_n, bn2_s, l0, l1, l2, l3, l4, l7, l8, l9, l16, l80, l88, l200, l300, pk_mul, nI_add, nI_sb, mx1, mn1, ax_nI, nI_cl, nI_lt', nI_le', nI_eq', if_pos, if_neg, if_true, if_false]
                  · simp (disch := omega) only [ownerL_eq ho, l5, l6, g.2.1, g.2.2.2.1, or_true, true_or, nm, bnd_s, bnd_n, bn2_s, l0, l1, l2, l3, l4, l7, l8, l9, l16, l80, l88, l200, l300, pk_mul, nI_add, nI_sb, mx1, mn1, ax_nI, nI_cl, nI_lt', nI_le', nI_eq', if_pos, if_neg, if_true, if_false]
                  · simp (disch := omega) only [ownerL_eq ho, l5, l6, g.2.1, g.2.2.2.2, or_true, true_or, nm, bnd_s, bnd_n, bn2_s, l0, l1, l2, l3, l4, l7, l8, l9, l16, l80, l88, l200, l300, pk_mul, nI_add, nI_sb, mx1, mn1, ax_nI, nI_cl, nI_lt', nI_le', nI_eq', if_pos, if_neg, if_true, if_false]
                · have g := h.2.1 i r hr
                  have o0 : fX4_of (nI r.1) 0 σ = some (nI r.2.1) := by rw [show fX4_of (nI r.1) 0 σ = some (σ 0 (16 + 9 * r.1)) from ofM_eq (w := 0) ho (by omega), g.2.1]
                  unfold fX4_ofOwner
                  rw [isOwnerM_ok ho, bnd_s, if_neg n1_0, i1, bnd_s, if_pos rfl, if_neg n3, if_neg n4, show fX4_in (nI w) 5 8 = _ from i5, bnd_s, if_neg n1_0, o0, bnd_s, if_neg (nI_nle (by omega) (by omega)), l5, nI_sb (by omega), show fX4_of (nI r.1) (nI (w - 5)) σ = _ from ofM_eq ho (by omega)]
                  rcases (show w = 5 ∨ w = 6 ∨ w = 7 ∨ w = 8 by omega) with rfl | rfl | rfl | rfl
                  · exact congrArg some g.2.1
                  · exact congrArg some g.2.2.1
                  · exact congrArg some g.2.2.2.1
                  · exact congrArg some g.2.2.2.2
            · refine ⟨-6, fun σ h => ?_, fun σ h => ?_⟩
              · have g : σ 5 o = nI 0 := h.2.2.1 o ho hno
                have q : fX3_ofRequest (nI o) (nI w) σ σW σP κ = some (-6) := by
                  unfold fX3_ofRequest
                  rw [ax_nI ho (by omega), nI_cl (by omega), g, if_pos (show nI 0 = 0 from rfl)]
                show fX3_ofOwner _ _ σ σW σP κ = _
                unfold fX3_ofOwner
                rcases (show w = 4 ∨ w = 5 ∨ w = 6 ∨ w = 7 ∨ w = 8 by omega) with rfl | rfl | rfl | rfl | rfl
                · simp (disch := omega) only [ownerL_eq ho, l5, l6, q, or_true, true_or, nm, bnd_s, bnd_n, bn2_s, l0, l1, l2, l3, l4, l7, l8, l9, l16, l80, l88, l200, l300, pk_mul, nI_add, nI_sb, mx1, mn1, ax_nI, nI_cl, nI_lt', nI_le', nI_eq', if_pos, if_neg, if_true, if_false]
                · simp (disch := omega) only [ownerL_eq ho, l5, l6, q, or_true, true_or, nm, bnd_s, bnd_n, bn2_s, l0, l1, l2, l3, l4, l7, l8, l9, l16, l80, l88, l200, l300, pk_mul, nI_add, nI_sb, mx1, mn1, ax_nI, nI_cl, nI_lt', nI_le', nI_eq', if_pos, if_neg, if_true, if_false]
                · simp (disch := omega) only [ownerL_eq ho, l5, l6, q, or_true, true_or, nm, bnd_s, bnd_n, bn2_s, l0, l1, l2, l3, l4, l7, l8, l9, l16, l80, l88, l200, l300, pk_mul, nI_add, nI_sb, mx1, mn1, ax_nI, nI_cl, nI_lt', nI_le', nI_eq', if_pos, if_neg, if_true, if_false]
                · simp (disch := omega) only [ownerL_eq ho, l5, l6, q, or_true, true_or, nm, bnd_s, bnd_n, bn2_s, l0, l1, l2, l3, l4, l7, l8, l9, l16, l80, l88, l200, l300, pk_mul, nI_add, nI_sb, mx1, mn1, ax_nI, nI_cl, nI_lt', nI_le', nI_eq', if_pos, if_neg, if_true, if_false]
                · simp (disch := omega) only [ownerL_eq ho, l5, l6, q, or_true, true_or, nm, bnd_s, bnd_n, bn2_s, l0, l1, l2, l3, l4, l7, l8, l9, l16, l80, l88, l200, l300, pk_mul, nI_add, nI_sb, mx1, mn1, ax_nI, nI_cl, nI_lt', nI_le', nI_eq', if_pos, if_neg, if_true, if_false]
              · have o0 : fX4_of (nI o) 0 σ = some (nI 0) := by rw [show fX4_of (nI o) 0 σ = some (σ 0 (16 + 9 * o)) from ofM_eq (w := 0) ho (by omega), h.2.2.1 o ho hno]; rfl
                unfold fX4_ofOwner
                rw [isOwnerM_ok ho, bnd_s, if_neg n1_0, i1, bnd_s, if_pos rfl, if_neg n3]
                by_cases c4 : w = 4
                · subst c4
                  rw [if_pos (show nI 4 = 4 from rfl), (placeM_eq h hw ho).2 hno]; rfl
                · have n4 : ¬ nI w = 4 := fun q => c4 ((nI_eq (b := 4) (by omega) (by omega)).mp q)
                  have i5 : fX4_in (nI w) (nI 5) (nI 8) = some (nI 1) := by rw [inM_eq (by omega) (by omega) (by omega), if_pos (by omega)]
                  rw [if_neg n4, show fX4_in (nI w) 5 8 = _ from i5, bnd_s, if_neg n1_0, o0]; rfl
  · refine ⟨-1, fun σ h => ?_, fun σ h => ?_⟩
    · show fX3_ofOwner _ _ σ σW σP κ = _
      unfold fX3_ofOwner
      rw [h1]; rfl
    · unfold fX4_ofOwner
      rw [h2]; rfl
end OW
