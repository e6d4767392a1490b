/-! Whether a request could be given, on both sides -/
theorem isM_nn {z : Int32} {P : Nat → Prop} (h : isM z P) (h8 : ∀ i, P i → i < 8) : (0 : Int32) ≤ z := by
  have hb : bt z 31 = false := by
    cases q : bt z 31 with
    | false => rfl
    | true => have := h8 31 ((h 31 (by omega)).mp q); omega
  have hm : z.toBitVec.msb = false := by
    rw [BitVec.msb_eq_getLsbD_last]
    exact hb
  have hn := BitVec.msb_eq_false_iff_two_mul_lt.mp hm
  rw [Int32.le_iff_toInt_le]
  show (0 : Int) ≤ z.toBitVec.toInt
  rw [BitVec.toInt_eq_toNat_of_lt hn]
  omega
theorem wts8 {A : AS} {i x : Nat} (h : wts A i x) : x < 8 := by obtain ⟨r, -, p, -, -, -, d, -⟩ := h; exact d
theorem stp8 {A : AS} {o k f t n x : Nat} (h : stp A o k f t n x) : x < 8 := by obtain ⟨p, -, -, -, d, -⟩ := h; exact d
/-- an owner could lock a place -/
def cdl (A : AS) (o k p : Nat) : Prop := ∀ x, ¬ stp A o k p (p + 1) (aR A).length x
theorem ask_c (a b c d : Int32) : (∃ o k f t, o < 8 ∧ 1 ≤ k ∧ k ≤ 3 ∧ f < t ∧ t ≤ 300 ∧ a = nI o ∧ b = nI k ∧ c = nI f ∧ d = nI t) ∨ ∃ v : Int32, v < 0 ∧ fX4_whyNotAsk a b c d = some v ∧ (∀ σN σW σP κ, fX3_inTheWay a b c d σN σW σP κ = some v) ∧ ∀ σN σW σP κ, fX3_ring a b c d σN σW σP κ = some (v, σW) := by
  rcases own_c a with ⟨o, ho, rfl⟩ | ⟨h1, h2⟩
  · rcases lck_c b with ⟨k, hk, hk3, rfl⟩ | ⟨h1, h2⟩
    · have i1 : fX4_in (nI k) 1 3 = some (nI 1) := by rw [show fX4_in (nI k) 1 3 = _ from inM_eq (v := k) (lo := 1) (hi := 3) (by omega) (by omega) (by omega), if_pos (by omega)]
      rcases rng_c c d with ⟨f, t, hf, ht, rfl, rfl⟩ | ⟨h1, h2⟩
      · exact Or.inl ⟨o, k, f, t, ho, hk, hk3, hf, ht, rfl, rfl, rfl, rfl⟩
      · refine Or.inr ⟨-2, by decide, ?_, fun σN σW σP κ => ?_, fun σN σW σP κ => ?_⟩
        · unfold fX4_whyNotAsk; rw [isOwnerM_ok ho, bnd_s, if_neg n1_0, i1, bnd_s, if_neg n1_0, h2]; rfl
        · unfold fX3_inTheWay; rw [ownerL_eq ho, bnd_s, if_neg n1_0, lockL_ok hk hk3, bnd_s, if_neg n1_0, h1]; rfl
        · unfold fX3_ring; rw [ownerL_eq ho, bnd_s, if_neg n1_0, lockL_ok hk hk3, bnd_s, if_neg n1_0, h1]; rfl
    · refine Or.inr ⟨-2, by decide, ?_, fun σN σW σP κ => ?_, fun σN σW σP κ => ?_⟩
      · unfold fX4_whyNotAsk; rw [isOwnerM_ok ho, bnd_s, if_neg n1_0, h2]; rfl
      · unfold fX3_inTheWay; rw [ownerL_eq ho, bnd_s, if_neg n1_0, h1]; rfl
      · unfold fX3_ring; rw [ownerL_eq ho, bnd_s, if_neg n1_0, h1]; rfl
  · refine Or.inr ⟨-1, by decide, ?_, fun σN σW σP κ => ?_, fun σN σW σP κ => ?_⟩
    · unfold fX4_whyNotAsk; rw [h2]; rfl
    · unfold fX3_inTheWay; rw [h1]; rfl
    · unfold fX3_ring; rw [h1]; rfl
section WI
variable {A : AS} {σ : St} {σW σP κ : St}
theorem whyM_ok {o k f t : Nat} (ho : o < 8) (hk : 1 ≤ k) (hk3 : k ≤ 3) (hf : f < t) (ht : t ≤ 300) : fX4_whyNotAsk (nI o) (nI k) (nI f) (nI t) = some 0 := by
  have i1 : fX4_in (nI k) 1 3 = some (nI 1) := by rw [show fX4_in (nI k) 1 3 = _ from inM_eq (v := k) (lo := 1) (hi := 3) (by omega) (by omega) (by omega), if_pos (by omega)]
  unfold fX4_whyNotAsk
  rw [isOwnerM_ok ho, bnd_s, if_neg n1_0, i1, bnd_s, if_neg n1_0, isRangeM_ok hf ht]; rfl
theorem x1_2488 {β : Type} (k : Option β) : ax (1 : Int32) 2488 k = k := ax_nI (j := 1) (by omega) (by omega)
theorem itwL (h : RepL σ A) (hw : WF A) {o k f t : Nat} (ho : o < 8) (hk : 1 ≤ k) (hk3 : k ≤ 3) (hf : f < t) (ht : t ≤ 300) : ∃ z, fX3_inTheWay (nI o) (nI k) (nI f) (nI t) σ σW σP κ = some z ∧ isM z (stp A o k f t (aR A).length) := by
  obtain ⟨z, e, hz⟩ := inWay_eq h hw ho hk hk3 (f := f) (t := t) (by omega) ht (Nat.le_refl _)
  refine ⟨z, ?_, hz⟩
  unfold fX3_inTheWay
  rw [ownerL_eq ho, bnd_s, if_neg n1_0, lockL_ok hk hk3, bnd_s, if_neg n1_0, rangeL_ok hf ht, bnd_s, if_neg n1_0, h.1.2.2.2.2.2.2, e]; rfl
theorem inTheWay_b (hw : WF A) (a b c d : Int32) : rdr (fun σ => fX3_inTheWay a b c d σ σW σP κ) (fX4_inTheWay a b c d) A := by
  rcases ask_c a b c d with ⟨o, k, f, t, ho, hk, hk3, hf, ht, rfl, rfl, rfl, rfl⟩ | ⟨v, hv, h1, h2, -⟩
  · refine rdr_set _ (fun σ h => itwL h hw ho hk hk3 hf ht) fun σ h => ?_
    obtain ⟨z, e, hz⟩ := stoppedIn_eq h hw ho hk hk3 (f := f) (t := t) (by omega) ht (Nat.le_refl _)
    refine ⟨z, ?_, hz⟩
    unfold fX4_inTheWay
    rw [whyM_ok ho hk hk3 hf ht, bnd_s, if_pos (by decide), x1_2488, show σ 0 (Int32.toNatClampNeg 1) = _ from h.1.2.2.2.2.2.2, e]; rfl
  · refine ⟨v, fun σ h => h2 _ _ _ _, fun σ h => ?_⟩
    unfold fX4_inTheWay
    rw [h1, bnd_s, if_neg (lt_nle hv)]
theorem couldGive_b (hw : WF A) (a b c d : Int32) : rdr (fun σ => fX3_couldGive a b c d σ σW σP κ) (fX4_couldGive a b c d) A := by
  rcases ask_c a b c d with ⟨o, k, f, t, ho, hk, hk3, hf, ht, rfl, rfl, rfl, rfl⟩ | ⟨v, hv, h1, h2, -⟩
  · by_cases q : ∀ x, ¬ stp A o k f t (aR A).length x
    · refine ⟨1, fun σ h => ?_, fun σ h => ?_⟩
      · obtain ⟨z, e, hz⟩ := itwL (σW := σW) (σP := σP) (κ := κ) h hw ho hk hk3 hf ht
        have z0 : z = 0 := (isM_z hz).mpr fun i _ => q i
        show fX3_couldGive _ _ _ _ σ σW σP κ = _
        unfold fX3_couldGive
        rw [e, bnd_s, z0]; rfl
      · obtain ⟨z, e, hz⟩ := stoppedIn_eq h hw ho hk hk3 (f := f) (t := t) (by omega) ht (Nat.le_refl _)
        have z0 : z = 0 := (isM_z hz).mpr fun i _ => q i
        unfold fX4_couldGive
        rw [whyM_ok ho hk hk3 hf ht, bnd_s, if_pos (by decide), x1_2488, show σ 0 (Int32.toNatClampNeg 1) = _ from h.1.2.2.2.2.2.2, e, bnd_s, z0]; rfl
    · refine ⟨0, fun σ h => ?_, fun σ h => ?_⟩
      · obtain ⟨z, e, hz⟩ := itwL (σW := σW) (σP := σP) (κ := κ) h hw ho hk hk3 hf ht
        have z0 : ¬ z = 0 := fun p => q fun x hx => (isM_z hz).mp p x (by have := stp8 hx; omega) hx
        show fX3_couldGive _ _ _ _ σ σW σP κ = _
        unfold fX3_couldGive
        rw [e, bnd_s, if_pos (isM_nn hz fun i hi => stp8 hi), if_neg z0]
      · obtain ⟨z, e, hz⟩ := stoppedIn_eq h hw ho hk hk3 (f := f) (t := t) (by omega) ht (Nat.le_refl _)
        have z0 : ¬ z = 0 := fun p => q fun x hx => (isM_z hz).mp p x (by have := stp8 hx; omega) hx
        unfold fX4_couldGive
        rw [whyM_ok ho hk hk3 hf ht, bnd_s, if_pos (by decide), x1_2488, show σ 0 (Int32.toNatClampNeg 1) = _ from h.1.2.2.2.2.2.2, e, bnd_s, if_neg z0]
  · refine ⟨v, fun σ h => ?_, fun σ h => ?_⟩
    · show fX3_couldGive _ _ _ _ σ σW σP κ = _
      unfold fX3_couldGive
      rw [h2, bnd_s, if_neg (lt_nle hv)]
    · unfold fX4_couldGive
      rw [h1, bnd_s, if_neg (lt_nle hv)]
theorem couldL (h : RepL σ A) (hw : WF A) {o k p : Nat} (ho : o < 8) (hk : 1 ≤ k) (hk3 : k ≤ 3) (hp : p < 300) : (cdl A o k p → fX3_couldLock (nI o) (nI k) (nI p) σ σW σP κ = some (nI 1)) ∧ (¬ cdl A o k p → fX3_couldLock (nI o) (nI k) (nI p) σ σW σP κ = some (nI 0)) := by
  obtain ⟨z, e, hz⟩ := inWay_eq h hw ho hk hk3 (f := p) (t := p + 1) (by omega) (by omega) (Nat.le_refl _)
  have hz0 := stp_z hz
  refine ⟨fun q => ?_, fun q => ?_⟩
  · have z0 : z = nI 0 := by rw [hz0]; exact q
    unfold fX3_couldLock
    rw [l1, nI_add, h.1.2.2.2.2.2.2, e, bnd_s, if_pos (show z = 0 from z0)]
  · have z0 : ¬ z = nI 0 := by rw [hz0]; exact q
    unfold fX3_couldLock
    rw [l1, nI_add, h.1.2.2.2.2.2.2, e, bnd_s, if_neg (show ¬ z = 0 from z0)]; rfl
theorem couldM (h : RepM (σ 0) A) (hw : WF A) {o k p : Nat} (ho : o < 8) (hk : 1 ≤ k) (hk3 : k ≤ 3) (hp : p < 300) : ∃ z, fX4_stoppedBy (nI o) (nI k) (nI p) (nI (aR A).length) σ = some z ∧ (z = nI 0) = cdl A o k p := by
  obtain ⟨z, e, hz⟩ := stoppedBy_eq h hw ho hk hk3 hp (Nat.le_refl _)
  refine ⟨z, e, propext ⟨fun q x ⟨p', a, b, c, d⟩ => ?_, fun q => (isM_z hz).mpr fun x _ hx => ?_⟩⟩
  · obtain rfl : p' = p := by omega
    exact (isM_z hz).mp q x (by have := d.1; omega) ⟨c, d⟩
  · exact q x ⟨p, by omega, by omega, hx.1, hx.2⟩
end WI
