/-! Questions, on both sides -/
theorem l5 : (5 : Int32) = nI 5 := rfl
theorem l10 : (10 : Int32) = nI 10 := rfl
theorem l11 : (11 : Int32) = nI 11 := rfl
theorem l12 : (12 : Int32) = nI 12 := rfl
theorem or_n0 (z : Int32) : z ||| nI 0 = z := Int32.or_zero
/-- a loop that gathers a set of owners -/
theorem set_loop {b : (Int32 × Int32) → Option ((Int32 × Int32) ⊕ (Int32 × Int32))} (P : Nat → Prop) (h1 : ∀ j z, j < 8 → P j → b (z, nI j) = some (.inl (z ||| (nI 1 <<< (nI j &&& 31)), nI (j + 1)))) (h0 : ∀ j z, j < 8 → ¬ P j → b (z, nI j) = some (.inl (z, nI (j + 1)))) (hx : ∀ z, b (z, nI 8) = some (.inr (z, nI 8))) : ∃ z, lp b FU (nI 0, nI 0) = some (z, nI 8) ∧ isM z (fun x => x < 8 ∧ P x) := by
  obtain ⟨e, he, z, rfl, hz⟩ := lp_rng (b := b) (fun j s => ∃ z, s = (z, nI j) ∧ isM z (fun x => x < j ∧ P x)) (fun e => ∃ z, e = (z, nI 8) ∧ isM z (fun x => x < 8 ∧ P x)) 0 8
    (fun j s _ hj hs => by
      obtain ⟨z, rfl, hz⟩ := hs
      by_cases c : P j
      · refine ⟨_, h1 j z hj c, _, rfl, isM_congr (isM_or hz (isM_1 hj)) fun x _ => ⟨?_, ?_⟩⟩
        · rintro (⟨q, q2⟩ | q)
          · exact ⟨by omega, q2⟩
          · subst q; exact ⟨by omega, c⟩
        · rintro ⟨q, q2⟩
          by_cases e : x = j
          · exact Or.inr e
          · exact Or.inl ⟨by omega, q2⟩
      · refine ⟨_, h0 j z hj c, _, rfl, isM_congr hz fun x _ => ⟨fun ⟨q, q2⟩ => ⟨by omega, q2⟩, fun ⟨q, q2⟩ => ⟨?_, q2⟩⟩⟩
        rcases Nat.lt_or_ge x j with g | g
        · exact g
        · obtain rfl : x = j := by omega
          exact absurd q2 c)
    (fun s hs => by
      obtain ⟨z, rfl, hz⟩ := hs
      exact ⟨_, hx z, z, rfl, hz⟩) (nI 0, nI 0) (by omega) ⟨_, rfl, isM_0 fun i _ q => by omega⟩ (by omega)
  exact ⟨z, he, hz⟩
/-- a loop that counts -/
theorem cnt_loop {b : (Int32 × Int32) → Option ((Int32 × Int32) ⊕ (Int32 × Int32))} (P : Nat → Prop) [DecidablePred P] {n : Nat} (hn : n < 5000) (h1 : ∀ j c, j < n → c ≤ j → P j → b (nI c, nI j) = some (.inl (nI (c + 1), nI (j + 1)))) (h0 : ∀ j c, j < n → c ≤ j → ¬ P j → b (nI c, nI j) = some (.inl (nI c, nI (j + 1)))) (hx : ∀ c, b (nI c, nI n) = some (.inr (nI c, nI n))) : lp b FU (nI 0, nI 0) = some (nI (cnt P n), nI n) := by
  obtain ⟨e, he, rfl⟩ := lp_rng (b := b) (fun j s => s = (nI (cnt P j), nI j)) (fun e => e = (nI (cnt P n), nI n)) 0 n
    (fun j s _ hj hs => by
      subst hs
      have := cnt_le P j
      by_cases c : P j
      · exact ⟨_, h1 j _ hj this c, by rw [cnt_s c]⟩
      · exact ⟨_, h0 j _ hj this c, by rw [cnt_ns c]⟩)
    (fun s hs => by subst hs; exact ⟨_, hx _, rfl⟩) (nI 0, nI 0) (by omega) rfl (by omega)
  exact he
/-- both sides answer alike -/
def rdr (cl rf : St → Option Int32) (A : AS) : Prop := ∃ v, (∀ σ, RepL σ A → cl σ = some v) ∧ ∀ σ, RepM (σ 0) A → rf σ = some v
theorem plc_c (a : Int32) : (∃ p, p < 300 ∧ a = nI p) ∨ (fX3_isPlace a = some 0 ∧ fX4_in a 0 299 = some 0) := by
  rcases pk_ix a (n := 300) (by omega) with h | h | ⟨f, hf, rfl⟩
  · exact Or.inr ⟨by unfold fX3_isPlace; rw [if_pos h], inM_lo h⟩
  · right
    refine ⟨?_, inM_hi (ge_gt (n := 299) h (by omega))⟩
    unfold fX3_isPlace
    rw [if_neg (fun q => lt_nle (neg_lt q (n := 300) (by omega)) h)]
    exact if_pos h
  · exact Or.inl ⟨f, hf, rfl⟩
theorem placeL_ok {p : Nat} (hp : p < 300) : fX3_isPlace (nI p) = some (nI 1) := by
  unfold fX3_isPlace
  simp (disch := omega) only [nm, bnd_s, bnd_n, bn2_s, l0, l1, l2, l3, l4, l7, l8, l9, l16, l80, l88, l200, l300, pk_mul, nI_add, nI_sb, mx1, mn1, ax_nI, nI_cl, nI_lt', nI_le', nI_eq', if_pos, if_neg, if_true, if_false]
theorem placeM_ok {p : Nat} (hp : p < 300) : fX4_in (nI p) 0 299 = some (nI 1) := by rw [show fX4_in (nI p) 0 299 = _ from inM_eq (v := p) (lo := 0) (hi := 299) (by omega) (by omega) (by omega), if_pos (by omega)]
theorem n1_0 : ¬ (nI 1 : Int32) = 0 := by decide
section RD
variable {A : AS} {σW σP κ : St}
theorem at_b (hw : WF A) (a b : Int32) : rdr (fun σ => fX3_at a b σ σW σP κ) (fX4_at a b) A := by
  rcases own_c a with ⟨o, ho, rfl⟩ | ⟨h1, h2⟩
  · rcases plc_c b with ⟨p, hp, rfl⟩ | ⟨h1, h2⟩
    · refine ⟨nI (aK A o p), fun σ h => ?_, fun σ h => ?_⟩
      · show fX3_at _ _ σ σW σP κ = _
        unfold fX3_at
        rw [ownerL_eq ho, bnd_s, if_neg n1_0, placeL_ok hp, bnd_s, if_neg n1_0, kindAt_eq h hw ho hp]; rfl
      · unfold fX4_at
        rw [isOwnerM_ok ho, bnd_s, if_neg n1_0, placeM_ok hp, bnd_s, if_neg n1_0, lockM_eq h ho hp]; rfl
    · refine ⟨-1, fun σ h => ?_, fun σ h => ?_⟩
      · show fX3_at _ _ σ σW σP κ = _
        unfold fX3_at
        rw [ownerL_eq ho, h1]; rfl
      · unfold fX4_at
        rw [isOwnerM_ok ho, h2]; rfl
  · refine ⟨-1, fun σ h => ?_, fun σ h => ?_⟩
    · show fX3_at _ _ σ σW σP κ = _
      unfold fX3_at
      rw [h1]; rfl
    · unfold fX4_at
      rw [h2]; rfl
theorem ownersL {σ : St} (h : RepL σ A) (hw : WF A) {p k : Nat} (hp : p < 300) (hk : k ≤ 3) : ∃ z, fX3_owners (nI p) (nI k) σ σW σP κ = some z ∧ isM z (fun x => x < 8 ∧ aK A x p = k) := by
  obtain ⟨z, e, hz⟩ := set_loop (b := fun t : (Int32 × Int32) => bX3_owners_26 (nI p) (nI k) σ t.1 t.2) (fun x => aK A x p = k)
    (fun j z hj hP => by
      have := hw.1 j p hj hp
      show bX3_owners_26 (nI p) (nI k) σ z (nI j) = _
      unfold bX3_owners_26
      simp (disch := omega) only [kindAt_eq h hw hj hp, nm, bnd_s, bnd_n, bn2_s, l0, l1, l2, l3, l4, l7, l8, l9, l16, l80, l88, l200, l300, pk_mul, nI_add, nI_sb, mx1, mn1, ax_nI, nI_cl, nI_lt', nI_le', nI_eq', if_pos, if_neg, if_true, if_false])
    (fun j z hj hP => by
      have := hw.1 j p hj hp
      show bX3_owners_26 (nI p) (nI k) σ z (nI j) = _
      unfold bX3_owners_26
      simp (disch := omega) only [kindAt_eq h hw hj hp, nm, bnd_s, bnd_n, bn2_s, l0, l1, l2, l3, l4, l7, l8, l9, l16, l80, l88, l200, l300, pk_mul, nI_add, nI_sb, mx1, mn1, ax_nI, nI_cl, nI_lt', nI_le', nI_eq', if_pos, if_neg, if_true, if_false])
    (fun z => by
      show bX3_owners_26 (nI p) (nI k) σ z (nI 8) = _
      unfold bX3_owners_26
      simp (disch := omega) only [nm, bnd_s, bnd_n, bn2_s, l0, l1, l2, l3, l4, l7, l8, l9, l16, l80, l88, l200, l300, pk_mul, nI_add, nI_sb, mx1, mn1, ax_nI, nI_cl, nI_lt', nI_le', nI_eq', if_pos, if_neg, if_true, if_false])
  refine ⟨z, ?_, hz⟩
  unfold fX3_owners
  rw [placeL_ok hp, bnd_s, if_neg n1_0, if_neg (nI_pos (by omega)), if_pos (show nI k ≤ 3 from (nI_leI (b := 3) (by omega) (by omega)).mpr hk), show lp (fun t : (Int32 × Int32) => bX3_owners_26 (nI p) (nI k) σ t.1 t.2) FU ((0 : Int32), (0 : Int32)) = _ from e]
  rfl
theorem ownersM {σ : St} (h : RepM (σ 0) A) (hw : WF A) {p k : Nat} (hp : p < 300) (hk : k ≤ 3) : ∃ z, fX4_owners (nI p) (nI k) σ = some z ∧ isM z (fun x => x < 8 ∧ aK A x p = k) := by
  obtain ⟨z, e, hz⟩ := set_loop (b := fun t : (Int32 × Int32) => bX4_owners_30 (nI p) (nI k) σ t.1 t.2) (fun x => aK A x p = k)
    (fun j z hj hP => by
      have := hw.1 j p hj hp
      show bX4_owners_30 (nI p) (nI k) σ z (nI j) = _
      unfold bX4_owners_30
      simp (disch := omega) only [lockM_eq h hj hp, nm, bnd_s, bnd_n, bn2_s, l0, l1, l2, l3, l4, l7, l8, l9, l16, l80, l88, l200, l300, pk_mul, nI_add, nI_sb, mx1, mn1, ax_nI, nI_cl, nI_lt', nI_le', nI_eq', if_pos, if_neg, if_true, if_false])
    (fun j z hj hP => by
      have := hw.1 j p hj hp
      show bX4_owners_30 (nI p) (nI k) σ z (nI j) = _
      unfold bX4_owners_30
      simp (disch := omega) only [lockM_eq h hj hp, or_n0, nm, bnd_s, bnd_n, bn2_s, l0, l1, l2, l3, l4, l7, l8, l9, l16, l80, l88, l200, l300, pk_mul, nI_add, nI_sb, mx1, mn1, ax_nI, nI_cl, nI_lt', nI_le', nI_eq', if_pos, if_neg, if_true, if_false])
    (fun z => by
      show bX4_owners_30 (nI p) (nI k) σ z (nI 8) = _
      unfold bX4_owners_30
      simp (disch := omega) only [nm, bnd_s, bnd_n, bn2_s, l0, l1, l2, l3, l4, l7, l8, l9, l16, l80, l88, l200, l300, pk_mul, nI_add, nI_sb, mx1, mn1, ax_nI, nI_cl, nI_lt', nI_le', nI_eq', if_pos, if_neg, if_true, if_false])
  refine ⟨z, ?_, hz⟩
  unfold fX4_owners
  have i2 : fX4_in (nI k) 0 3 = some (nI 1) := by rw [show fX4_in (nI k) 0 3 = _ from inM_eq (v := k) (lo := 0) (hi := 3) (by omega) (by omega) (by omega), if_pos (by omega)]
  rw [placeM_ok hp, bnd_s, if_neg n1_0, i2, bnd_s, if_neg n1_0, show lp (fun t : (Int32 × Int32) => bX4_owners_30 (nI p) (nI k) σ t.1 t.2) FU ((0 : Int32), (0 : Int32)) = _ from e]
  rfl
/-- what both have found in a state is the same, if each has found the same set -/
theorem rdr_set {cl rf : St → Option Int32} (P : Nat → Prop) (h1 : ∀ σ, RepL σ A → ∃ z, cl σ = some z ∧ isM z P) (h2 : ∀ σ, RepM (σ 0) A → ∃ z, rf σ = some z ∧ isM z P) : rdr cl rf A := by
  by_cases c : ∃ z, isM z P
  · obtain ⟨z, hz⟩ := c
    refine ⟨z, fun σ h => ?_, fun σ h => ?_⟩
    · obtain ⟨y, e, hy⟩ := h1 σ h
      rw [e, isM_eq hy hz]
    · obtain ⟨y, e, hy⟩ := h2 σ h
      rw [e, isM_eq hy hz]
  · exact ⟨0, fun σ h => by obtain ⟨y, -, hy⟩ := h1 σ h; exact absurd ⟨y, hy⟩ c, fun σ h => by obtain ⟨y, -, hy⟩ := h2 σ h; exact absurd ⟨y, hy⟩ c⟩
theorem owners_b (hw : WF A) (a b : Int32) : rdr (fun σ => fX3_owners a b σ σW σP κ) (fX4_owners a b) A := by
  rcases plc_c a with ⟨p, hp, rfl⟩ | ⟨h1, h2⟩
  · rcases pk_ix b (n := 4) (by omega) with h | h | ⟨k, hk, rfl⟩
    · refine ⟨-2, fun σ _ => ?_, fun σ _ => ?_⟩
      · show fX3_owners _ _ σ σW σP κ = _
        unfold fX3_owners
        rw [placeL_ok hp, bnd_s, if_neg n1_0, if_pos h]
      · unfold fX4_owners
        rw [placeM_ok hp, bnd_s, if_neg n1_0, inM_lo h]; rfl
    · have h3 : (3 : Int32) < b := ge_gt (n := 3) h (by omega)
      refine ⟨-2, fun σ _ => ?_, fun σ _ => ?_⟩
      · show fX3_owners _ _ σ σW σP κ = _
        unfold fX3_owners
        rw [placeL_ok hp, bnd_s, if_neg n1_0, if_neg (fun q => lt_nle (neg_lt q (n := 4) (by omega)) h), if_neg (lt_nle h3)]
      · unfold fX4_owners
        rw [placeM_ok hp, bnd_s, if_neg n1_0, inM_hi h3]; rfl
    · exact rdr_set _ (fun σ h => ownersL h hw hp (by omega)) (fun σ h => ownersM h hw hp (by omega))
  · refine ⟨-1, fun σ h => ?_, fun σ h => ?_⟩
    · show fX3_owners _ _ σ σW σP κ = _
      unfold fX3_owners
      rw [h1]; rfl
    · unfold fX4_owners
      rw [h2]; rfl
theorem inRow_b (hw : WF A) (a : Int32) : rdr (fun σ => fX3_inRow a σ σW σP κ) (fX4_inRow a) A := by
  have hlen := hw.len
  have x1 : ∀ k : Option Int32, ax (1 : Int32) 2488 k = k := fun k => ax_nI (j := 1) (by omega) (by omega)
  rcases pk_ix a (n := (aR A).length) (by omega) with h | h | ⟨i, hi, rfl⟩
  · refine ⟨-1, fun σ hr => ?_, fun σ hr => ?_⟩
    · show fX3_inRow _ σ σW σP κ = _
      unfold fX3_inRow
      rw [if_pos h]
    · unfold fX4_inRow
      rw [x1, inM_lo h]; rfl
  · refine ⟨-1, fun σ hr => ?_, fun σ hr => ?_⟩
    · have g : σ 4 0 = nI (aR A).length := hr.1.2.2.2.2.2.2
      show fX3_inRow _ σ σW σP κ = _
      unfold fX3_inRow
      split
      · rfl
      · first | rfl | (rw [g, if_neg (le_nlt h)])
    · have g : σ 0 1 = nI (aR A).length := hr.1.2.2.2.2.2.2
      unfold fX4_inRow
      rw [x1, show σ 0 (Int32.toNatClampNeg 1) = _ from g]
      by_cases c : (aR A).length = 0
      · rw [c]
        have : fX4_in a 0 (nI 0 - 1) = some 0 := by
          rcases pk_ix a (n := 0) (by omega) with q | q | ⟨_, q, _⟩
          · exact inM_lo q
          · refine inM_hi ?_
            rw [Int32.lt_iff_toInt_lt]
            rw [Int32.le_iff_toInt_le] at q
            have e1 : (nI 0 - 1).toInt = -1 := rfl
            have e2 : (nI 0).toInt = 0 := rfl
            omega
          · omega
        rw [this]; rfl
      · obtain ⟨m, hm⟩ : ∃ m, (aR A).length = m + 1 := ⟨(aR A).length - 1, by omega⟩
        rw [hm] at h ⊢
        rw [nI_pred, inM_hi (ge_gt h (by omega))]; rfl
  · obtain ⟨r, hr0⟩ : ∃ r, (aR A)[i]? = some r := ⟨_, List.getElem?_eq_getElem hi⟩
    refine ⟨nI r.1, fun σ hr => ?_, fun σ hr => ?_⟩
    · have g : σ 4 0 = nI (aR A).length := hr.1.2.2.2.2.2.2
      have g3 := (hr.2.1 i r hr0).1
      show fX3_inRow _ σ σW σP κ = _
      unfold fX3_inRow
      simp (disch := omega) only [g, g3, nm, bnd_s, bnd_n, bn2_s, l0, l1, l2, l3, l4, l7, l8, l9, l16, l80, l88, l200, l300, pk_mul, nI_add, nI_sb, mx1, mn1, ax_nI, nI_cl, nI_lt', nI_le', nI_eq', if_pos, if_neg, if_true, if_false]
    · have g : σ 0 1 = nI (aR A).length := hr.1.2.2.2.2.2.2
      have g3 := (hr.2.1 i r hr0).1
      have i2 : fX4_in (nI i) (nI 0) (nI ((aR A).length - 1)) = some (nI 1) := by rw [inM_eq (by omega) (by omega) (by omega), if_pos (by omega)]
      unfold fX4_inRow
      simp (disch := omega) only [g, g3, i2, nm, bnd_s, bnd_n, bn2_s, l0, l1, l2, l3, l4, l7, l8, l9, l16, l80, l88, l200, l300, pk_mul, nI_add, nI_sb, mx1, mn1, ax_nI, nI_cl, nI_lt', nI_le', nI_eq', if_pos, if_neg, if_true, if_false]
theorem waitsFor_b (hw : WF A) (a : Int32) : rdr (fun σ => fX3_waitsFor a σ σW σP κ) (fX4_waitsFor a) A := by
  rcases own_c a with ⟨o, ho, rfl⟩ | ⟨h1, h2⟩
  · rcases row_cases A o with ⟨i, r, hr, rfl, -⟩ | hno
    · refine rdr_set (wts A i) (fun σ h => ?_) fun σ h => ?_
      · obtain ⟨z, e, hz⟩ := (waitedFor_eq h hw ho).1 i r hr rfl
        refine ⟨z, ?_, hz⟩
        show fX3_waitsFor _ σ σW σP κ = _
        unfold fX3_waitsFor
        rw [ownerL_eq ho, bnd_s, if_neg n1_0, e]; rfl
      · obtain ⟨z, e, hz⟩ := (waitsM_eq h hw ho).1 i r hr rfl
        refine ⟨z, ?_, hz⟩
        unfold fX4_waitsFor
        rw [isOwnerM_ok ho, bnd_s, if_neg n1_0, e]; rfl
    · refine ⟨0, fun σ h => ?_, fun σ h => ?_⟩
      · show fX3_waitsFor _ σ σW σP κ = _
        unfold fX3_waitsFor
        rw [ownerL_eq ho, bnd_s, if_neg n1_0, (waitedFor_eq h hw ho).2 hno]; rfl
      · have e := (waitsM_eq h hw ho).2 hno
        unfold fX4_waitsFor
        rw [isOwnerM_ok ho, bnd_s, if_neg n1_0, e]; rfl
  · refine ⟨-1, fun σ h => ?_, fun σ h => ?_⟩
    · show fX3_waitsFor _ σ σW σP κ = _
      unfold fX3_waitsFor
      rw [h1]; rfl
    · unfold fX4_waitsFor
      rw [h2]; rfl
end RD
