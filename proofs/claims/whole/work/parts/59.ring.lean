/-! What the what-if questions leave behind -/
/-- all that a what-if question of the reference may touch -/
def frW (σ σ' : St) : Prop := ∀ c, c ≠ 0 → c ≠ 6 → c ≠ 9 → c ≠ 10 → σ' c = σ c
theorem frW.rf {σ : St} : frW σ σ := fun _ _ _ _ _ => rfl
theorem frW.tr {σ σ' σ'' : St} (h : frW σ σ') (h' : frW σ' σ'') : frW σ σ'' := fun c a b d e => (h' c a b d e).trans (h c a b d e)
theorem frM.W {σ σ' : St} (h : frM σ σ') : frW σ σ' := fun c a _ d e => h c a d e
theorem HM.frW {σ σ' : St} {L : List AS} (h : HM σ L) (f : frW σ σ') : HM σ' L := h.fr (f 1 (by omega) (by omega) (by omega) (by omega)) (f 2 (by omega) (by omega) (by omega) (by omega)) (f 3 (by omega) (by omega) (by omega) (by omega))
theorem SM.frW {σ σ' : St} {S : Nat → Option AS} (h : SM σ S) (f : frW σ σ') : SM σ' S := h.fr (f 4 (by omega) (by omega) (by omega) (by omega)) (f 5 (by omega) (by omega) (by omega) (by omega))
def rdw (cl : St → St → Option (Int32 × St)) (rf : St → Option (Int32 × St)) (A : AS) : Prop := ∃ v, (∀ σN σW, RepL σN A → ∃ σW', cl σN σW = some (v, σW')) ∧ ∀ σ, RepM (σ 0) A → ∃ σ', rf σ = some (v, σ') ∧ RepM (σ' 0) A ∧ frW σ σ'
theorem rdw_set {A : AS} {cl : St → St → Option (Int32 × St)} {rf : St → Option (Int32 × St)} (P : Nat → Prop) (h1 : ∀ σN σW, RepL σN A → ∃ z σW', cl σN σW = some (z, σW') ∧ isM z P) (h2 : ∀ σ, RepM (σ 0) A → ∃ z σ', rf σ = some (z, σ') ∧ isM z P ∧ RepM (σ' 0) A ∧ frW σ σ') : rdw cl rf A := by
  by_cases c : ∃ z, isM z P
  · obtain ⟨z, hz⟩ := c
    refine ⟨z, fun σN σW h => ?_, fun σ h => ?_⟩
    · obtain ⟨y, s, e, hy⟩ := h1 σN σW h
      exact ⟨s, by rw [e, isM_eq hy hz]⟩
    · obtain ⟨y, s, e, hy, r⟩ := h2 σ h
      exact ⟨s, by rw [e, isM_eq hy hz], r⟩
  · exact ⟨0, fun σN σW h => by obtain ⟨y, s, -, hy⟩ := h1 σN σW h; exact absurd ⟨y, hy⟩ c, fun σ h => by obtain ⟨y, s, -, hy, -⟩ := h2 σ h; exact absurd ⟨y, hy⟩ c⟩
theorem quit_hno {A : AS} {o : Nat} : ∀ r ∈ aR (quitA A o), r.1 ≠ o := fun r hr q => by
  have := (List.mem_filter.mp hr).2
  simp [q] at this
section RW
variable {A : AS} {σP κ : St}
/-- laid aside and back -/
theorem backA {σ s3 s : St} (h : RepM (σ 0) A) (hw : WF A) (a3 : ∀ c, c ≠ 6 → s3 c = σ c) (b3 : ∀ m, m < 2488 → s3 6 m = σ 0 m) (f : frM s3 s) : ∃ σ', fX4_layBack s = some σ' ∧ RepM (σ' 0) A ∧ frW σ σ' := by
  obtain ⟨s', e, a, b⟩ := backM (σ := s)
  refine ⟨s', e, h.congr hw fun i hi => ?_, fun c c0 c6 c9 c10 => ?_⟩
  · rw [b i hi, f 6 (by omega) (by omega) (by omega), b3 i hi]
  · rw [a c c0, f c c0 c9 c10, a3 c c6]
theorem ring_b (hw : WF A) (a b c d : Int32) : rdw (fun σN σW => fX3_ring a b c d σN σW σP κ) (fX4_ring a b c d) A := by
  rcases ask_c a b c d with ⟨o, k, f, t, ho, hk, hk3, hf, ht, rfl, rfl, rfl, rfl⟩ | ⟨v, hv, h1, -, h3⟩
  · have wq : WF (quitA A o) := hw.quitA
    have l8 : (aR (quitA A o)).length < 8 := row_lt8 wq ho quit_hno
    have wj : WF (joinA (quitA A o) o k f t) := wq.joinA ho hk hk3 hf ht quit_hno
    refine rdw_set (rg (joinA (quitA A o) o k f t) o) (fun σN σW h => ?_) fun σ h => ?_
    · obtain ⟨s5, e5, r5⟩ := becL (σ := σW) h hw
      obtain ⟨s7, e7, r7, -⟩ := quitL_eq r5 hw ho
      obtain ⟨s9, e9, r9⟩ := joinL_eq r7 wq (k := k) (f := f) (t := t) ho quit_hno l8
      obtain ⟨z, s11, e11, r11, hz⟩ := ringL_eq r9 wj ho
      refine ⟨z, s11, ?_, hz⟩
      unfold fX3_ring
      rw [ownerL_eq ho, bnd_s, if_neg n1_0, lockL_ok hk hk3, bnd_s, if_neg n1_0, rangeL_ok hf ht, bnd_s, if_neg n1_0, e5, bnd_s, e7, bnd_s, e9, bnd_s, e11]; rfl
    · obtain ⟨s3, e3, a3, b3⟩ := asideM (σ := σ)
      have r3 : RepM (s3 0) A := by rw [a3 0 (by omega)]; exact h
      rcases row_cases A o with ⟨i, r, hr, e1, -⟩ | hno
      · have hkk := hw.2.2.1 r (List.mem_of_getElem? hr)
        obtain ⟨s12, e12, f12, r12⟩ := leaveM_eq r3 hw hr
        rw [e1] at e12 r12
        obtain ⟨s14, e14, f14, r14⟩ := joinM_eq r12 wq (k := k) (f := f) (t := t) ho quit_hno l8
        obtain ⟨z, s16, e16, f16, q16, hz⟩ := ringM_eq r14 wj ho
        obtain ⟨s18, e18, r18, f18⟩ := backA h hw a3 b3 (f12.tr (f14.tr f16))
        have o0 : fX4_of (nI o) 0 s3 = some (nI r.2.1) := by rw [show fX4_of (nI o) 0 s3 = some (s3 0 (16 + 9 * o)) from ofM_eq (w := 0) ho (by omega), ← e1, (r3.2.1 i r hr).2.1]
        refine ⟨z, s18, ?_, hz, r18, f18⟩
        unfold fX4_ring
        rw [whyM_ok ho hk hk3 hf ht, bnd_s, if_pos (by decide), e3, bnd_s, o0, bnd_s, if_neg (nI_nle (by omega) (by omega)), e12, bnd_s, e14, bnd_s, e16, bn2_s, e18]; rfl
      · have o0 : fX4_of (nI o) 0 s3 = some (nI 0) := by rw [show fX4_of (nI o) 0 s3 = some (s3 0 (16 + 9 * o)) from ofM_eq (w := 0) ho (by omega), r3.2.2.1 o ho hno]; rfl
        have qn : quitA A o = A := quit_no hno
        rw [qn] at l8 wj
        obtain ⟨s14, e14, f14, r14⟩ := joinM_eq r3 hw (k := k) (f := f) (t := t) ho hno l8
        obtain ⟨z, s16, e16, f16, q16, hz⟩ := ringM_eq r14 wj ho
        obtain ⟨s18, e18, r18, f18⟩ := backA h hw a3 b3 (f14.tr f16)
        refine ⟨z, s18, ?_, by rw [qn]; exact hz, r18, f18⟩
        unfold fX4_ring
        rw [whyM_ok ho hk hk3 hf ht, bnd_s, if_pos (by decide), e3, bnd_s, o0, bnd_s, if_pos (by decide), e14, bnd_s, e16, bn2_s, e18]; rfl
  · refine ⟨v, fun σN σW h => ⟨σW, h3 _ _ _ _⟩, fun σ h => ⟨σ, ?_, h, frW.rf⟩⟩
    unfold fX4_ring
    rw [h1, bnd_s, if_neg (lt_nle hv)]
end RW
