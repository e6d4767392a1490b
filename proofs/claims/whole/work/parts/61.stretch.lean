/-! Stretches one by one, on both sides -/
/-- the length of the stretch that begins at p -/
def lnZ (A : AS) (o p m : Nat) : Prop := 1 ≤ m ∧ p + m ≤ 300 ∧ (∀ j, 1 ≤ j → j < m → aK A o (p + j) = aK A o p) ∧ (p + m = 300 ∨ aK A o (p + m) ≠ aK A o p)
theorem lnZ_u {A : AS} {o p m m' : Nat} (h : lnZ A o p m) (h' : lnZ A o p m') : m = m' := by
  obtain ⟨a, b, c, d⟩ := h
  obtain ⟨a', b', c', d'⟩ := h'
  rcases Nat.lt_trichotomy m m' with q | q | q
  · rcases d with d | d
    · omega
    · exact absurd (c' m a q) d
  · exact q
  · rcases d' with d' | d'
    · omega
    · exact absurd (c m' a' q) d'
section SS
variable {A : AS} {σ : St} {σW σP κ : St}
theorem startOfL (h : RepL σ A) (hw : WF A) {o : Nat} (ho : o < 8) (b : Int32) : (∃ p, p < 300 ∧ isSt A o p ∧ b = nI (cnt (isSt A o) p) ∧ fX1_startOfStretch (nI o) b σ = some (nI p)) ∨ ((∀ p, p < 300 → isSt A o p → b ≠ nI (cnt (isSt A o) p)) ∧ fX1_startOfStretch (nI o) b σ = some (-1)) := by
  obtain ⟨e, he, hz⟩ := lp_rngB (b := fun t : (Int32 × Int32) => bX1_startOfStretch_5 (nI o) b σ t.1 t.2)
    (fun j x => x = (nI (cnt (isSt A o) j), nI j) ∧ ∀ p, p < j → isSt A o p → b ≠ nI (cnt (isSt A o) p))
    (fun e => (∃ p, p < 300 ∧ isSt A o p ∧ b = nI (cnt (isSt A o) p) ∧ e = .inr (nI p)) ∨ ((∀ p, p < 300 → isSt A o p → b ≠ nI (cnt (isSt A o) p)) ∧ ∃ y, e = .inl y)) 0 300
    (fun j x _ hj hx => by
      obtain ⟨rfl, hno⟩ := hx
      have hc := cnt_le (isSt A o) j
      have s := startL_eq h hw ho hj
      show (∃ s', bX1_startOfStretch_5 (nI o) b σ (nI (cnt (isSt A o) j)) (nI j) = some (.inl s') ∧ _) ∨ ∃ e, bX1_startOfStretch_5 (nI o) b σ (nI (cnt (isSt A o) j)) (nI j) = some (.inr e) ∧ _
      by_cases c : isSt A o j
      · rw [if_pos c] at s
        by_cases q : nI (cnt (isSt A o) j) = b
        · right
          refine ⟨.inr (nI j), ?_, Or.inl ⟨j, hj, c, q.symm, rfl⟩⟩
          unfold bX1_startOfStretch_5
          simp (disch := omega) only [l300, s, eq_true q, nm, bnd_s, bnd_n, bn2_s, l0, l1, l2, l3, l4, l7, l8, l9, l16, l80, l88, l200, l300, pk_mul, nI_add, nI_sb, mx1, mn1, ax_nI, nI_cl, nI_lt', nI_le', nI_eq', if_pos, if_neg, if_true, if_false]
        · left
          refine ⟨(nI (cnt (isSt A o) j + 1), nI (j + 1)), ?_, by rw [cnt_s c], fun p hp hs => ?_⟩
          · unfold bX1_startOfStretch_5
            simp (disch := omega) only [l300, s, eq_false q, nm, bnd_s, bnd_n, bn2_s, l0, l1, l2, l3, l4, l7, l8, l9, l16, l80, l88, l200, l300, pk_mul, nI_add, nI_sb, mx1, mn1, ax_nI, nI_cl, nI_lt', nI_le', nI_eq', if_pos, if_neg, if_true, if_false]
          · by_cases e : p = j
            · subst e; exact fun w => q w.symm
            · exact hno p (by omega) hs
      · rw [if_neg c] at s
        left
        refine ⟨(nI (cnt (isSt A o) j), nI (j + 1)), ?_, by rw [cnt_ns c], fun p hp hs => ?_⟩
        · unfold bX1_startOfStretch_5
          simp (disch := omega) only [l300, s, nm, bnd_s, bnd_n, bn2_s, l0, l1, l2, l3, l4, l7, l8, l9, l16, l80, l88, l200, l300, pk_mul, nI_add, nI_sb, mx1, mn1, ax_nI, nI_cl, nI_lt', nI_le', nI_eq', if_pos, if_neg, if_true, if_false]
        · by_cases e : p = j
          · subst e; exact absurd hs c
          · exact hno p (by omega) hs)
    (fun x hx => by
      obtain ⟨rfl, hno⟩ := hx
      exact ⟨.inl (nI (cnt (isSt A o) 300), nI 300), by show bX1_startOfStretch_5 _ _ _ _ (nI 300) = _; unfold bX1_startOfStretch_5; rw [if_pos (by decide)], Or.inr ⟨hno, _, rfl⟩⟩) (nI 0, nI 0) (by omega) ⟨rfl, fun p hp => by omega⟩ (by omega)
  rcases hz with ⟨p, a1, a2, a3, rfl⟩ | ⟨a1, y, rfl⟩
  · refine Or.inl ⟨p, a1, a2, a3, ?_⟩
    unfold fX1_startOfStretch
    rw [show lp (fun t : (Int32 × Int32) => bX1_startOfStretch_5 (nI o) b σ t.1 t.2) FU ((0 : Int32), (0 : Int32)) = _ from he]; rfl
  · refine Or.inr ⟨a1, ?_⟩
    unfold fX1_startOfStretch
    rw [show lp (fun t : (Int32 × Int32) => bX1_startOfStretch_5 (nI o) b σ t.1 t.2) FU ((0 : Int32), (0 : Int32)) = _ from he]; rfl
theorem lengthL (h : RepL σ A) (hw : WF A) {o p : Nat} (ho : o < 8) (hp : p < 300) : ∃ m, lnZ A o p m ∧ fX1_lengthOfStretch (nI o) (nI p) σ = some (nI m) := by
  have k0 := hw.1 o p ho hp
  obtain ⟨e, he, m, rfl, hm⟩ := lp_rngB (b := fun t : Int32 => bX1_lengthOfStretch_12 (nI o) σ (nI (aK A o p)) t)
    (fun j x => x = nI j ∧ p + 1 ≤ j ∧ ∀ i, p + 1 ≤ i → i < j → aK A o i = aK A o p)
    (fun e => ∃ m, e = nI (p + m) ∧ lnZ A o p m) (p + 1) 300
    (fun j x _ hj hx => by
      obtain ⟨rfl, h1, hal⟩ := hx
      have k1 := hw.1 o j ho hj
      show (∃ s', bX1_lengthOfStretch_12 (nI o) σ (nI (aK A o p)) (nI j) = some (.inl s') ∧ _) ∨ ∃ e, bX1_lengthOfStretch_12 (nI o) σ (nI (aK A o p)) (nI j) = some (.inr e) ∧ _
      by_cases c : aK A o j = aK A o p
      · left
        refine ⟨nI (j + 1), ?_, rfl, by omega, fun i h1 h2 => ?_⟩
        · unfold bX1_lengthOfStretch_12
          simp (disch := omega) only [l300, kindAt_eq h hw ho hj, c, nm, bnd_s, bnd_n, bn2_s, l0, l1, l2, l3, l4, l7, l8, l9, l16, l80, l88, l200, l300, pk_mul, nI_add, nI_sb, mx1, mn1, ax_nI, nI_cl, nI_lt', nI_le', nI_eq', if_pos, if_neg, if_true, if_false]
        · by_cases e : i = j
          · subst e; exact c
          · exact hal i h1 (by omega)
      · right
        refine ⟨nI j, ?_, j - p, by rw [show p + (j - p) = j by omega], by omega, by omega, fun i h1 h2 => hal (p + i) (by omega) (by omega), Or.inr (by rw [show p + (j - p) = j by omega]; exact c)⟩
        unfold bX1_lengthOfStretch_12
        simp (disch := omega) only [l300, kindAt_eq h hw ho hj, nm, bnd_s, bnd_n, bn2_s, l0, l1, l2, l3, l4, l7, l8, l9, l16, l80, l88, l200, l300, pk_mul, nI_add, nI_sb, mx1, mn1, ax_nI, nI_cl, nI_lt', nI_le', nI_eq', if_pos, if_neg, if_true, if_false])
    (fun x hx => by
      obtain ⟨rfl, h1, hal⟩ := hx
      refine ⟨nI 300, by show bX1_lengthOfStretch_12 _ _ _ (nI 300) = _; unfold bX1_lengthOfStretch_12; rw [if_pos (by decide)], 300 - p, by rw [show p + (300 - p) = 300 by omega], by omega, by omega, fun i h1 h2 => hal (p + i) (by omega) (by omega), Or.inl (by omega)⟩) (nI (p + 1)) (by omega) ⟨rfl, by omega, fun i h1 h2 => by omega⟩ (by omega)
  refine ⟨m, hm, ?_⟩
  have := hm.2.1
  unfold fX1_lengthOfStretch
  rw [kindAt_eq h hw ho hp, bnd_s]
  simp only [nm]
  rw [l1, nI_add, show lp (fun t : Int32 => bX1_lengthOfStretch_12 (nI o) σ (nI (aK A o p)) t) FU (nI (p + 1)) = _ from he, bnd_s, nI_sb (by omega), Nat.add_sub_cancel_left]
theorem stretchLoopM (h : RepM (σ 0) A) (hw : WF A) {o p : Nat} (ho : o < 8) (hp : p < 300) (hs : isSt A o p) : ∃ y, lp (fun t : (Int32 × Int32) => bX4_stretch_42 (nI o) σ t.1 t.2) FU (nI (cnt (isSt A o) p), nI 0) = some (y, nI p) := by
  obtain ⟨e, he, y, rfl⟩ := lp_rng (b := fun t : (Int32 × Int32) => bX4_stretch_42 (nI o) σ t.1 t.2)
    (fun j x => x = (nI (cnt (isSt A o) p - cnt (isSt A o) j), nI j)) (fun e => ∃ y, e = (y, nI p)) 0 p
    (fun j x _ hj hx => by
      subst hx
      have s := beginM_eq h hw ho (show j < 300 by omega)
      have c1 := cnt_mono (P := isSt A o) (show j + 1 ≤ p by omega)
      have c2 := cnt_le (isSt A o) p
      show ∃ s', bX4_stretch_42 (nI o) σ (nI (cnt (isSt A o) p - cnt (isSt A o) j)) (nI j) = some (.inl s') ∧ _
      by_cases c : isSt A o j
      · rw [if_pos c] at s
        rw [cnt_s c] at c1
        refine ⟨(nI (cnt (isSt A o) p - cnt (isSt A o) j - 1), nI (j + 1)), ?_, by rw [cnt_s c, Nat.sub_sub]⟩
        unfold bX4_stretch_42
        simp (disch := omega) only [s, nm, bnd_s, bnd_n, bn2_s, l0, l1, l2, l3, l4, l7, l8, l9, l16, l80, l88, l200, l300, pk_mul, nI_add, nI_sb, mx1, mn1, ax_nI, nI_cl, nI_lt', nI_le', nI_eq', if_pos, if_neg, if_true, if_false]
      · rw [if_neg c] at s
        refine ⟨(nI (cnt (isSt A o) p - cnt (isSt A o) j - 0), nI (j + 1)), ?_, by rw [cnt_ns c, Nat.sub_zero]⟩
        unfold bX4_stretch_42
        simp (disch := omega) only [s, nm, bnd_s, bnd_n, bn2_s, l0, l1, l2, l3, l4, l7, l8, l9, l16, l80, l88, l200, l300, pk_mul, nI_add, nI_sb, mx1, mn1, ax_nI, nI_cl, nI_lt', nI_le', nI_eq', if_pos, if_neg, if_true, if_false])
    (fun x hx => by
      subst hx
      have s := beginM_eq h hw ho hp
      rw [if_pos hs] at s
      refine ⟨(nI (cnt (isSt A o) p - cnt (isSt A o) p), nI p), ?_, _, rfl⟩
      show bX4_stretch_42 (nI o) σ (nI (cnt (isSt A o) p - cnt (isSt A o) p)) (nI p) = _
      rw [Nat.sub_self]
      unfold bX4_stretch_42
      simp (disch := omega) only [s, nm, bnd_s, bnd_n, bn2_s, l0, l1, l2, l3, l4, l7, l8, l9, l16, l80, l88, l200, l300, pk_mul, nI_add, nI_sb, mx1, mn1, ax_nI, nI_cl, nI_lt', nI_le', nI_eq', if_pos, if_neg, if_true, if_false]) (nI (cnt (isSt A o) p), nI 0) (by omega) (by rw [cnt, Nat.sub_zero]) (by omega)
  exact ⟨y, he⟩
theorem lengthM (h : RepM (σ 0) A) (hw : WF A) {o p : Nat} (ho : o < 8) (hp : p < 300) : ∃ m, lnZ A o p m ∧ lp (fun t : Int32 => bX4_stretch_86 (nI o) σ (nI p) t) FU (nI 1) = some (nI m) := by
  have k0 := hw.1 o p ho hp
  obtain ⟨e, he, m, rfl, hm⟩ := lp_rngB (b := fun t : Int32 => bX4_stretch_86 (nI o) σ (nI p) t)
    (fun j x => x = nI j ∧ 1 ≤ j ∧ ∀ i, 1 ≤ i → i < j → aK A o (p + i) = aK A o p)
    (fun e => ∃ m, e = nI m ∧ lnZ A o p m) 1 (300 - p)
    (fun j x _ hj hx => by
      obtain ⟨rfl, h1, hal⟩ := hx
      have k1 := hw.1 o (p + j) ho (by omega)
      show (∃ s', bX4_stretch_86 (nI o) σ (nI p) (nI j) = some (.inl s') ∧ _) ∨ ∃ e, bX4_stretch_86 (nI o) σ (nI p) (nI j) = some (.inr e) ∧ _
      by_cases c : aK A o (p + j) = aK A o p
      · left
        refine ⟨nI (j + 1), ?_, rfl, by omega, fun i h1 h2 => ?_⟩
        · unfold bX4_stretch_86
          simp (disch := omega) only [l300, lockM_eq h ho (show p + j < 300 by omega), lockM_eq h ho hp, c, nm, bnd_s, bnd_n, bn2_s, l0, l1, l2, l3, l4, l7, l8, l9, l16, l80, l88, l200, l300, pk_mul, nI_add, nI_sb, mx1, mn1, ax_nI, nI_cl, nI_lt', nI_le', nI_eq', if_pos, if_neg, if_true, if_false]
        · by_cases e : i = j
          · subst e; exact c
          · exact hal i h1 (by omega)
      · right
        refine ⟨nI j, ?_, j, rfl, by omega, by omega, hal, Or.inr c⟩
        unfold bX4_stretch_86
        simp (disch := omega) only [l300, lockM_eq h ho (show p + j < 300 by omega), lockM_eq h ho hp, nm, bnd_s, bnd_n, bn2_s, l0, l1, l2, l3, l4, l7, l8, l9, l16, l80, l88, l200, l300, pk_mul, nI_add, nI_sb, mx1, mn1, ax_nI, nI_cl, nI_lt', nI_le', nI_eq', if_pos, if_neg, if_true, if_false])
    (fun x hx => by
      obtain ⟨rfl, h1, hal⟩ := hx
      refine ⟨nI (300 - p), ?_, 300 - p, rfl, by omega, by omega, hal, Or.inl (by omega)⟩
      show bX4_stretch_86 (nI o) σ (nI p) (nI (300 - p)) = _
      unfold bX4_stretch_86
      simp (disch := omega) only [l300, nm, bnd_s, bnd_n, bn2_s, l0, l1, l2, l3, l4, l7, l8, l9, l16, l80, l88, l200, l300, pk_mul, nI_add, nI_sb, mx1, mn1, ax_nI, nI_cl, nI_lt', nI_le', nI_eq', if_pos, if_neg, if_true, if_false]) (nI 1) (by omega) ⟨rfl, by omega, fun i h1 h2 => by omega⟩ (by omega)
  exact ⟨m, hm, he⟩
end SS
