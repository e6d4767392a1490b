/-! Reading a number: the class -/
abbrev dg (T : List Nat) (p : Nat) : Prop := 48 ≤ cd T p ∧ cd T p ≤ 57
abbrev dv (T : List Nat) (p : Nat) : Nat := cd T p - 48
/-- a digit at q goes on with the number v -/
abbrev gon (T : List Nat) (v q : Nat) : Prop := 0 < v ∧ dg T q ∧ v * 10 + dv T q ≤ 300
/-- a number that begins at p, and where it ends -/
def nmV (T : List Nat) (p : Nat) : Nat × Nat :=
  if gon T (dv T p) (p + 1) then
    (if gon T (dv T p * 10 + dv T (p + 1)) (p + 2) then ((dv T p * 10 + dv T (p + 1)) * 10 + dv T (p + 2), p + 3) else (dv T p * 10 + dv T (p + 1), p + 2))
  else (dv T p, p + 1)
theorem lp_st {L E : Type} {b : L → Option (L ⊕ E)} {n : Nat} {s s' : L} (h : b s = some (.inl s')) : lp b (n + 1) s = lp b n s' := by rw [lp, h]
theorem lp_en {L E : Type} {b : L → Option (L ⊕ E)} {n : Nat} {s : L} {e : E} (h : b s = some (.inr e)) : lp b (n + 1) s = some e := by rw [lp, h]
theorem put_put (σ : St) (k : Nat) (f g : Nat → Int32) : put (put σ k f) k g = put σ k g := by
  funext j
  by_cases c : j = k
  · subst c; rw [put_s, put_s]
  · rw [put_n _ _ c, put_n _ _ c, put_n _ _ c]
section NL
variable {σ : St} {T : List Nat}
theorem RepPL.at (h : RepPL σ T) (f : Nat → Int32) : RepPL (put σ 2 f) T := ⟨by rw [put_n _ _ (by omega)]; exact h.1, fun i c q => by rw [put_n _ _ (by omega)]; exact h.2 i c q⟩
/-- the loop ends -/
def nmE (v q : Nat) (σ : St) (e : (Int32 × Int32 × St) ⊕ (Int32 × St)) : Prop := (∃ m, e = .inl (nI v, m, put σ 2 (fun _ => nI q))) ∨ e = .inr (nI v, put σ 2 (fun _ => nI q))
theorem nmGo (h : RepPL σ T) (hT : TW T) {v m q : Nat} (hm : m < 3) (hv : v ≤ 300) (hq : q < 1000) (hg : gon T v q) : bX2_readNumber_23 (nI v) (nI m) (put σ 2 (fun _ => nI q)) = some (.inl (nI (v * 10 + dv T q), nI (m + 1), put σ 2 (fun _ => nI (q + 1)))) := by
  obtain ⟨g1, g2, g3⟩ := hg
  have hd := digitL_eq (h.at (fun _ => nI q)) hT (p := q) (by rw [put_s]) hq
  rw [if_pos g2] at hd
  have : cd T q - 48 ≤ 9 := by omega
  unfold bX2_readNumber_23
  simp (disch := omega) only [l10, hd, nm, bnd_s, bnd_n, bn2_s, l0, l1, l2, l3, l4, l7, l8, l9, l16, l80, l88, l200, l300, pk_mul, nI_add, nI_sb, mx1, mn1, ax_nI, nI_cl, nI_lt', nI_le', nI_eq', if_pos, if_neg, if_true, if_false]
  rw [put_s]
  simp (disch := omega) only [put_put, nm, bnd_s, bnd_n, bn2_s, l0, l1, l2, l3, l4, l7, l8, l9, l16, l80, l88, l200, l300, pk_mul, nI_add, nI_sb, mx1, mn1, ax_nI, nI_cl, nI_lt', nI_le', nI_eq', if_pos, if_neg, if_true, if_false]
theorem nmNo (h : RepPL σ T) (hT : TW T) {v m q : Nat} (hm : m ≤ 3) (hv : v ≤ 300) (hq : q < 1000) (hg : m = 3 ∨ ¬ gon T v q) : ∃ e, bX2_readNumber_23 (nI v) (nI m) (put σ 2 (fun _ => nI q)) = some (.inr e) ∧ nmE v q σ e := by
  by_cases c3 : m = 3
  · subst c3
    exact ⟨_, by unfold bX2_readNumber_23; rw [if_pos (by decide)], Or.inl ⟨_, rfl⟩⟩
  · have hg := hg.resolve_left c3
    by_cases c0 : v = 0
    · subst c0
      refine ⟨_, ?_, Or.inl ⟨nI m, rfl⟩⟩
      unfold bX2_readNumber_23
      simp (disch := omega) only [nm, bnd_s, bnd_n, bn2_s, l0, l1, l2, l3, l4, l7, l8, l9, l16, l80, l88, l200, l300, pk_mul, nI_add, nI_sb, mx1, mn1, ax_nI, nI_cl, nI_lt', nI_le', nI_eq', if_pos, if_neg, if_true, if_false]
    · have hd := digitL_eq (h.at (fun _ => nI q)) hT (p := q) (by rw [put_s]) hq
      by_cases c1 : dg T q
      · rw [if_pos c1] at hd
        have : cd T q - 48 ≤ 9 := by omega
        have : ¬ v * 10 + dv T q ≤ 300 := fun w => hg ⟨by omega, c1, w⟩
        refine ⟨_, ?_, Or.inr rfl⟩
        unfold bX2_readNumber_23
        simp (disch := omega) only [l10, hd, nm, bnd_s, bnd_n, bn2_s, l0, l1, l2, l3, l4, l7, l8, l9, l16, l80, l88, l200, l300, pk_mul, nI_add, nI_sb, mx1, mn1, ax_nI, nI_cl, nI_lt', nI_le', nI_eq', if_pos, if_neg, if_true, if_false]
      · rw [if_neg c1] at hd
        refine ⟨_, ?_, Or.inr rfl⟩
        unfold bX2_readNumber_23
        rw [if_neg (show ¬ 3 ≤ nI m from fun w => absurd ((nI_leI (a := 3) (by omega) (by omega)).mp w) (by omega)), if_neg (nI_nle (by omega) (by omega)), hd, bnd_s, if_pos (by decide)]
theorem numL_eq (h : RepPL σ T) (hT : TW T) {p : Nat} (hp : σ 2 0 = nI p) (hp2 : p < 900) : fX2_readNumber σ = some (if dg T p then (nI (nmV T p).1, put σ 2 (fun _ => nI (nmV T p).2)) else (-1, σ)) := by
  have hd := digitL_eq h hT hp (by omega)
  have hc := cd_lt hT p
  unfold fX2_readNumber
  rw [hd, bnd_s]
  by_cases c : dg T p
  · rw [if_pos c, if_pos c, if_pos (nI_pos' (by omega))]
    simp only [nm]
    rw [hp, l1, nI_add]
    have fin : ∀ v q, ∀ e, nmE v q σ e → el e (fun e : (Int32 × Int32 × St) => some (e.1, e.2.2)) (fun r : (Int32 × St) => some r) = some (nI v, put σ 2 (fun _ => nI q)) := by
      intro v q e he
      rcases he with ⟨m, rfl⟩ | rfl <;> rfl
    suffices hs : ∃ e, lp (fun t : (Int32 × Int32 × St) => bX2_readNumber_23 t.1 t.2.1 t.2.2) FU (nI (cd T p - 48), nI 1, put σ 2 (fun _ => nI (p + 1))) = some e ∧ nmE (nmV T p).1 (nmV T p).2 σ e by
      obtain ⟨e, he, hz⟩ := hs
      rw [he, bnd_s]
      exact fin _ _ e hz
    show ∃ e, lp (fun t : (Int32 × Int32 × St) => bX2_readNumber_23 t.1 t.2.1 t.2.2) (4997 + 1 + 1 + 1) (nI (dv T p), nI 1, put σ 2 (fun _ => nI (p + 1))) = some e ∧ _
    have d1 : dv T p ≤ 9 := by show cd T p - 48 ≤ 9; omega
    unfold nmV
    by_cases g1 : gon T (dv T p) (p + 1)
    · rw [if_pos g1, lp_st (nmGo h hT (m := 1) (by omega) (by omega) (by omega) g1)]
      by_cases g2 : gon T (dv T p * 10 + dv T (p + 1)) (p + 2)
      · rw [if_pos g2, lp_st (nmGo h hT (m := 2) (by omega) g1.2.2 (by omega) g2)]
        obtain ⟨e, he, hz⟩ := nmNo h hT (m := 3) (q := p + 3) (by omega) g2.2.2 (by omega) (Or.inl rfl)
        exact ⟨e, lp_en he, hz⟩
      · rw [if_neg g2]
        obtain ⟨e, he, hz⟩ := nmNo h hT (m := 2) (q := p + 2) (by omega) g1.2.2 (by omega) (Or.inr g2)
        exact ⟨e, lp_en he, hz⟩
    · rw [if_neg g1]
      obtain ⟨e, he, hz⟩ := nmNo h hT (m := 1) (q := p + 1) (by omega) (show dv T p ≤ 300 by omega) (by omega) (Or.inr g1)
      exact ⟨e, lp_en he, hz⟩
  · rw [if_neg c, if_neg c, if_neg (by decide)]
end NL
