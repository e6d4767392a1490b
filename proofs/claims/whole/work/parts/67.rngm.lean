/-! Reading a range: the reference -/
/-- owner, first and second number of a range that begins at p, or none; and where it ends or fails -/
def rgR (T : List Nat) (p : Nat) : Option (Nat × Nat × Nat) × Nat :=
  if ¬ (48 ≤ cd T p ∧ cd T p ≤ 55) then (none, p)
  else if cd T (p + 1) ≠ 58 then (none, p + 1)
  else if ¬ dg T (p + 2) then (none, p + 2)
  else if ovr T (p + 2) then (none, (nmV T (p + 2)).2)
  else if cd T (nmV T (p + 2)).2 ≠ 45 then (none, (nmV T (p + 2)).2)
  else if ¬ dg T ((nmV T (p + 2)).2 + 1) then (none, (nmV T (p + 2)).2 + 1)
  else if ovr T ((nmV T (p + 2)).2 + 1) then (none, (nmV T ((nmV T (p + 2)).2 + 1)).2)
  else (some (dv T p, (nmV T (p + 2)).1, (nmV T ((nmV T (p + 2)).2 + 1)).1), (nmV T ((nmV T (p + 2)).2 + 1)).2)
theorem nmV_le (T : List Nat) (p : Nat) : p + 1 ≤ (nmV T p).2 ∧ (nmV T p).2 ≤ p + 3 := by
  unfold nmV
  split
  · split <;> simp only <;> omega
  · simp only; omega
section RM
variable {σ : St} {T : List Nat} {p n : Nat}
theorem tailM_f {s4 : St} (h : RF s4 T p) (hp : p < 900) : ∃ σ', (bnd (fX4_takeNumber 1 s4) fun s6 => bnd (fX4_takeSign 45 s6) fun s8 => bnd (fX4_takeNumber 2 s8) fun s10 => some s10) = some σ' ∧ RF σ' T p ∧ frP s4 σ' := by
  obtain ⟨s6, e6, r6, f6⟩ := numM_f h 1
  obtain ⟨s8, e8, r8, f8⟩ := signM_f r6 (by omega) 45
  obtain ⟨s10, e10, r10, f10⟩ := numM_f r8 2
  exact ⟨s10, by rw [e6, bnd_s, e8, bnd_s, e10, bnd_s], r10, f6.tr (f8.tr f10)⟩
theorem rangeM_eq (h : RS σ T p n) (hT : TW T) (hp : p < 700) (hn : n < 29) : ∃ σ', fX4_takeRange σ = some σ' ∧ frP σ σ' ∧ ((rgR T p).1 = none → RF σ' T (rgR T p).2) ∧ ∀ o f t, (rgR T p).1 = some (o, f, t) → RS σ' T (rgR T p).2 n ∧ σ' 14 = σ 14 ∧ σ' 15 (4 * n) = nI o ∧ σ' 15 (4 * n + 1) = nI f ∧ σ' 15 (4 * n + 2) = nI t ∧ ∀ i, i < 4 * n → σ' 15 i = σ 15 i := by
  unfold fX4_takeRange rgR
  by_cases c1 : 48 ≤ cd T p ∧ cd T p ≤ 55
  · rw [if_neg (fun q => q c1)]
    obtain ⟨s2, e2, r2, f2, a14, a15⟩ := oneM_y h hT (by omega) hn (j := 0) (by omega) (hi := 55) (by omega) c1.1 c1.2
    rw [show fX4_takeOne 0 55 σ = _ from e2, bnd_s]
    by_cases c2 : cd T (p + 1) ≠ 58
    · rw [if_pos c2]
      obtain ⟨s4, e4, r4, f4⟩ := signM_n r2 hT (by omega) (a := 58) (by omega) c2
      obtain ⟨s10, e10, r10, f10⟩ := tailM_f r4 (by omega)
      exact ⟨s10, by rw [show fX4_takeSign 58 s2 = _ from e4, bnd_s]; exact e10, f2.tr (f4.tr f10), fun _ => r10, fun o f t q => by cases q⟩
    · rw [if_neg c2]
      obtain ⟨s4, e4, r4, f4, b14, b15⟩ := signM_y r2 hT (by omega) (a := 58) (by omega) (Classical.byContradiction c2)
      rw [show fX4_takeSign 58 s2 = _ from e4, bnd_s]
      by_cases c3 : dg T (p + 2)
      · rw [if_neg (fun q => q c3)]
        obtain ⟨s6, e6, f6, y1, y2⟩ := numM_y (p := p + 2) r4 hT (by omega) hn c3 (j := 1) (by omega)
        rw [show fX4_takeNumber 1 s4 = _ from e6, bnd_s]
        have hq := nmV_le T (p + 2)
        by_cases c4 : ovr T (p + 2)
        · rw [if_pos c4]
          obtain ⟨s8, e8, r8, f8⟩ := signM_f (y1 c4) (by omega) 45
          obtain ⟨s10, e10, r10, f10⟩ := numM_f r8 2
          exact ⟨s10, by rw [e8, bnd_s, e10, bnd_s], f2.tr (f4.tr (f6.tr (f8.tr f10))), fun _ => r10, fun o f t q => by cases q⟩
        · rw [if_neg c4]
          obtain ⟨r6, d14, d15⟩ := y2 c4
          by_cases c5 : cd T (nmV T (p + 2)).2 ≠ 45
          · rw [if_pos c5]
            obtain ⟨s8, e8, r8, f8⟩ := signM_n r6 hT (by omega) (a := 45) (by omega) c5
            obtain ⟨s10, e10, r10, f10⟩ := numM_f r8 2
            exact ⟨s10, by rw [show fX4_takeSign 45 s6 = _ from e8, bnd_s, e10, bnd_s], f2.tr (f4.tr (f6.tr (f8.tr f10))), fun _ => r10, fun o f t q => by cases q⟩
          · rw [if_neg c5]
            obtain ⟨s8, e8, r8, f8, g14, g15⟩ := signM_y r6 hT (by omega) (a := 45) (by omega) (Classical.byContradiction c5)
            rw [show fX4_takeSign 45 s6 = _ from e8, bnd_s]
            by_cases c6 : dg T ((nmV T (p + 2)).2 + 1)
            · rw [if_neg (fun q => q c6)]
              obtain ⟨s10, e10, f10, z1, z2⟩ := numM_y r8 hT (by omega) hn c6 (j := 2) (by omega)
              have e10 : fX4_takeNumber 2 s8 = some s10 := e10
              by_cases c7 : ovr T ((nmV T (p + 2)).2 + 1)
              · rw [if_pos c7]
                exact ⟨s10, by rw [e10, bnd_s], f2.tr (f4.tr (f6.tr (f8.tr f10))), fun _ => z1 c7, fun o f t q => by cases q⟩
              · rw [if_neg c7]
                obtain ⟨r10, h14, h15⟩ := z2 c7
                refine ⟨s10, by rw [e10, bnd_s], f2.tr (f4.tr (f6.tr (f8.tr f10))), fun q => (by cases q), fun o f t q => ?_⟩
                cases q
                refine ⟨r10, by rw [h14, g14, d14, b14, a14], ?_, ?_, ?_, fun i hi => ?_⟩
                · rw [h15, upd_n _ _ (by omega), g15, d15, upd_n _ _ (by omega), b15, a15]
                  exact upd_s _ _ _
                · rw [h15, upd_n _ _ (by omega), g15, d15, upd_s]
                · rw [h15, upd_s]
                · rw [h15, upd_n _ _ (by omega), g15, d15, upd_n _ _ (by omega), b15, a15, upd_n _ _ (by omega)]
            · rw [if_pos c6]
              obtain ⟨s10, e10, r10, f10⟩ := numM_n r8 hT (by omega) c6 2
              exact ⟨s10, by rw [e10, bnd_s], f2.tr (f4.tr (f6.tr (f8.tr f10))), fun _ => r10, fun o f t q => by cases q⟩
      · rw [if_pos c3]
        obtain ⟨s6, e6, r6, f6⟩ := numM_n (p := p + 2) r4 hT (by omega) c3 1
        obtain ⟨s8, e8, r8, f8⟩ := signM_f r6 (by omega) 45
        obtain ⟨s10, e10, r10, f10⟩ := numM_f r8 2
        exact ⟨s10, by rw [e6, bnd_s, e8, bnd_s, e10, bnd_s], f2.tr (f4.tr (f6.tr (f8.tr f10))), fun _ => r10, fun o f t q => by cases q⟩
  · rw [if_pos c1]
    obtain ⟨s2, e2, r2, f2⟩ := oneM_n h hT (by omega) 0 (hi := 55) (by omega) c1
    obtain ⟨s4, e4, r4, f4⟩ := signM_f r2 (by omega) 58
    obtain ⟨s10, e10, r10, f10⟩ := tailM_f r4 (by omega)
    exact ⟨s10, by rw [show fX4_takeOne 0 55 σ = _ from e2, bnd_s, e4, bnd_s]; exact e10, f2.tr (f4.tr f10), fun _ => r10, fun o f t q => by cases q⟩
end RM
