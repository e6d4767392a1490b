/-! Reading a range: the class -/
theorem nmV_v {T : List Nat} (hT : TW T) (p : Nat) : (nmV T p).1 ≤ 2000 := by
  unfold nmV
  split
  · rename_i g1
    split
    · rename_i g2; have := g2.2.2; simp only; omega
    · have := g1.2.2; simp only; omega
  · have := cd_lt hT p; show cd T p - 48 ≤ 2000; omega
section RL
variable {σ : St} {T : List Nat}
theorem skipL_eq (h : RepPL σ T) (hT : TW T) {q : Nat} (hq : σ 2 0 = nI q) (hq2 : q < 900) {a : Nat} (ha : a < 200) : (cd T q = a → fX2_skip (nI a) σ = some (1, put σ 2 (fun _ => nI (q + 1)))) ∧ (cd T q ≠ a → fX2_skip (nI a) σ = some (0, σ)) := by
  have hc := cd_lt hT q
  have e := signL_eq h hT hq (by omega)
  refine ⟨fun c => ?_, fun c => ?_⟩
  · unfold fX2_skip
    rw [e, bnd_s, c, if_pos rfl]
    simp only [nm]
    rw [hq, l1, nI_add]
  · unfold fX2_skip
    rw [e, bnd_s, if_neg (fun w => c ((nI_eq (by omega) (by omega)).mp w))]
theorem RepPL.pt (h : RepPL σ T) {k : Nat} (h0 : k ≠ 0) (h1 : k ≠ 1) (f : Nat → Int32) : RepPL (put σ k f) T := ⟨by rw [put_n _ _ (by omega)]; exact h.1, fun i c q => by rw [put_n _ _ (by omega)]; exact h.2 i c q⟩
theorem ownerL_rd (h : RepPL σ T) (hT : TW T) {p : Nat} (hp : σ 2 0 = nI p) (hp2 : p < 900) : ((48 ≤ cd T p ∧ cd T p ≤ 55) → fX2_readOwner σ = some (1, put (put σ 4 (fun _ => nI (dv T p))) 2 (fun _ => nI (p + 1)))) ∧ (¬ (48 ≤ cd T p ∧ cd T p ≤ 55) → ∃ v, fX2_readOwner σ = some (0, put σ 4 (fun _ => v))) := by
  have e := digitL_eq h hT hp (by omega)
  have hc := cd_lt hT p
  refine ⟨fun c => ?_, fun c => ?_⟩
  · rw [if_pos ⟨c.1, by omega⟩] at e
    unfold fX2_readOwner
    rw [e, bnd_s]
    simp only [nm]
    rw [put_s, ownerL_eq (o := cd T p - 48) (by omega), bnd_s, if_neg n1_0, put_n _ _ (by omega), hp, l1, nI_add]
  · by_cases c2 : cd T p = 56 ∨ cd T p = 57
    · rw [if_pos (by omega)] at e
      refine ⟨nI (cd T p - 48), ?_⟩
      unfold fX2_readOwner
      rw [e, bnd_s]
      simp only [nm]
      have : fX3_isOwner (nI (cd T p - 48)) = some 0 := by
        rcases c2 with q | q <;> rw [q] <;> rfl
      rw [put_s, this, bnd_s, if_pos rfl]
    · rw [if_neg (by omega)] at e
      refine ⟨-1, ?_⟩
      unfold fX2_readOwner
      rw [e, bnd_s]
      simp only [nm]
      rw [put_s, show fX3_isOwner (-1) = some 0 from rfl, bnd_s, if_pos rfl]
theorem rangeL_rd (h : RepPL σ T) (hT : TW T) {p : Nat} (hp : σ 2 0 = nI (p + 1)) (hp2 : p < 700) (ho : 48 ≤ cd T p ∧ cd T p ≤ 55) : ∃ r σ', fX2_readRange σ = some (r, σ') ∧ RepPL σ' T ∧ σ' 3 = σ 3 ∧ σ' 4 = σ 4 ∧ σ' 7 = σ 7 ∧ σ' 2 0 = nI (rgR T p).2 ∧ ((rgR T p).1 = none → r = 0 ∨ (r = 1 ∧ dg T (rgR T p).2)) ∧ ∀ o f t, (rgR T p).1 = some (o, f, t) → r = 1 ∧ σ' 5 0 = nI f ∧ σ' 6 0 = nI t := by
  unfold fX2_readRange rgR
  rw [if_neg (fun q => q ho)]
  obtain ⟨y1, n1⟩ := skipL_eq h hT hp (by omega) (a := 58) (by omega)
  by_cases c2 : cd T (p + 1) ≠ 58
  · rw [if_pos c2, show fX2_skip 58 σ = _ from n1 c2, bn2_s, if_pos rfl]
    exact ⟨0, σ, rfl, h, rfl, rfl, rfl, hp, fun _ => Or.inl rfl, fun o f t q => by cases q⟩
  · rw [if_neg c2, show fX2_skip 58 σ = _ from y1 (Classical.byContradiction c2), bn2_s, if_neg (by decide)]
    obtain ⟨s2, hs2⟩ : ∃ s, s = put σ 2 (fun _ => nI (p + 1 + 1)) := ⟨_, rfl⟩
    rw [← hs2]
    have h2 : RepPL s2 T := by rw [hs2]; exact h.pt (by omega) (by omega) _
    have p2 : s2 2 0 = nI (p + 2) := by rw [hs2, put_s]
    have k2 : ∀ c, c ≠ 2 → s2 c = σ c := fun c hc => by rw [hs2, put_n _ _ hc]
    have e3 := numL_eq h2 hT p2 (by omega)
    by_cases c3 : dg T (p + 2)
    · rw [if_pos c3] at e3
      rw [e3, if_neg (fun q : ¬ dg T (p + 2) => q c3), bn2_s]
      simp only [nm]
      have hq := nmV_le T (p + 2)
      have v3 := nmV_v hT (p + 2)
      obtain ⟨s5, hs5⟩ : ∃ s, s = put (put s2 2 (fun _ => nI (nmV T (p + 2)).2)) 5 (fun _ => nI (nmV T (p + 2)).1) := ⟨_, rfl⟩
      rw [← hs5, show s5 5 0 = nI (nmV T (p + 2)).1 by rw [hs5, put_s], if_neg (nI_pos (by omega))]
      have h5 : RepPL s5 T := by rw [hs5]; exact (h2.pt (by omega) (by omega) _).pt (by omega) (by omega) _
      have p5 : s5 2 0 = nI (nmV T (p + 2)).2 := by rw [hs5, put_n _ _ (by omega), put_s]
      have k5 : ∀ c, c ≠ 2 → c ≠ 5 → s5 c = σ c := fun c hc hc5 => by rw [hs5, put_n _ _ hc5, put_n _ _ hc, k2 c hc]
      obtain ⟨y4, n4⟩ := skipL_eq h5 hT p5 (by omega) (a := 45) (by omega)
      by_cases c5 : cd T (nmV T (p + 2)).2 ≠ 45
      · rw [show fX2_skip 45 s5 = _ from n4 c5, bn2_s, if_pos rfl]
        refine ⟨0, s5, rfl, h5, k5 3 (by omega) (by omega), k5 4 (by omega) (by omega), k5 7 (by omega) (by omega), ?_, fun _ => Or.inl rfl, fun o f t q => ?_⟩
        · by_cases c4 : ovr T (p + 2)
          · rw [if_pos c4, p5]
          · rw [if_neg c4, if_pos c5, p5]
        · by_cases c4 : ovr T (p + 2)
          · rw [if_pos c4] at q; cases q
          · rw [if_neg c4, if_pos c5] at q; cases q
      · have c5' : cd T (nmV T (p + 2)).2 = 45 := Classical.byContradiction c5
        have c4 : ¬ ovr T (p + 2) := fun q => by
          have q2 : dg T (nmV T (p + 2)).2 := q.2
          have := q2.1; omega
        rw [if_neg c4, if_neg c5, show fX2_skip 45 s5 = _ from y4 c5', bn2_s, if_neg (by decide)]
        obtain ⟨s7, hs7⟩ : ∃ s, s = put s5 2 (fun _ => nI ((nmV T (p + 2)).2 + 1)) := ⟨_, rfl⟩
        rw [← hs7]
        have h7 : RepPL s7 T := by rw [hs7]; exact h5.pt (by omega) (by omega) _
        have p7 : s7 2 0 = nI ((nmV T (p + 2)).2 + 1) := by rw [hs7, put_s]
        have k7 : ∀ c, c ≠ 2 → s7 c = s5 c := fun c hc => by rw [hs7, put_n _ _ hc]
        have e6 := numL_eq h7 hT p7 (by omega)
        by_cases c6 : dg T ((nmV T (p + 2)).2 + 1)
        · rw [if_pos c6] at e6
          rw [e6, if_neg (fun q : ¬ dg T ((nmV T (p + 2)).2 + 1) => q c6), bn2_s]
          show ∃ r σ', (if (put (put s7 2 (fun _ => nI (nmV T ((nmV T (p + 2)).2 + 1)).2)) 6 (fun _ => nI (nmV T ((nmV T (p + 2)).2 + 1)).1)) 6 0 < 0 then some ((0 : Int32), put (put s7 2 (fun _ => nI (nmV T ((nmV T (p + 2)).2 + 1)).2)) 6 (fun _ => nI (nmV T ((nmV T (p + 2)).2 + 1)).1)) else some ((1 : Int32), put (put s7 2 (fun _ => nI (nmV T ((nmV T (p + 2)).2 + 1)).2)) 6 (fun _ => nI (nmV T ((nmV T (p + 2)).2 + 1)).1))) = some (r, σ') ∧ _
          have v4 := nmV_v hT ((nmV T (p + 2)).2 + 1)
          obtain ⟨s10, hs10⟩ : ∃ s, s = put (put s7 2 (fun _ => nI (nmV T ((nmV T (p + 2)).2 + 1)).2)) 6 (fun _ => nI (nmV T ((nmV T (p + 2)).2 + 1)).1) := ⟨_, rfl⟩
          rw [← hs10, show s10 6 0 = nI (nmV T ((nmV T (p + 2)).2 + 1)).1 by rw [hs10, put_s], if_neg (nI_pos (by omega))]
          have k10 : ∀ c, c ≠ 2 → c ≠ 6 → s10 c = s5 c := fun c hc hc6 => by rw [hs10, put_n _ _ hc6, put_n _ _ hc, k7 c hc]
          refine ⟨1, s10, rfl, by rw [hs10]; exact (h7.pt (by omega) (by omega) _).pt (by omega) (by omega) _, by rw [k10 3 (by omega) (by omega)]; exact k5 3 (by omega) (by omega), by rw [k10 4 (by omega) (by omega)]; exact k5 4 (by omega) (by omega), by rw [k10 7 (by omega) (by omega)]; exact k5 7 (by omega) (by omega), ?_, fun q => ?_, fun o f t q => ?_⟩
          · have : s10 2 0 = nI (nmV T ((nmV T (p + 2)).2 + 1)).2 := by rw [hs10, put_n _ _ (by omega), put_s]
            rw [this]
            split <;> rfl
          · by_cases c7 : ovr T ((nmV T (p + 2)).2 + 1)
            · rw [if_pos c7]; exact Or.inr ⟨rfl, c7.2⟩
            · rw [if_neg c7] at q; cases q
          · by_cases c7 : ovr T ((nmV T (p + 2)).2 + 1)
            · rw [if_pos c7] at q; cases q
            · rw [if_neg c7] at q
              cases q
              exact ⟨rfl, by rw [k10 5 (by omega) (by omega), hs5, put_s], by rw [hs10, put_s]⟩
        · rw [if_neg c6] at e6
          rw [e6, if_pos c6, bn2_s]
          simp only [nm]
          rw [put_s, if_pos (by decide)]
          refine ⟨0, put s7 6 (fun _ => -1), rfl, h7.pt (by omega) (by omega) _, by rw [put_n _ _ (by omega), k7 3 (by omega)]; exact k5 3 (by omega) (by omega), by rw [put_n _ _ (by omega), k7 4 (by omega)]; exact k5 4 (by omega) (by omega), by rw [put_n _ _ (by omega), k7 7 (by omega)]; exact k5 7 (by omega) (by omega), by rw [put_n _ _ (by omega)]; exact p7, fun _ => Or.inl rfl, fun o f t q => by cases q⟩
    · rw [if_neg c3] at e3
      rw [e3, if_pos c3, bn2_s]
      simp only [nm]
      rw [put_s, if_pos (by decide)]
      exact ⟨0, put s2 5 (fun _ => -1), rfl, h2.pt (by omega) (by omega) _, by rw [put_n _ _ (by omega)]; exact k2 3 (by omega), by rw [put_n _ _ (by omega)]; exact k2 4 (by omega), by rw [put_n _ _ (by omega)]; exact k2 7 (by omega), by rw [put_n _ _ (by omega)]; exact p2, fun _ => Or.inl rfl, fun o f t q => by cases q⟩
end RL
