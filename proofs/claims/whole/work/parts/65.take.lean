/-! Reading signs and digits: the reference -/
def frP (σ σ' : St) : Prop := ∀ c, c ≠ 11 → c ≠ 12 → c ≠ 13 → c ≠ 14 → c ≠ 15 → σ' c = σ c
theorem frP.rf {σ : St} : frP σ σ := fun _ _ _ _ _ _ => rfl
theorem frP.tr {σ σ' σ'' : St} (h : frP σ σ') (h' : frP σ' σ'') : frP σ σ'' := fun c a b d e f => (h' c a b d e f).trans (h c a b d e f)
theorem RepPM.fr {σ σ' : St} {T : List Nat} (h : RepPM σ T) (f : frP σ σ') : RepPM σ' T := by
  unfold RepPM
  rw [f 7 (by omega) (by omega) (by omega) (by omega) (by omega), f 8 (by omega) (by omega) (by omega) (by omega) (by omega)]
  exact h
/-- the reference stands at p, without a fault, with n orders -/
def RS (σ : St) (T : List Nat) (p n : Nat) : Prop := RepPM σ T ∧ σ 12 0 = nI 0 ∧ σ 11 0 = nI p ∧ σ 13 0 = nI n
/-- it has found a fault at p -/
def RF (σ : St) (T : List Nat) (p : Nat) : Prop := RepPM σ T ∧ σ 12 0 = nI 1 ∧ σ 11 0 = nI p
section TM
variable {σ : St} {T : List Nat} {p n : Nat}
theorem oneM_f (h : RF σ T p) (a b : Int32) : ∃ σ', fX4_takeOne a b σ = some σ' ∧ RF σ' T p ∧ frP σ σ' := by
  obtain ⟨h1, h2, h3⟩ := h
  have f : frP σ (put σ 12 (fun _ => 1)) := fun c _ c2 _ _ _ => put_n _ _ c2
  refine ⟨put σ 12 (fun _ => 1), ?_, ⟨h1.fr f, by rw [put_s]; rfl, by rw [put_n _ _ (by omega)]; exact h3⟩, f⟩
  unfold fX4_takeOne
  rw [h2, if_neg n1_0]
  simp only [nm]
  rw [put_s, if_neg (by decide)]
theorem signM_f (h : RF σ T p) (hp : p < 1000) (a : Int32) : ∃ σ', fX4_takeSign a σ = some σ' ∧ RF σ' T p ∧ frP σ σ' := by
  obtain ⟨h1, h2, h3⟩ := h
  have f : frP σ (put (put σ 12 (fun _ => 1)) 11 (fun _ => nI p)) := fun c c1 c2 _ _ _ => by rw [put_n _ _ c1, put_n _ _ c2]
  refine ⟨put (put σ 12 (fun _ => 1)) 11 (fun _ => nI p), ?_, ⟨h1.fr f, by rw [put_n _ _ (by omega), put_s]; rfl, by rw [put_s]⟩, f⟩
  unfold fX4_takeSign
  rw [h2, if_neg n1_0]
  simp only [nm]
  rw [put_s, if_neg (by decide), put_n _ _ (by omega), h3, Int32.add_zero]
theorem oneM_y (h : RS σ T p n) (hT : TW T) (hp : p < 900) (hn : n < 29) {j hi : Nat} (hj : j < 4) (hh : hi < 100) (h1 : 48 ≤ cd T p) (h2 : cd T p ≤ hi) : ∃ σ', fX4_takeOne (nI j) (nI hi) σ = some σ' ∧ RS σ' T (p + 1) n ∧ frP σ σ' ∧ σ' 14 = σ 14 ∧ σ' 15 = upd (σ 15) (4 * n + j) (nI (cd T p - 48)) := by
  obtain ⟨g1, g2, g3, g4⟩ := h
  have hc := cd_lt hT p
  have e1 := nextM_eq g1 hT g3 (by omega)
  have i1 : fX4_in (nI (cd T p)) 48 (nI hi) = some (nI 1) := by rw [show fX4_in (nI (cd T p)) 48 (nI hi) = _ from inM_eq (v := cd T p) (lo := 48) (hi := hi) (by omega) (by omega) (by omega), if_pos ⟨h1, h2⟩]
  obtain ⟨s7, hs7⟩ : ∃ s, s = put σ 12 (fun _ => (0 : Int32)) := ⟨_, rfl⟩
  have f7 : frP σ s7 := fun c _ c2 _ _ _ => by rw [hs7, put_n _ _ c2]
  have g7 := g1.fr f7
  have p7 : s7 11 0 = nI p := by rw [hs7, put_n _ _ (by omega)]; exact g3
  have n7 : s7 13 0 = nI n := by rw [hs7, put_n _ _ (by omega)]; exact g4
  have e7 := nextM_eq g7 hT p7 (by omega)
  have q15 : s7 15 = σ 15 := by rw [hs7, put_n _ _ (by omega)]
  obtain ⟨s9, hs9⟩ : ∃ s, s = put s7 15 (upd (s7 15) (4 * n + j) (nI (cd T p - 48))) := ⟨_, rfl⟩
  have p9 : s9 11 0 = nI p := by rw [hs9, put_n _ _ (by omega)]; exact p7
  have f9 : frP s7 s9 := fun c _ _ _ _ c5 => by rw [hs9, put_n _ _ c5]
  have f10 : frP s9 (put s9 11 (fun _ => nI (p + 1))) := fun c c1 _ _ _ _ => put_n _ _ c1
  refine ⟨put s9 11 (fun _ => nI (p + 1)), ?_, ⟨g7.fr (f9.tr f10), ?_, by rw [put_s], ?_⟩, f7.tr (f9.tr f10), ?_, ?_⟩
  · unfold fX4_takeOne
    rw [g2, if_pos (show nI 0 = 0 from rfl), e1, bnd_s, i1, bnd_s, if_neg n1_0]
    simp only [nm]
    rw [← hs7, show s7 12 0 = 0 by rw [hs7, put_s], if_pos rfl, e7, bnd_s, n7, show (4 : Int32) * nI n + nI j = nI (4 * n + j) by rw [show (4 : Int32) = nI 4 from rfl, pk_mul, nI_add], ax_nI (by omega) (by omega), nI_cl (by omega), show nI (cd T p) - 48 = nI (cd T p - 48) from nI_sb h1, ← hs9, p9, l1, nI_add]
  · rw [put_n _ _ (by omega), hs9, put_n _ _ (by omega), hs7, put_s]; rfl
  · rw [put_n _ _ (by omega), hs9, put_n _ _ (by omega)]; exact n7
  · rw [put_n _ _ (by omega), hs9, put_n _ _ (by omega), hs7, put_n _ _ (by omega)]
  · rw [put_n _ _ (by omega), hs9, put_s, q15]
theorem oneM_n (h : RS σ T p n) (hT : TW T) (hp : p < 900) (a : Int32) {hi : Nat} (hh : hi < 100) (h1 : ¬ (48 ≤ cd T p ∧ cd T p ≤ hi)) : ∃ σ', fX4_takeOne a (nI hi) σ = some σ' ∧ RF σ' T p ∧ frP σ σ' := by
  obtain ⟨g1, g2, g3, g4⟩ := h
  have hc := cd_lt hT p
  have e1 := nextM_eq g1 hT g3 (by omega)
  have i1 : fX4_in (nI (cd T p)) 48 (nI hi) = some (nI 0) := by rw [show fX4_in (nI (cd T p)) 48 (nI hi) = _ from inM_eq (v := cd T p) (lo := 48) (hi := hi) (by omega) (by omega) (by omega), if_neg h1]
  have f : frP σ (put σ 12 (fun _ => 1)) := fun c _ c2 _ _ _ => put_n _ _ c2
  refine ⟨put σ 12 (fun _ => 1), ?_, ⟨g1.fr f, by rw [put_s]; rfl, by rw [put_n _ _ (by omega)]; exact g3⟩, f⟩
  unfold fX4_takeOne
  rw [g2, if_pos (show nI 0 = 0 from rfl), e1, bnd_s, i1, bnd_s, if_pos (show nI 0 = 0 from rfl)]
  simp only [nm]
  rw [put_s, if_neg (by decide)]
theorem signM_y (h : RS σ T p n) (hT : TW T) (hp : p < 900) {a : Nat} (ha : a < 200) (h1 : cd T p = a) : ∃ σ', fX4_takeSign (nI a) σ = some σ' ∧ RS σ' T (p + 1) n ∧ frP σ σ' ∧ σ' 14 = σ 14 ∧ σ' 15 = σ 15 := by
  obtain ⟨g1, g2, g3, g4⟩ := h
  have e1 := nextM_eq g1 hT g3 (by omega)
  have f : frP σ (put (put σ 12 (fun _ => (0 : Int32))) 11 (fun _ => nI (p + 1))) := fun c c1 c2 _ _ _ => by rw [put_n _ _ c1, put_n _ _ c2]
  refine ⟨put (put σ 12 (fun _ => (0 : Int32))) 11 (fun _ => nI (p + 1)), ?_, ⟨g1.fr f, by rw [put_n _ _ (by omega), put_s]; rfl, by rw [put_s], by rw [put_n _ _ (by omega), put_n _ _ (by omega)]; exact g4⟩, f, by rw [put_n _ _ (by omega), put_n _ _ (by omega)], by rw [put_n _ _ (by omega), put_n _ _ (by omega)]⟩
  unfold fX4_takeSign
  rw [g2, if_pos (show nI 0 = 0 from rfl), e1, bnd_s, h1, if_pos rfl]
  simp only [nm]
  rw [put_s, if_pos rfl, put_n _ _ (by omega), g3, l1, nI_add]
theorem signM_n (h : RS σ T p n) (hT : TW T) (hp : p < 900) {a : Nat} (ha : a < 200) (h1 : cd T p ≠ a) : ∃ σ', fX4_takeSign (nI a) σ = some σ' ∧ RF σ' T p ∧ frP σ σ' := by
  obtain ⟨g1, g2, g3, g4⟩ := h
  have hc := cd_lt hT p
  have e1 := nextM_eq g1 hT g3 (by omega)
  have f : frP σ (put (put σ 12 (fun _ => (1 : Int32))) 11 (fun _ => nI p)) := fun c c1 c2 _ _ _ => by rw [put_n _ _ c1, put_n _ _ c2]
  refine ⟨put (put σ 12 (fun _ => (1 : Int32))) 11 (fun _ => nI p), ?_, ⟨g1.fr f, by rw [put_n _ _ (by omega), put_s]; rfl, by rw [put_s]⟩, f⟩
  unfold fX4_takeSign
  rw [g2, if_pos (show nI 0 = 0 from rfl), e1, bnd_s, if_neg (fun q => h1 ((nI_eq (by omega) (by omega)).mp q))]
  simp only [nm]
  rw [put_s, if_neg (by decide), put_n _ _ (by omega), g3, Int32.add_zero]
end TM
