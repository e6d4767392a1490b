/-! Reading a number: the reference -/
theorem upd_upd (f : Nat → Int32) (k : Nat) (a b : Int32) : upd (upd f k a) k b = upd f k b := by
  funext j
  by_cases c : j = k
  · subst c; rw [upd_s, upd_s]
  · rw [upd_n _ _ c, upd_n _ _ c, upd_n _ _ c]
section NM
variable {σ : St} {T : List Nat} {p n : Nat}
theorem nmM_go {s : St} {q v ix : Nat} (h : RS s T q n) (hT : TW T) (hq : q < 900) (hix : ix < 116) (hv : v ≤ 300) (e : s 15 ix = nI v) (hg : gon T v q) : ∃ s', bX4_takeNumber_38_3 (nI ix) (nI 1) s = some (.inl (nI 1, s')) ∧ RS s' T (q + 1) n ∧ frP s s' ∧ s' 14 = s 14 ∧ s' 15 = upd (s 15) ix (nI (v * 10 + dv T q)) := by
  obtain ⟨g1, g2, g3, g4⟩ := h
  obtain ⟨c0, c1, c2⟩ := hg
  have hc := cd_lt hT q
  have e1 := nextM_eq g1 hT g3 (by omega)
  have i1 : fX4_in (nI (cd T q)) 48 57 = some (nI 1) := by rw [show fX4_in (nI (cd T q)) 48 57 = _ from inM_eq (v := cd T q) (lo := 48) (hi := 57) (by omega) (by omega) (by omega), if_pos c1]
  have v9 : (10 : Int32) * nI v + nI (cd T q) - 48 = nI (v * 10 + dv T q) := by
    rw [show (10 : Int32) = nI 10 from rfl, pk_mul, nI_add, show ((48 : Int32)) = nI 48 from rfl, nI_sb (by omega)]
    congr 1
    show 10 * v + cd T q - 48 = v * 10 + (cd T q - 48)
    omega
  have f : frP s (put (put s 15 (upd (s 15) ix (nI (v * 10 + dv T q)))) 11 (fun _ => nI (q + 1))) := fun c x1 _ _ _ x5 => by rw [put_n _ _ x1, put_n _ _ x5]
  refine ⟨put (put s 15 (upd (s 15) ix (nI (v * 10 + dv T q)))) 11 (fun _ => nI (q + 1)), ?_, ⟨g1.fr f, by rw [put_n _ _ (by omega), put_n _ _ (by omega)]; exact g2, by rw [put_s], by rw [put_n _ _ (by omega), put_n _ _ (by omega)]; exact g4⟩, f, by rw [put_n _ _ (by omega), put_n _ _ (by omega)], by rw [put_n _ _ (by omega), put_s]⟩
  unfold bX4_takeNumber_38_3
  rw [if_neg n1_0, e1, bnd_s, i1, bnd_s, if_neg n1_0, ax_nI hix (by omega), nI_cl (by omega), e, bnd_s]
  simp only [nm]
  rw [v9, if_pos (show nI (v * 10 + dv T q) ≤ 300 from (nI_leI (b := 300) (by omega) (by omega)).mpr c2), ax_nI hix (by omega), put_n _ _ (by omega), g3, l1, nI_add]
theorem nmM_end {s : St} {q v ix : Nat} (h : RS s T q n) (hT : TW T) (hq : q < 900) (hix : ix < 116) (h0 : 0 < v) (hv : v ≤ 300) (e : s 15 ix = nI v) (hg : ¬ gon T v q) (m : Nat) : ∃ r, lp (fun t : (Int32 × St) => bX4_takeNumber_38_3 (nI ix) t.1 t.2) (m + 1 + 1) (nI 1, s) = some r ∧ (dg T q → RF r.2 T q ∧ frP s r.2) ∧ (¬ dg T q → r.2 = s) := by
  obtain ⟨g1, g2, g3, g4⟩ := h
  have hc := cd_lt hT q
  have e1 := nextM_eq g1 hT g3 (by omega)
  by_cases c : dg T q
  · have c2 : ¬ v * 10 + dv T q ≤ 300 := fun w => hg ⟨h0, c, w⟩
    have i1 : fX4_in (nI (cd T q)) 48 57 = some (nI 1) := by rw [show fX4_in (nI (cd T q)) 48 57 = _ from inM_eq (v := cd T q) (lo := 48) (hi := 57) (by omega) (by omega) (by omega), if_pos c]
    have v9 : (10 : Int32) * nI v + nI (cd T q) - 48 = nI (v * 10 + dv T q) := by
      rw [show (10 : Int32) = nI 10 from rfl, pk_mul, nI_add, show ((48 : Int32)) = nI 48 from rfl, nI_sb (by omega)]
      congr 1
      show 10 * v + cd T q - 48 = v * 10 + (cd T q - 48)
      omega
    have dle : dv T q ≤ 9 := by show cd T q - 48 ≤ 9; omega
    have f : frP s (put s 12 (fun _ => (1 : Int32))) := fun x _ x2 _ _ _ => put_n _ _ x2
    refine ⟨(nI 0, put s 12 (fun _ => (1 : Int32))), ?_, fun _ => ⟨⟨g1.fr f, by show put s 12 (fun _ => (1 : Int32)) 12 0 = nI 1; rw [put_s]; rfl, by show put s 12 (fun _ => (1 : Int32)) 11 0 = nI q; rw [put_n _ _ (by omega)]; exact g3⟩, f⟩, fun q => absurd c q⟩
    rw [lp_st (s' := (nI 0, put s 12 (fun _ => (1 : Int32)))) (by
      show bX4_takeNumber_38_3 (nI ix) (nI 1) s = _
      unfold bX4_takeNumber_38_3
      rw [if_neg n1_0, e1, bnd_s, i1, bnd_s, if_neg n1_0, ax_nI hix (by omega), nI_cl (by omega), e, bnd_s]
      simp only [nm]
      rw [v9, if_neg (show ¬ nI (v * 10 + dv T q) ≤ 300 from fun w => c2 ((nI_leI (b := 300) (by omega) (by omega)).mp w))]
      rfl)]
    exact lp_en (by
      show bX4_takeNumber_38_3 (nI ix) (nI 0) _ = _
      unfold bX4_takeNumber_38_3
      rw [if_pos (show nI 0 = 0 from rfl)])
  · have i1 : fX4_in (nI (cd T q)) 48 57 = some (nI 0) := by rw [show fX4_in (nI (cd T q)) 48 57 = _ from inM_eq (v := cd T q) (lo := 48) (hi := 57) (by omega) (by omega) (by omega), if_neg c]
    refine ⟨(nI 1, s), lp_en ?_, fun q => absurd q c, fun _ => rfl⟩
    show bX4_takeNumber_38_3 (nI ix) (nI 1) s = _
    unfold bX4_takeNumber_38_3
    rw [if_neg n1_0, e1, bnd_s, i1, bnd_s, if_pos (show nI 0 = 0 from rfl)]
theorem numM_f (h : RF σ T p) (j : Int32) : ∃ σ', fX4_takeNumber j σ = some σ' ∧ RF σ' T p ∧ frP σ σ' := by
  obtain ⟨s2, e2, r2, f2⟩ := oneM_f h j 57
  refine ⟨s2, ?_, r2, f2⟩
  unfold fX4_takeNumber
  rw [e2, bnd_s]
  simp only [nm]
  rw [r2.2.1, if_neg n1_0, show lp (fun t : (Int32 × St) => bX4_takeNumber_38 ((4 : Int32) * s2 13 0 + j) t.1 t.2) FU ((0 : Int32), s2) = some ((0 : Int32), s2) from lp_ex (by
    show bX4_takeNumber_38 _ 0 s2 = _
    unfold bX4_takeNumber_38
    rw [if_pos rfl])]
  rfl
theorem numM_n (h : RS σ T p n) (hT : TW T) (hp : p < 900) (hd : ¬ dg T p) (j : Int32) : ∃ σ', fX4_takeNumber j σ = some σ' ∧ RF σ' T p ∧ frP σ σ' := by
  obtain ⟨s2, e2, r2, f2⟩ := oneM_n h hT hp j (hi := 57) (by omega) hd
  refine ⟨s2, ?_, r2, f2⟩
  unfold fX4_takeNumber
  rw [show fX4_takeOne j 57 σ = _ from e2, bnd_s]
  simp only [nm]
  rw [r2.2.1, if_neg n1_0, show lp (fun t : (Int32 × St) => bX4_takeNumber_38 ((4 : Int32) * s2 13 0 + j) t.1 t.2) FU ((0 : Int32), s2) = some ((0 : Int32), s2) from lp_ex (by
    show bX4_takeNumber_38 _ 0 s2 = _
    unfold bX4_takeNumber_38
    rw [if_pos rfl])]
  rfl
/-- a further digit, that can't stand -/
abbrev ovr (T : List Nat) (p : Nat) : Prop := (nmV T p).1 ≠ 0 ∧ dg T (nmV T p).2
theorem numM_y (h : RS σ T p n) (hT : TW T) (hp : p < 800) (hn : n < 29) (hd : dg T p) {j : Nat} (hj : j < 4) : ∃ σ', fX4_takeNumber (nI j) σ = some σ' ∧ frP σ σ' ∧ (ovr T p → RF σ' T (nmV T p).2) ∧ (¬ ovr T p → RS σ' T (nmV T p).2 n ∧ σ' 14 = σ 14 ∧ σ' 15 = upd (σ 15) (4 * n + j) (nI (nmV T p).1)) := by
  have hc := cd_lt hT p
  obtain ⟨s2, e2, r2, f2, k14, k15⟩ := oneM_y h hT (by omega) hn hj (hi := 57) (by omega) hd.1 hd.2
  have hix : 4 * n + j < 116 := by omega
  have v3 : (4 : Int32) * s2 13 0 + nI j = nI (4 * n + j) := by rw [r2.2.2.2, show (4 : Int32) = nI 4 from rfl, pk_mul, nI_add]
  have d1 : dv T p ≤ 9 := by show cd T p - 48 ≤ 9; omega
  have x2 : s2 15 (4 * n + j) = nI (dv T p) := by rw [k15, upd_s]
  by_cases c0 : dv T p = 0
  · have hnv : nmV T p = (0, p + 1) := by
      unfold nmV
      rw [if_neg (fun q => by have := q.1; omega), c0]
    refine ⟨s2, ?_, f2, fun q => by rw [ovr, hnv] at q; exact absurd rfl q.1, fun _ => ?_⟩
    · unfold fX4_takeNumber
      rw [show fX4_takeOne (nI j) 57 σ = _ from e2, bnd_s]
      simp only [nm]
      rw [r2.2.1, if_pos (show nI 0 = 0 from rfl), v3, ax_nI hix (by omega), nI_cl (by omega), x2, c0, if_pos (by decide), show lp (fun t : (Int32 × St) => bX4_takeNumber_38_2 (nI (4 * n + j)) t.1 t.2) FU ((0 : Int32), s2) = some ((0 : Int32), s2) from lp_ex (by
        show bX4_takeNumber_38_2 _ 0 s2 = _
        unfold bX4_takeNumber_38_2
        rw [if_pos rfl])]
      rfl
    · rw [hnv]
      exact ⟨r2, k14, by rw [k15, show cd T p - 48 = 0 from c0]⟩
  · suffices hs : ∃ r, lp (fun t : (Int32 × St) => bX4_takeNumber_38_3 (nI (4 * n + j)) t.1 t.2) FU (nI 1, s2) = some r ∧ frP s2 r.2 ∧ (nmV T p).1 ≠ 0 ∧ (dg T (nmV T p).2 → RF r.2 T (nmV T p).2) ∧ (¬ dg T (nmV T p).2 → RS r.2 T (nmV T p).2 n ∧ r.2 14 = s2 14 ∧ r.2 15 = upd (σ 15) (4 * n + j) (nI (nmV T p).1)) by
      obtain ⟨r, er, fr, hv0, q1, q2⟩ := hs
      refine ⟨r.2, ?_, f2.tr fr, fun q => q1 q.2, fun q => ?_⟩
      · unfold fX4_takeNumber
        rw [show fX4_takeOne (nI j) 57 σ = _ from e2, bnd_s]
        simp only [nm]
        rw [r2.2.1, if_pos (show nI 0 = 0 from rfl), v3, ax_nI hix (by omega), nI_cl (by omega), x2, if_neg (nI_nle (by omega) (by omega)), show lp (fun t : (Int32 × St) => bX4_takeNumber_38_3 (nI (4 * n + j)) t.1 t.2) FU ((1 : Int32), s2) = _ from er]
        rfl
      · obtain ⟨a, b, c⟩ := q2 fun w => q ⟨hv0, w⟩
        exact ⟨a, b.trans k14, c⟩
    show ∃ r, lp (fun t : (Int32 × St) => bX4_takeNumber_38_3 (nI (4 * n + j)) t.1 t.2) (4996 + 1 + 1 + 1 + 1) (nI 1, s2) = some r ∧ _
    have endf : ∀ {v q : Nat} {s : St} (m : Nat), RS s T q n → q < 900 → 0 < v → v ≤ 300 → s 15 (4 * n + j) = nI v → ¬ gon T v q → frP s2 s → s 14 = s2 14 → s 15 = upd (σ 15) (4 * n + j) (nI v) → ∃ r, lp (fun t : (Int32 × St) => bX4_takeNumber_38_3 (nI (4 * n + j)) t.1 t.2) (m + 1 + 1) (nI 1, s) = some r ∧ frP s2 r.2 ∧ v ≠ 0 ∧ (dg T q → RF r.2 T q) ∧ (¬ dg T q → RS r.2 T q n ∧ r.2 14 = s2 14 ∧ r.2 15 = upd (σ 15) (4 * n + j) (nI v)) := by
      intro v q s m hr hq h0 hv hx hg hf h14 h15
      obtain ⟨r, er, y1, y2⟩ := nmM_end hr hT hq hix h0 hv hx hg m
      refine ⟨r, er, ?_, by omega, fun w => (y1 w).1, fun w => by rw [y2 w]; exact ⟨hr, h14, h15⟩⟩
      by_cases w : dg T q
      · exact hf.tr (y1 w).2
      · rw [y2 w]; exact hf
    unfold nmV
    by_cases g1 : gon T (dv T p) (p + 1)
    · rw [if_pos g1]
      obtain ⟨s3, e3, r3, f3, a14, a15⟩ := nmM_go r2 hT (by omega) hix (by omega) x2 g1
      have y3 : s3 15 = upd (σ 15) (4 * n + j) (nI (dv T p * 10 + dv T (p + 1))) := by rw [a15, k15, upd_upd]
      rw [lp_st e3]
      by_cases g2 : gon T (dv T p * 10 + dv T (p + 1)) (p + 2)
      · rw [if_pos g2]
        obtain ⟨s4, e4, r4, f4, b14, b15⟩ := nmM_go (q := p + 2) r3 hT (by omega) hix g1.2.2 (by rw [y3, upd_s]) g2
        have y4 : s4 15 = upd (σ 15) (4 * n + j) (nI ((dv T p * 10 + dv T (p + 1)) * 10 + dv T (p + 2))) := by rw [b15, y3, upd_upd]
        rw [lp_st e4]
        exact endf 4996 r4 (by omega) (by omega) g2.2.2 (by rw [y4, upd_s]) (fun q => by have := q.2.2; omega) (f3.tr f4) (b14.trans a14) y4
      · rw [if_neg g2]
        exact endf 4997 (q := p + 2) r3 (by omega) (by omega) g1.2.2 (by rw [y3, upd_s]) g2 f3 a14 y3
    · rw [if_neg g1]
      exact endf 4998 r2 (by omega) (by omega) (by omega) x2 g1 frP.rf rfl k15
end NM
