/-! One state of locks becomes another -/
theorem cpy0 {f g : Nat → Int32} {n j : Nat} (h : j < n) : va_cpy f g 0 0 n j = f j := by
  rw [pk_cpy_in (Nat.zero_le _) (by omega), Nat.zero_add, Nat.sub_zero]
section BC
variable {A : AS} {σ τ : St}
theorem becLoop (s : St) : ∃ s', lp (fun t : (Int32 × St) => bX1_become_48 τ t.1 t.2) FU (nI 1, s) = some (nI 4, s') ∧ (∀ c, c ≠ 17 → c ≠ 18 → c ≠ 19 → s' c = s c) ∧ ∀ k p, 1 ≤ k → k ≤ 3 → p < 300 → s' (16 + k) p = τ (16 + k) p := by
  obtain ⟨e, he, s', rfl, a, b⟩ := lp_rng (b := fun t : (Int32 × St) => bX1_become_48 τ t.1 t.2)
    (fun j x => ∃ s', x = (nI j, s') ∧ (∀ c, c ≠ 17 → c ≠ 18 → c ≠ 19 → s' c = s c) ∧ ∀ k p, 1 ≤ k → k < j → p < 300 → s' (16 + k) p = τ (16 + k) p)
    (fun e => ∃ s', e = (nI 4, s') ∧ (∀ c, c ≠ 17 → c ≠ 18 → c ≠ 19 → s' c = s c) ∧ ∀ k p, 1 ≤ k → k ≤ 3 → p < 300 → s' (16 + k) p = τ (16 + k) p) 1 4
    (fun j x h1 hj hx => by
      obtain ⟨s', rfl, a, b⟩ := hx
      refine ⟨(nI (j + 1), put s' (16 + j) (va_cpy (τ (16 + j)) (s' (16 + j)) 0 0 300)), ?_, _, rfl, fun c c1 c2 c3 => by rw [put_n _ _ (by omega)]; exact a c c1 c2 c3, fun k p k1 k2 hp => ?_⟩
      · show bX1_become_48 τ (nI j) s' = _
        unfold bX1_become_48
        simp (disch := omega) only [l300, nm, bnd_s, bnd_n, bn2_s, l0, l1, l2, l3, l4, l7, l8, l9, l16, l80, l88, l200, l300, pk_mul, nI_add, nI_sb, mx1, mn1, ax_nI, nI_cl, nI_lt', nI_le', nI_eq', if_pos, if_neg, if_true, if_false]
      · by_cases q : k = j
        · subst q
          rw [put_s, cpy0 hp]
        · rw [put_n _ _ (by omega)]
          exact b k p k1 (by omega) hp)
    (fun x hx => by
      obtain ⟨s', rfl, a, b⟩ := hx
      refine ⟨_, by show bX1_become_48 τ (nI 4) s' = _; unfold bX1_become_48; rw [if_pos (by decide)], s', rfl, a, fun k p k1 k2 hp => b k p k1 (by omega) hp⟩) (nI 1, s) (by omega) ⟨s, rfl, fun _ _ _ _ => rfl, fun k p k1 k2 _ => by omega⟩ (by omega)
  exact ⟨s', he, a, b⟩
theorem becL (h : RepL τ A) (hw : WF A) : ∃ σ', fX1_become τ σ = some σ' ∧ RepL σ' A := by
  have hlen := hw.len
  obtain ⟨s5, hs5⟩ : ∃ s5, s5 = put (put (put (put (put σ 1 (fun _ => τ 1 0)) 4 (fun _ => τ 4 0)) 13 (fun _ => τ 13 0)) 14 (fun _ => τ 14 0)) 0 (va_cpy (τ 0) (put (put (put (put σ 1 (fun _ => τ 1 0)) 4 (fun _ => τ 4 0)) 13 (fun _ => τ 13 0)) 14 (fun _ => τ 14 0) 0) 0 0 3) := ⟨_, rfl⟩
  obtain ⟨s11, e11, a11, b11⟩ := becLoop (τ := τ) s5
  have v1 : s11 1 0 = τ 1 0 := by rw [a11 1 (by omega) (by omega) (by omega), hs5, put_n _ _ (by omega), put_n _ _ (by omega), put_n _ _ (by omega), put_n _ _ (by omega), put_s]
  have v4 : s11 4 0 = τ 4 0 := by rw [a11 4 (by omega) (by omega) (by omega), hs5, put_n _ _ (by omega), put_n _ _ (by omega), put_n _ _ (by omega), put_s]
  have v13 : s11 13 0 = τ 13 0 := by rw [a11 13 (by omega) (by omega) (by omega), hs5, put_n _ _ (by omega), put_n _ _ (by omega), put_s]
  have v14 : s11 14 0 = τ 14 0 := by rw [a11 14 (by omega) (by omega) (by omega), hs5, put_n _ _ (by omega), put_s]
  have v0 : ∀ i, i < 3 → s11 0 i = τ 0 i := fun i hi => by rw [a11 0 (by omega) (by omega) (by omega), hs5, put_s, cpy0 hi]
  obtain ⟨s12, h12⟩ : ∃ s, s = put s11 3 (va_cpy (τ 3) (s11 3) 0 0 8) := ⟨_, rfl⟩
  obtain ⟨s13, h13⟩ : ∃ s, s = put s12 5 (va_cpy (τ 5) (s12 5) 0 0 8) := ⟨_, rfl⟩
  obtain ⟨s14, h14⟩ : ∃ s, s = put s13 6 (va_cpy (τ 6) (s13 6) 0 0 8) := ⟨_, rfl⟩
  obtain ⟨s15, h15⟩ : ∃ s, s = put s14 7 (va_cpy (τ 7) (s14 7) 0 0 8) := ⟨_, rfl⟩
  obtain ⟨s16, h16⟩ : ∃ s, s = put s15 8 (va_cpy (τ 8) (s15 8) 0 0 8) := ⟨_, rfl⟩
  obtain ⟨s17, h17⟩ : ∃ s, s = put s16 9 (va_cpy (τ 9) (s16 9) 0 0 8) := ⟨_, rfl⟩
  obtain ⟨s18, h18⟩ : ∃ s, s = put s17 10 (va_cpy (τ 10) (s17 10) 0 0 8) := ⟨_, rfl⟩
  obtain ⟨s19, h19⟩ : ∃ s, s = put s18 11 (va_cpy (τ 11) (s18 11) 0 0 8) := ⟨_, rfl⟩
  obtain ⟨s20, h20⟩ : ∃ s, s = put s19 12 (va_cpy (τ 12) (s19 12) 0 0 8) := ⟨_, rfl⟩
  have n : ∀ c, c ≠ 3 → c ≠ 5 → c ≠ 6 → c ≠ 7 → c ≠ 8 → c ≠ 9 → c ≠ 10 → c ≠ 11 → c ≠ 12 → s20 c = s11 c := fun c c3 c5 c6 c7 c8 c9 c10 c11 c12 => by
    rw [h20, put_n _ _ c12, h19, put_n _ _ c11, h18, put_n _ _ c10, h17, put_n _ _ c9, h16, put_n _ _ c8, h15, put_n _ _ c7, h14, put_n _ _ c6, h13, put_n _ _ c5, h12, put_n _ _ c3]
  have w12 : ∀ i, i < 8 → s20 12 i = τ 12 i := fun i hi => by rw [h20, put_s, cpy0 hi]
  have w11 : ∀ i, i < 8 → s20 11 i = τ 11 i := fun i hi => by rw [h20, put_n _ _ (by omega), h19, put_s, cpy0 hi]
  have w10 : ∀ i, i < 8 → s20 10 i = τ 10 i := fun i hi => by rw [h20, put_n _ _ (by omega), h19, put_n _ _ (by omega), h18, put_s, cpy0 hi]
  have w9 : ∀ i, i < 8 → s20 9 i = τ 9 i := fun i hi => by rw [h20, put_n _ _ (by omega), h19, put_n _ _ (by omega), h18, put_n _ _ (by omega), h17, put_s, cpy0 hi]
  have w8 : ∀ i, i < 8 → s20 8 i = τ 8 i := fun i hi => by rw [h20, put_n _ _ (by omega), h19, put_n _ _ (by omega), h18, put_n _ _ (by omega), h17, put_n _ _ (by omega), h16, put_s, cpy0 hi]
  have w7 : ∀ i, i < 8 → s20 7 i = τ 7 i := fun i hi => by rw [h20, put_n _ _ (by omega), h19, put_n _ _ (by omega), h18, put_n _ _ (by omega), h17, put_n _ _ (by omega), h16, put_n _ _ (by omega), h15, put_s, cpy0 hi]
  have w6 : ∀ i, i < 8 → s20 6 i = τ 6 i := fun i hi => by rw [h20, put_n _ _ (by omega), h19, put_n _ _ (by omega), h18, put_n _ _ (by omega), h17, put_n _ _ (by omega), h16, put_n _ _ (by omega), h15, put_n _ _ (by omega), h14, put_s, cpy0 hi]
  have w5 : ∀ i, i < 8 → s20 5 i = τ 5 i := fun i hi => by rw [h20, put_n _ _ (by omega), h19, put_n _ _ (by omega), h18, put_n _ _ (by omega), h17, put_n _ _ (by omega), h16, put_n _ _ (by omega), h15, put_n _ _ (by omega), h14, put_n _ _ (by omega), h13, put_s, cpy0 hi]
  have w3 : ∀ i, i < 8 → s20 3 i = τ 3 i := fun i hi => by rw [h20, put_n _ _ (by omega), h19, put_n _ _ (by omega), h18, put_n _ _ (by omega), h17, put_n _ _ (by omega), h16, put_n _ _ (by omega), h15, put_n _ _ (by omega), h14, put_n _ _ (by omega), h13, put_n _ _ (by omega), h12, put_s, cpy0 hi]
  refine ⟨s20, ?_, ?_, ?_, ?_, ?_, ?_⟩
  · have c0 : Int32.toNatClampNeg (nI 0) = 0 := rfl
    have c3 : Int32.toNatClampNeg (nI 3) = 3 := rfl
    have c8 : Int32.toNatClampNeg (nI 8) = 8 := rfl
    unfold fX1_become
    simp only [nm, l0, l3, l8, l1, c0, c3, c8]
    rw [← hs5, e11, bnd_s]
    simp only []
    rw [← h12, ← h13, ← h14, ← h15, ← h16, ← h17, ← h18, ← h19, ← h20]
  · rw [n 1 (by omega) (by omega) (by omega) (by omega) (by omega) (by omega) (by omega) (by omega) (by omega), n 13 (by omega) (by omega) (by omega) (by omega) (by omega) (by omega) (by omega) (by omega) (by omega), n 14 (by omega) (by omega) (by omega) (by omega) (by omega) (by omega) (by omega) (by omega) (by omega), n 0 (by omega) (by omega) (by omega) (by omega) (by omega) (by omega) (by omega) (by omega) (by omega), n 4 (by omega) (by omega) (by omega) (by omega) (by omega) (by omega) (by omega) (by omega) (by omega), v1, v4, v13, v14, v0 0 (by omega), v0 1 (by omega), v0 2 (by omega)]
    exact h.1
  · intro i r hr
    have hi : i < (aR A).length := (List.getElem?_eq_some_iff.mp hr).1
    have k1 := (hw.2.2.1 r (List.mem_of_getElem? hr)).1
    rw [w3 i (by omega), w5 _ k1, w6 _ k1, w7 _ k1, w8 _ k1]
    exact h.2.1 i r hr
  · intro x hx hno
    rw [w5 x hx]
    exact h.2.2.1 x hx hno
  · intro x hx
    rw [w9 x hx, w10 x hx, w11 x hx, w12 x hx]
    exact h.2.2.2.1 x hx
  · intro k p hk hk3 hp
    rw [n (16 + k) (by omega) (by omega) (by omega) (by omega) (by omega) (by omega) (by omega) (by omega) (by omega), b11 k p hk hk3 hp]
    exact h.2.2.2.2 k p hk hk3 hp
end BC
