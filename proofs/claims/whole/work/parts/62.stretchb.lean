/-! Stretches: both sides together -/
theorem two_c (a : Int32) : (∃ w, w < 3 ∧ a = nI w) ∨ ((¬ a = 0 ∧ ¬ a = 1 ∧ ¬ a = 2) ∧ fX4_in a 0 2 = some 0) := by
  rcases pk_ix a (n := 3) (by omega) with h | h | ⟨k, hk, rfl⟩
  · refine Or.inr ⟨⟨fun q => ?_, fun q => ?_, fun q => ?_⟩, inM_lo h⟩ <;> subst q <;> exact absurd h (by decide)
  · refine Or.inr ⟨⟨fun q => ?_, fun q => ?_, fun q => ?_⟩, inM_hi (ge_gt (n := 2) h (by omega))⟩ <;> subst q <;> exact absurd h (by decide)
  · exact Or.inl ⟨k, hk, rfl⟩
section SB
variable {A : AS} {σW σP κ : St}
theorem stretch_b (hw : WF A) (a b c : Int32) : rdr (fun σ => fX3_stretch a b c σ σW σP κ) (fX4_stretch a b c) A := by
  rcases own_c a with ⟨o, ho, rfl⟩ | ⟨h1, h2⟩
  · have cl := cnt_le (isSt A o) 300
    by_cases hb : ∃ p, p < 300 ∧ isSt A o p ∧ b = nI (cnt (isSt A o) p)
    · obtain ⟨p, hp, hs, rfl⟩ := hb
      have cp := cnt_mono (P := isSt A o) (show p + 1 ≤ 300 by omega)
      rw [cnt_s hs] at cp
      have eL : ∀ σ, RepL σ A → fX1_startOfStretch (nI o) (nI (cnt (isSt A o) p)) σ = some (nI p) := fun σ h => by
        rcases startOfL h hw ho (nI (cnt (isSt A o) p)) with ⟨q, a1, a2, a3, e⟩ | ⟨a1, -⟩
        · have : cnt (isSt A o) p = cnt (isSt A o) q := (nI_eq (by have := cnt_le (isSt A o) p; omega) (by have := cnt_le (isSt A o) q; omega)).mp a3
          rw [e, cnt_uniq hs a2 this]
        · exact absurd rfl (a1 p hp hs)
      have i3 : fX4_in (nI (cnt (isSt A o) p)) (nI 0) (nI (cnt (isSt A o) 300 - 1)) = some (nI 1) := by rw [inM_eq (by have := cnt_le (isSt A o) p; omega) (by omega) (by omega), if_pos (by omega)]
      have hd : ∀ σ : St, RepM (σ 0) A → fX4_stretch (nI o) (nI (cnt (isSt A o) p)) c σ = bnd (fX4_in c 0 2) fun r4 => if r4 = 0 then some (-2) else bnd (lp (fun t : (Int32 × Int32) => bX4_stretch_42 (nI o) σ t.1 t.2) FU (nI (cnt (isSt A o) p), 0)) (fun e : (Int32 × Int32) => nm e.1 fun _ => nm e.2 fun x19 => bnd (lp (fun t : Int32 => bX4_stretch_86 (nI o) σ x19 t) FU 1) (fun e : Int32 => nm e fun x24 => if c = 0 then (bnd (fX4_lock (nI o) x19 σ) fun r25 => some r25) else (if c = 1 then some x19 else some x24))) := fun σ h => by
        unfold fX4_stretch
        rw [isOwnerM_ok ho, bnd_s, if_neg n1_0, stretchesM h hw ho, bnd_s, l1, nI_sb (by omega), show fX4_in (nI (cnt (isSt A o) p)) 0 (nI (cnt (isSt A o) 300 - 1)) = _ from i3, bnd_s, if_neg n1_0]
      rcases two_c c with ⟨w, hw3, rfl⟩ | ⟨⟨c0, c1, c2⟩, hi⟩
      · have i2 : fX4_in (nI w) 0 2 = some (nI 1) := by rw [show fX4_in (nI w) 0 2 = _ from inM_eq (v := w) (lo := 0) (hi := 2) (by omega) (by omega) (by omega), if_pos (by omega)]
        have p0 : (0 : Int32) ≤ nI p := nI_pos' (by omega)
        refine rdr_u (fun z => ∃ m, lnZ A o p m ∧ z = if w = 0 then nI (aK A o p) else if w = 1 then nI p else nI m) (fun x y ⟨m, hm, e⟩ ⟨m', hm', e'⟩ => by rw [e, e', lnZ_u hm hm']) (fun σ h => ?_) fun σ h => ?_
        · obtain ⟨m, hm, em⟩ := lengthL h hw ho hp
          refine ⟨_, ?_, m, hm, rfl⟩
          show fX3_stretch _ _ _ σ σW σP κ = _
          unfold fX3_stretch
          rw [ownerL_eq ho, bnd_s, if_neg n1_0, eL σ h, bnd_s, if_pos p0]
          rcases (show w = 0 ∨ w = 1 ∨ w = 2 by omega) with rfl | rfl | rfl
          · rw [if_pos (show nI 0 = 0 from rfl), kindAt_eq h hw ho hp]; rfl
          · rfl
          · rw [if_neg (show ¬ nI 2 = 0 by decide), if_neg (show ¬ nI 2 = 1 by decide), if_pos (show nI 2 = 2 from rfl), em]; rfl
        · obtain ⟨y, ey⟩ := stretchLoopM h hw ho hp hs
          obtain ⟨m, hm, em⟩ := lengthM h hw ho hp
          refine ⟨_, ?_, m, hm, rfl⟩
          rw [hd σ h, i2, bnd_s, if_neg n1_0, show lp (fun t : (Int32 × Int32) => bX4_stretch_42 (nI o) σ t.1 t.2) FU (nI (cnt (isSt A o) p), (0 : Int32)) = _ from ey, bnd_s]
          simp only [nm]
          rw [show lp (fun t : Int32 => bX4_stretch_86 (nI o) σ (nI p) t) FU (1 : Int32) = _ from em, bnd_s]
          rcases (show w = 0 ∨ w = 1 ∨ w = 2 by omega) with rfl | rfl | rfl
          · rw [if_pos (show nI 0 = 0 from rfl), lockM_eq h ho hp]; rfl
          · rfl
          · rfl
      · refine ⟨-2, fun σ h => ?_, fun σ h => ?_⟩
        · show fX3_stretch _ _ _ σ σW σP κ = _
          unfold fX3_stretch
          rw [ownerL_eq ho, bnd_s, if_neg n1_0, eL σ h, bnd_s, if_pos (nI_pos' (by omega)), if_neg c0, if_neg c1, if_neg c2]
        · rw [hd σ h, hi]; rfl
    · have hb' : ∀ p, p < 300 → isSt A o p → b ≠ nI (cnt (isSt A o) p) := fun p hp hs q => hb ⟨p, hp, hs, q⟩
      refine ⟨-1, fun σ h => ?_, fun σ h => ?_⟩
      · have e : fX1_startOfStretch (nI o) b σ = some (-1) := by
          rcases startOfL h hw ho b with ⟨q, a1, a2, a3, e⟩ | ⟨-, e⟩
          · exact absurd a3 (hb' q a1 a2)
          · exact e
        show fX3_stretch _ _ _ σ σW σP κ = _
        unfold fX3_stretch
        rw [ownerL_eq ho, bnd_s, if_neg n1_0, e]; rfl
      · have i0 : fX4_in b 0 (nI (cnt (isSt A o) 300) - 1) = some 0 := by
          rcases pk_ix b (n := cnt (isSt A o) 300) (by omega) with q | q | ⟨k, hk, rfl⟩
          · exact inM_lo q
          · by_cases z : cnt (isSt A o) 300 = 0
            · refine inM_hi ?_
              rw [z, Int32.lt_iff_toInt_lt]
              rw [z, Int32.le_iff_toInt_le] at q
              have e1 : (nI 0 - 1).toInt = -1 := rfl
              have e2 : (nI 0).toInt = 0 := rfl
              omega
            · obtain ⟨m, hm⟩ : ∃ m, cnt (isSt A o) 300 = m + 1 := ⟨cnt (isSt A o) 300 - 1, by omega⟩
              rw [hm] at q ⊢
              rw [nI_pred]
              exact inM_hi (ge_gt q (by omega))
          · obtain ⟨p, a1, a2, a3⟩ := cnt_find hk
            exact absurd (by rw [a3]) (hb' p a1 a2)
        unfold fX4_stretch
        rw [isOwnerM_ok ho, bnd_s, if_neg n1_0, stretchesM h hw ho, bnd_s, i0]; rfl
  · refine ⟨-1, fun σ h => ?_, fun σ h => ?_⟩
    · show fX3_stretch _ _ _ σ σW σP κ = _
      unfold fX3_stretch
      rw [h1]; rfl
    · unfold fX4_stretch
      rw [h2]; rfl
end SB
