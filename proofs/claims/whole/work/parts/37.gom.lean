/-! The reference: the row is gone through; ranges are freed -/
section MG
variable {σ : St} {A : AS}
theorem firstM_eq (h : RepM (σ 0) A) (hw : WF A) : (∃ i r, isF A i ∧ (aR A)[i]? = some r ∧ fX4_firstGivable σ = some (nI r.1)) ∨ (Qt A ∧ fX4_firstGivable σ = some (-6)) := by
  have hlen := hw.len
  have h1 := h.1.2.2.2.2.2.2
  have step : ∀ j (hj : j < (aR A).length) (r : Rq), (aR A)[j]? = some r → ¬ frr A j → bX4_firstGivable_2 σ (nI j) = some (.inl (nI (j + 1))) := by
    intro j hj r hr hno
    have g1 := (h.2.1 j r hr).1
    have w1 := (hw.2.2.1 r (List.mem_of_getElem? hr)).1
    obtain ⟨z, hz, hm⟩ := (waitsM_eq h hw w1).1 j r hr rfl
    have hz0 : ¬ z = nI 0 := by rw [frr_iff hm]; exact hno
    unfold bX4_firstGivable_2
    simp (disch := omega) only [h1, g1, hz, eq_false hz0, nm, bnd_s, bnd_n, bn2_s, l0, l1, l2, l3, l4, l7, l8, l9, l16, l80, l88, l200, l300, pk_mul, nI_add, nI_sb, mx1, mn1, ax_nI, nI_cl, nI_lt', nI_le', nI_eq', if_pos, if_neg, if_true, if_false]
  rcases nxt_cases A with ⟨i, r, hi, hr⟩ | hq
  · left
    refine ⟨i, r, hi, hr, ?_⟩
    have hil := hi.1
    have g1 := (h.2.1 i r hr).1
    have w1 := (hw.2.2.1 r (List.mem_of_getElem? hr)).1
    obtain ⟨e, he, rfl⟩ := lp_rng (b := fun t : Int32 => bX4_firstGivable_2 σ t) (fun j s => s = nI j) (fun e => e = .inr (nI r.1)) 0 i
      (fun j s _ hj hs => by
        subst hs
        exact ⟨_, step j (by omega) _ (List.getElem?_eq_getElem (by omega)) (hi.2.2 j hj), rfl⟩)
      (fun s hs => by
        subst hs
        obtain ⟨z, hz, hm⟩ := (waitsM_eq h hw w1).1 i r hr rfl
        have hz0 : z = nI 0 := by rw [frr_iff hm]; exact hi.2.1
        unfold bX4_firstGivable_2
        simp (disch := omega) only [h1, g1, hz, eq_true hz0, nm, bnd_s, bnd_n, bn2_s, l0, l1, l2, l3, l4, l7, l8, l9, l16, l80, l88, l200, l300, pk_mul, nI_add, nI_sb, mx1, mn1, ax_nI, nI_cl, nI_lt', nI_le', nI_eq', if_pos, if_neg, if_true, if_false]
        exact ⟨_, rfl, rfl⟩) (nI 0) (by omega) rfl (by omega)
    unfold fX4_firstGivable
    simp (disch := omega) only [he, nm, bnd_s, bnd_n, bn2_s, l0, l1, l2, l3, l4, l7, l8, l9, l16, l80, l88, l200, l300, pk_mul, nI_add, nI_sb, mx1, mn1, ax_nI, nI_cl, nI_lt', nI_le', nI_eq', if_pos, if_neg, if_true, if_false]
    rfl
  · right
    refine ⟨hq, ?_⟩
    obtain ⟨e, he, rfl⟩ := lp_rng (b := fun t : Int32 => bX4_firstGivable_2 σ t) (fun j s => s = nI j) (fun e => e = .inl (nI (aR A).length)) 0 (aR A).length
      (fun j s _ hj hs => by
        subst hs
        exact ⟨_, step j (by omega) _ (List.getElem?_eq_getElem (by omega)) (hq j hj), rfl⟩)
      (fun s hs => by
        subst hs
        unfold bX4_firstGivable_2
        simp (disch := omega) only [h1, nm, bnd_s, bnd_n, bn2_s, l0, l1, l2, l3, l4, l7, l8, l9, l16, l80, l88, l200, l300, pk_mul, nI_add, nI_sb, mx1, mn1, ax_nI, nI_cl, nI_lt', nI_le', nI_eq', if_pos, if_neg, if_true, if_false]
        exact ⟨_, rfl, rfl⟩) (nI 0) (by omega) rfl (by omega)
    unfold fX4_firstGivable
    simp (disch := omega) only [he, nm, bnd_s, bnd_n, bn2_s, l0, l1, l2, l3, l4, l7, l8, l9, l16, l80, l88, l200, l300, pk_mul, nI_add, nI_sb, mx1, mn1, ax_nI, nI_cl, nI_lt', nI_le', nI_eq', if_pos, if_neg, if_true, if_false]
    rfl
theorem giv1M (h : RepM (σ 0) A) (hw : WF A) {i : Nat} {r : Rq} (hr : (aR A)[i]? = some r) (v : Int32) (hv : v = if aC A r.1 3 < r.2.2.2.2 then r.2.2.2.2 else aC A r.1 3) :
    ∃ s1 s2 s3, fX4_lay (nI r.1) (nI 7) v σ = some s1 ∧ fX4_of (nI r.1) (nI 0) s1 = some (nI r.2.1) ∧ fX4_of (nI r.1) (nI 1) s1 = some (nI r.2.2.1) ∧ fX4_of (nI r.1) (nI 2) s1 = some (nI r.2.2.2.1) ∧ fX4_give (nI r.1) (nI r.2.1) (nI r.2.2.1) (nI r.2.2.2.1) s1 = some s2 ∧ fX4_leaveRow (nI r.1) s2 = some s3 ∧ frM σ s3 ∧ RepM (s3 0) (givA A r) := by
  obtain ⟨w1, w2, w3, w4, w5⟩ := hw.2.2.1 r (List.mem_of_getElem? hr)
  subst hv
  have r1 := h.long hw w1 r.2.2.2.2
  obtain ⟨s1, hs1⟩ : ∃ s1, s1 = put σ 0 (upd (σ 0) (16 + 9 * r.1 + 7) (if aC A r.1 3 < r.2.2.2.2 then r.2.2.2.2 else aC A r.1 3)) := ⟨_, rfl⟩
  have r1 : RepM (s1 0) (longA A r.1 r.2.2.2.2) := by rw [hs1, put_s]; exact r1
  obtain ⟨g1, g2, g3, g4, g5⟩ := r1.2.1 i r hr
  obtain ⟨s2, e2, f2, r2⟩ := giveM_eq r1 hw.longA (o := r.1) (k := r.2.1) (f := r.2.2.1) (t := r.2.2.2.1) w1 w3 (by omega) w5
  rw [long_give] at r2
  obtain ⟨s3, e3, f3, r3⟩ := leaveM_eq r2 (WF.longA (hw.giveK w3)) (i := i) (r := r) hr
  refine ⟨s1, s2, s3, ?_, ?_, ?_, ?_, e2, e3, ?_, r3⟩
  · rw [layM _ w1 (by omega), hs1]
  · rw [ofM_eq w1 (by omega), Nat.add_zero, g2]
  · rw [ofM_eq w1 (by omega), g3]
  · rw [ofM_eq w1 (by omega), g4]
  · refine frM.tr ?_ (f2.tr f3)
    rw [hs1]
    exact frM.put
theorem goM_eq (h : RepM (σ 0) A) (hw : WF A) : ∃ σ', fX4_goThrough σ = some σ' ∧ frM σ σ' ∧ RepM (σ' 0) (goA A) := by
  have hlen := hw.len
  have hFU := FU_v
  have m6 : ((-6 : Int32) < nI 0) = True := eq_true (by decide)
  have start : ∃ v, fX4_firstGivable σ = some v ∧ ((∃ i r, isF A i ∧ (aR A)[i]? = some r ∧ v = nI r.1) ∨ (Qt A ∧ v = -6)) := by
    rcases firstM_eq h hw with ⟨i, r, a, b, c⟩ | ⟨a, b⟩
    · exact ⟨_, c, Or.inl ⟨i, r, a, b, rfl⟩⟩
    · exact ⟨_, b, Or.inr ⟨a, rfl⟩⟩
  obtain ⟨v0, hv0, hv1⟩ := start
  obtain ⟨e, he, v, σ', rfl, h1, h2⟩ := lp_mu (b := fun t : (Int32 × St) => bX4_goThrough_5 t.1 t.2)
    (fun m s => ∃ v s' A' n, s = (v, s') ∧ RepM (s' 0) A' ∧ WF A' ∧ frM σ s' ∧ (aR A').length ≤ n ∧ goN n A' = goA A ∧ ((∃ i r, isF A' i ∧ (aR A')[i]? = some r ∧ v = nI r.1) ∨ (Qt A' ∧ v = -6)) ∧ (aR A').length ≤ m)
    (fun e => ∃ v σ', e = (v, σ') ∧ frM σ σ' ∧ RepM (σ' 0) (goA A))
    (fun m s hs => by
      obtain ⟨v, s', A', n, rfl, r1, w, f1, hn, hg, hv, hm⟩ := hs
      show (∃ m' s'', m' < m ∧ bX4_goThrough_5 v s' = some (.inl s'') ∧ _) ∨ ∃ e, bX4_goThrough_5 v s' = some (.inr e) ∧ _
      rcases hv with ⟨i, r, hi, hr, rfl⟩ | ⟨hq, rfl⟩
      · left
        have hlen' := w.len
        obtain ⟨w1, w2, w3, w4, w5⟩ := w.2.2.1 r (List.mem_of_getElem? hr)
        have q3 : fX4_of (nI r.1) (nI 3) s' = some r.2.2.2.2 := (ofM_eq w1 (by omega)).trans (by rw [(r1.2.1 i r hr).2.2.2.2])
        have q7 : fX4_of (nI r.1) (nI 7) s' = some (aC A' r.1 3) := (ofM_eq w1 (by omega)).trans (by rw [(r1.2.2.2.1 r.1 w1).2.2.2])
        obtain ⟨n', rfl⟩ : ∃ n', n = n' + 1 := ⟨n - 1, by have := hi.1; omega⟩
        rw [goN_s hi hr] at hg
        have hl := giv_len w hr
        obtain ⟨s1, s2, s3, e1, k0, k1, k2, e2, e3, f3, r3⟩ := giv1M r1 w hr _ rfl
        have wg := w.givA (List.mem_of_getElem? hr)
        have nx : ∃ v, fX4_firstGivable s3 = some v ∧ ((∃ i x, isF (givA A' r) i ∧ (aR (givA A' r))[i]? = some x ∧ v = nI x.1) ∨ (Qt (givA A' r) ∧ v = -6)) := by
          rcases firstM_eq r3 wg with ⟨i, r, a, b, c⟩ | ⟨a, b⟩
          · exact ⟨_, c, Or.inl ⟨i, r, a, b, rfl⟩⟩
          · exact ⟨_, b, Or.inr ⟨a, rfl⟩⟩
        obtain ⟨v', hv', hv2⟩ := nx
        refine ⟨(aR (givA A' r)).length, (v', s3), by omega, ?_, v', s3, givA A' r, n', rfl, r3, wg, f1.tr f3, by omega, hg, hv2, Nat.le_refl _⟩
        unfold bX4_goThrough_5
        by_cases c : r.2.2.2.2 ≤ aC A' r.1 3
        · rw [if_neg (Int32.not_lt.mpr c)] at e1
          simp (disch := omega) only [q3, q7, eq_true c, e1, k0, k1, k2, e2, e3, hv', nm, bnd_s, bnd_n, bn2_s, l0, l1, l2, l3, l4, l7, l8, l9, l16, l80, l88, l200, l300, pk_mul, nI_add, nI_sb, mx1, mn1, ax_nI, nI_cl, nI_lt', nI_le', nI_eq', if_pos, if_neg, if_true, if_false]
        · rw [if_pos (Int32.not_le.mp c)] at e1
          simp (disch := omega) only [q3, q7, eq_false c, e1, k0, k1, k2, e2, e3, hv', nm, bnd_s, bnd_n, bn2_s, l0, l1, l2, l3, l4, l7, l8, l9, l16, l80, l88, l200, l300, pk_mul, nI_add, nI_sb, mx1, mn1, ax_nI, nI_cl, nI_lt', nI_le', nI_eq', if_pos, if_neg, if_true, if_false]
      · right
        rw [goN_q hq] at hg
        subst hg
        unfold bX4_goThrough_5
        simp (disch := omega) only [m6, nm, bnd_s, bnd_n, bn2_s, l0, l1, l2, l3, l4, l7, l8, l9, l16, l80, l88, l200, l300, pk_mul, nI_add, nI_sb, mx1, mn1, ax_nI, nI_cl, nI_lt', nI_le', nI_eq', if_pos, if_neg, if_true, if_false]
        exact ⟨_, rfl, _, s', rfl, f1, r1⟩) FU 8 (v0, σ) ⟨v0, σ, A, 8, rfl, h, hw, frM.rf, hlen, rfl, hv1, hlen⟩ (by omega)
  refine ⟨σ', ?_, h1, h2⟩
  unfold fX4_goThrough
  rw [hv0]
  simp only [bnd_s]
  rw [he]
  rfl
theorem freedM_eq (h : RepM (σ 0) A) (hw : WF A) {o f t : Nat} (ho : o < 8) (hft : f ≤ t) (ht : t ≤ 300) : ∃ σ', fX4_freed (nI o) (nI f) (nI t) σ = some (nI (nfr A o f t), σ') ∧ frM σ σ' ∧ RepM (σ' 0) (setK A o f t 0) := by
  obtain ⟨e, he, σ', rfl, h1, h2⟩ := lp_rng (b := fun x : (Int32 × Int32 × St) => bX4_freed_6 (nI o) (nI t) x.1 x.2.1 x.2.2)
    (fun j s => ∃ s', s = (nI (nfr A o f j), nI j, s') ∧ (∀ c, c ≠ 0 → s' c = σ c) ∧ ∀ i, s' 0 i = if 88 + 300 * o + f ≤ i ∧ i < 88 + 300 * o + j then nI 0 else σ 0 i)
    (fun e => ∃ s', e = (nI (nfr A o f t), nI t, s') ∧ (∀ c, c ≠ 0 → s' c = σ c) ∧ ∀ i, s' 0 i = if 88 + 300 * o + f ≤ i ∧ i < 88 + 300 * o + t then nI 0 else σ 0 i) f t
    (fun j s hfj hj hs => by
      obtain ⟨s', rfl, a, b⟩ := hs
      show ∃ s'', bX4_freed_6 (nI o) (nI t) (nI (nfr A o f j)) (nI j) s' = some (.inl s'') ∧ _
      have hn : nfr A o f j ≤ j := cnt_le (fun p => f ≤ p ∧ aK A o p ≠ 0) j
      have hk : fX4_lock (nI o) (nI j) s' = some (nI (aK A o j)) := by
        unfold fX4_lock
        simp (disch := omega) only [nm, bnd_s, bnd_n, bn2_s, l0, l1, l2, l3, l4, l7, l8, l9, l16, l80, l88, l200, l300, pk_mul, nI_add, nI_sb, mx1, mn1, ax_nI, nI_cl, nI_lt', nI_le', nI_eq', if_pos, if_neg, if_true, if_false]
        rw [b, if_neg (by omega), h.2.2.2.2 o j ho (by omega)]
      have hK3 := hw.1 o j ho (by omega)
      have st : ∀ i, upd (s' 0) (88 + 300 * o + j) (nI 0) i = if 88 + 300 * o + f ≤ i ∧ i < 88 + 300 * o + (j + 1) then nI 0 else σ 0 i := fun i => by
        by_cases e : i = 88 + 300 * o + j
        · subst e; rw [upd_s, if_pos (by omega)]
        · rw [upd_n _ _ e, b]
          by_cases c : 88 + 300 * o + f ≤ i ∧ i < 88 + 300 * o + j
          · rw [if_pos c, if_pos (by omega)]
          · rw [if_neg c, if_neg (by omega)]
      unfold bX4_freed_6
      by_cases c : aK A o j = 0
      · have hc : nfr A o f (j + 1) = nfr A o f j := cnt_ns (P := fun p => f ≤ p ∧ aK A o p ≠ 0) fun q => q.2 c
        simp (disch := omega) only [hk, c, layLockM (σ := s') (nI 0) ho (show j < 300 by omega), nm, bnd_s, bnd_n, bn2_s, l0, l1, l2, l3, l4, l7, l8, l9, l16, l80, l88, l200, l300, pk_mul, nI_add, nI_sb, mx1, mn1, ax_nI, nI_cl, nI_lt', nI_le', nI_eq', if_pos, if_neg, if_true, if_false]
        exact ⟨_, rfl, _, by rw [hc, Nat.add_zero], fun c hc => by rw [put_n _ _ hc]; exact a c hc, fun i => by rw [put_s]; exact st i⟩
      · have hc : nfr A o f (j + 1) = nfr A o f j + 1 := cnt_s (P := fun p => f ≤ p ∧ aK A o p ≠ 0) ⟨hfj, c⟩
        simp (disch := omega) only [hk, layLockM (σ := s') (nI 0) ho (show j < 300 by omega), nm, bnd_s, bnd_n, bn2_s, l0, l1, l2, l3, l4, l7, l8, l9, l16, l80, l88, l200, l300, pk_mul, nI_add, nI_sb, mx1, mn1, ax_nI, nI_cl, nI_lt', nI_le', nI_eq', if_pos, if_neg, if_true, if_false]
        exact ⟨_, rfl, _, by rw [hc], fun c hc => by rw [put_n _ _ hc]; exact a c hc, fun i => by rw [put_s]; exact st i⟩)
    (fun s hs => by
      obtain ⟨s', rfl, a, b⟩ := hs
      show ∃ e, bX4_freed_6 (nI o) (nI t) (nI (nfr A o f t)) (nI t) s' = some (.inr e) ∧ _
      unfold bX4_freed_6
      simp (disch := omega) only [nm, bnd_s, bnd_n, bn2_s, l0, l1, l2, l3, l4, l7, l8, l9, l16, l80, l88, l200, l300, pk_mul, nI_add, nI_sb, mx1, mn1, ax_nI, nI_cl, nI_lt', nI_le', nI_eq', if_pos, if_neg, if_true, if_false]
      exact ⟨_, rfl, s', rfl, a, b⟩)
    (nI 0, nI f, σ) hft ⟨σ, by rw [show nfr A o f f = 0 from cnt_z (P := fun p => f ≤ p ∧ aK A o p ≠ 0) fun p hp q => by omega], fun _ _ => rfl, fun i => by rw [if_neg (by omega)]⟩ (by omega)
  refine ⟨σ', ?_, fun c a _ _ => h1 c a, h.kinds hw (fun i hi => by rw [h2, if_neg (by omega)]) (fun x p hx hp => ?_) rfl rfl rfl⟩
  · unfold fX4_freed
    simp (disch := omega) only [he, nm, bnd_s, bnd_n, bn2_s, l0, l1, l2, l3, l4, l7, l8, l9, l16, l80, l88, l200, l300, pk_mul, nI_add, nI_sb, mx1, mn1, ax_nI, nI_cl, nI_lt', nI_le', nI_eq', if_pos, if_neg, if_true, if_false]
  · rw [h2]
    show _ = nI (if x = o ∧ f ≤ p ∧ p < t then 0 else aK A x p)
    by_cases c : x = o ∧ f ≤ p ∧ p < t
    · rw [if_pos c, if_pos (by obtain ⟨rfl, _⟩ := c; omega)]
    · rw [if_neg c, if_neg (by omega)]
      exact h.2.2.2.2 x p hx hp
end MG
