/-! Ticks: both sides together -/
section TB
variable {σ : St} {A : AS} {N : Nat} {kp : Bool}
theorem tk1M (h : RepM (σ 0) A) (hw : OK A) {n j d : Nat} (hj : j < n) (hn : n ≤ 300) : ∃ σ', bX4_tryTicks_24 (nI n) (nI d) (nI j) σ = some (.inl (nI (d + ddA A), nI (j + 1), σ')) ∧ frM σ σ' ∧ RepM (σ' 0) (tk1 A) := by
  obtain ⟨s17, e17, f17, r17⟩ := incM h hw.1
  obtain ⟨s19, e19, f19, r19⟩ := awM r17 hw.1
  obtain ⟨s22, e22, f22, r22⟩ := goM_eq r19 hw.1.agg
  have g0 : s22 0 0 = aG (goA (agg A)) 0 := r22.1.1
  have r23 := r22.glb (goA_ok hw.1.agg).1 (j := 0) (by omega) (aG (goA (agg A)) 0 + 1)
  refine ⟨put s22 0 (upd (s22 0) 0 (aG (goA (agg A)) 0 + 1)), ?_, f17.tr (f19.tr (f22.tr frM.put)), by rw [put_s]; exact r23⟩
  have x0 : ∀ k : Option ((Int32 × Int32 × St) ⊕ (Int32 × Int32 × St)), ax (0 : Int32) 2488 k = k := fun k => ax_nI (j := 0) (by omega) (by omega)
  unfold bX4_tryTicks_24
  rw [if_neg (fun q => absurd ((nI_leI (by omega) (by omega)).mp q) (by omega)), show lp (fun t : (Int32 × St) => bX4_tryTicks_33 t.1 t.2) FU ((0 : Int32), σ) = _ from e17, bnd_s]
  simp only [nm]
  rw [e19, bn2_s, e22, bnd_s, x0, x0, show s22 0 (Int32.toNatClampNeg 0) = _ from g0, l1, nI_add, nI_add]
  rfl
theorem ticksM {L : List AS} (h : RepM (σ 0) A) (hw : OK A) (hH : HM σ L) {n : Nat} (h1 : 1 ≤ n) (hn : n ≤ 300) : ∃ σ', fX4_tryTicks (nI n) (kpI kp) σ = some (nI (dN n A), σ') ∧ RepM (σ' 0) (tkN n A) ∧ frK σ σ' ∧ HM σ' (kpL kp L A) := by
  have hFU := FU_v
  obtain ⟨s3, e3, q3, f3, h3⟩ := keepIf_eq kp hH h hw
  have r3 : RepM (s3 0) A := by rw [q3]; exact h
  obtain ⟨e, he, s27, e27, f27, r27⟩ := lp_rng (b := fun t : (Int32 × Int32 × St) => bX4_tryTicks_24 (nI n) t.1 t.2.1 t.2.2)
    (fun j x => ∃ s', x = (nI (dN j A), nI j, s') ∧ frM s3 s' ∧ RepM (s' 0) (tkN j A)) (fun e => ∃ s', (e.1 = nI (dN n A) ∧ e.2.2 = s') ∧ frM s3 s' ∧ RepM (s' 0) (tkN n A)) 0 n
    (fun j x _ hj hx => by
      obtain ⟨s', rfl, f, hr⟩ := hx
      obtain ⟨s'', e1, f1, r1⟩ := tk1M hr (tkN_ok hw j).1 hj hn
      exact ⟨_, e1, s'', rfl, f.tr f1, r1⟩)
    (fun x hx => by
      obtain ⟨s', rfl, f, hr⟩ := hx
      exact ⟨(nI (dN n A), nI n, s'), by show bX4_tryTicks_24 (nI n) (nI (dN n A)) (nI n) s' = _; unfold bX4_tryTicks_24; rw [if_pos ((nI_leI (by omega) (by omega)).mpr (Nat.le_refl _))], s', ⟨rfl, rfl⟩, f, hr⟩) (nI 0, nI 0, s3) (by omega) ⟨s3, rfl, frM.rf, r3⟩ (by omega)
  refine ⟨s27, ?_, r27, f3.tr f27.K, h3.frM f27⟩
  have i1 : fX4_in (nI n) 1 300 = some (nI 1) := by rw [show fX4_in (nI n) 1 300 = _ from inM_eq (v := n) (lo := 1) (hi := 300) (by omega) (by omega) (by omega), if_pos (by omega)]
  unfold fX4_tryTicks
  rw [i1, bnd_s, if_neg (by decide), e3, bnd_s, show lp (fun t : (Int32 × Int32 × St) => bX4_tryTicks_24 (nI n) t.1 t.2.1 t.2.2) FU ((0 : Int32), (0 : Int32), s3) = _ from he, bnd_s]
  simp only [nm]
  rw [e27.1, e27.2]
theorem ticks_b (hw : OK A) (hb : BD N A) (a : Int32) : chg (N + 300) kp (fX1_pass a) (fX4_tryTicks a (kpI kp)) A := by
  rcases pk_ix a (n := 301) (by omega) with ha | ha | ⟨n, hn, rfl⟩
  · have ha1 : a < 1 := neg_lt ha (n := 1) (by omega)
    refine chg_no (v := -2) hw (hb.mono (by omega)) (by decide) (fun σ h => ?_) fun σ h => ?_
    · unfold fX1_pass
      rw [if_pos ha1]
    · unfold fX4_tryTicks
      rw [inM_lo ha1]; rfl
  · have ha1 : (300 : Int32) < a := ge_gt (n := 300) ha (by omega)
    refine chg_no (v := -2) hw (hb.mono (by omega)) (by decide) (fun σ h => ?_) fun σ h => ?_
    · unfold fX1_pass
      split
      · rfl
      · first | rfl | rw [if_neg (lt_nle ha1)]
    · unfold fX4_tryTicks
      rw [show fX4_in a 1 300 = some 0 from inM_hi ha1]; rfl
  · by_cases c : n = 0
    · subst c
      refine chg_no (v := -2) hw (hb.mono (by omega)) (by decide) (fun σ h => ?_) fun σ h => ?_
      · rfl
      · unfold fX4_tryTicks
        rw [show fX4_in (nI 0) 1 300 = some 0 from inM_lo (by decide)]; rfl
    · have hlen := hw.1.len
      obtain ⟨a1, -, a3⟩ := tkN_ok hw n
      have hd : ¬ nI (dN n A) < 0 := nI_pos (by omega)
      refine ⟨nI (dN n A), tkN n A, fun σ h => passL h hw (by omega) (by omega), fun σ L h hH => ?_, a1, (hb.tkN hw n).mono (by omega), fun q => absurd q hd⟩
      obtain ⟨s, b1, b2, b3, b4⟩ := ticksM (kp := kp) h hw hH (n := n) (by omega) (by omega)
      exact ⟨s, b1, b2, b3, by rw [if_neg hd]; exact b4⟩
end TB
