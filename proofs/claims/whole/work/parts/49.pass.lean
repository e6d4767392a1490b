/-! Ticks, on both sides: as many as are asked for -/
section PS
variable {σ : St} {A : AS}
theorem tk1L (h : RepL σ A) (hw : OK A) {n j : Nat} (hj : j < n) (hn : n ≤ 300) : ∃ σ', bX1_pass_22 (nI n) (nI j) σ = some (.inl (nI (j + 1), σ')) ∧ RepL σ' (tk1 A) := by
  obtain ⟨s5, e5, r5⟩ := endL_eq h hw.1
  by_cases c : (aR A).length ≤ (aR (ageA A)).length
  · rw [if_pos c] at e5
    have hq : Qt (agg A) := by
      show Qt (glbA (ageA A) 1 _)
      rw [age_all c]
      exact glb_Q (inc_Q hw.2) (by omega)
    have hg : goA (agg A) = agg A := goN_q hq 8
    have g1 : s5 1 0 = aG (agg A) 0 := r5.1.1
    refine ⟨put s5 1 (fun _ => s5 1 0 + 1), ?_, ?_⟩
    · unfold bX1_pass_22
      rw [if_neg (fun q => absurd ((nI_leI (by omega) (by omega)).mp q) (by omega)), e5, bn2_s, if_pos (show nI 0 = 0 from rfl), nm, nm, l1, nI_add]
    · unfold tk1
      rw [hg, g1]
      exact r5.sc (by omega) _
  · rw [if_neg c] at e5
    obtain ⟨z, s9, e9, r9, -⟩ := goL_eq r5 hw.1.agg
    have g1 : s9 1 0 = aG (goA (agg A)) 0 := r9.1.1
    refine ⟨put s9 1 (fun _ => s9 1 0 + 1), ?_, ?_⟩
    · unfold bX1_pass_22
      rw [if_neg (fun q => absurd ((nI_leI (by omega) (by omega)).mp q) (by omega)), e5, bn2_s, if_neg (by decide), e9, bn2_s, nm, nm, l1, nI_add]
    · unfold tk1
      rw [g1]
      exact r9.sc (by omega) _
theorem i32_as (a b : Int32) : a + b - a = b := by rw [Int32.add_comm, Int32.add_sub_cancel]
theorem passL (h : RepL σ A) (hw : OK A) {n : Nat} (h1 : 1 ≤ n) (hn : n ≤ 300) : ∃ σ', fX1_pass (nI n) σ = some (nI (dN n A), σ') ∧ RepL σ' (tkN n A) := by
  have hFU := FU_v
  obtain ⟨e, he, r13⟩ := lp_rng (b := fun t : (Int32 × St) => bX1_pass_22 (nI n) t.1 t.2)
    (fun j x => ∃ s', x = (nI j, s') ∧ RepL s' (tkN j A)) (fun e => RepL e.2 (tkN n A)) 0 n
    (fun j x _ hj hx => by
      obtain ⟨s', rfl, hr⟩ := hx
      obtain ⟨s'', e1, r1⟩ := tk1L hr (tkN_ok hw j).1 hj hn
      exact ⟨_, e1, s'', rfl, r1⟩)
    (fun x hx => by
      obtain ⟨s', rfl, hr⟩ := hx
      exact ⟨(nI n, s'), by show bX1_pass_22 (nI n) (nI n) s' = _; unfold bX1_pass_22; rw [if_pos ((nI_leI (by omega) (by omega)).mpr (Nat.le_refl _))], hr⟩) (nI 0, σ) (by omega) ⟨σ, rfl, h⟩ (by omega)
  refine ⟨e.2, ?_, r13⟩
  have g0 : σ 13 0 = aG A 1 := h.1.2.1
  have g1 : e.2 13 0 = aG A 1 + nI (dN n A) := r13.1.2.1.trans (tkN_ok hw n).2.1
  unfold fX1_pass
  rw [if_neg (show ¬ nI n < 1 from fun q => absurd ((nI_ltI (b := 1) (by omega) (by omega)).mp q) (by omega)), if_pos (show nI n ≤ 300 from (nI_leI (b := 300) (by omega) (by omega)).mpr hn)]
  simp only [nm]
  rw [show lp (fun t : (Int32 × St) => bX1_pass_22 (nI n) t.1 t.2) FU ((0 : Int32), σ) = _ from he, bnd_s, g1, g0, i32_as]
/-- the reference counts the ticks of all that wait -/
theorem incM (h : RepM (σ 0) A) (hw : WF A) : ∃ σ', lp (fun t : (Int32 × St) => bX4_tryTicks_33 t.1 t.2) FU (nI 0, σ) = some (nI 8, σ') ∧ frM σ σ' ∧ RepM (σ' 0) (incR A) := by
  have hFU := FU_v
  obtain ⟨e, he, σ', rfl, f1, r1⟩ := lp_rng (b := fun t : (Int32 × St) => bX4_tryTicks_33 t.1 t.2)
    (fun j x => ∃ s', x = (nI j, s') ∧ frM σ s' ∧ RepM (s' 0) (aK A, (aR A).map (fun r => if r.1 < j then inc r else r), aC A, aG A))
    (fun e => ∃ s', e = (nI 8, s') ∧ frM σ s' ∧ RepM (s' 0) (incR A)) 0 8
    (fun j x _ hj hx => by
      obtain ⟨s, rfl, f, hr⟩ := hx
      show ∃ s'', bX4_tryTicks_33 (nI j) s = some (.inl s'') ∧ _
      have m4 : ∀ j : Nat, ((aR A).map (fun r => if r.1 < j then inc r else r)).map rq4 = (aR A).map rq4 := fun j => by
        rw [List.map_map]
        apply List.map_congr_left
        intro r _
        show rq4 (if r.1 < j then inc r else r) = rq4 r
        split <;> rfl
      have wj : WF (aK A, (aR A).map (fun r => if r.1 < j then inc r else r), aC A, aG A) := hw.sub (by rw [m4]; exact List.Sublist.refl _)
      have hv : ∀ r ∈ aR A, s 0 (16 + 9 * r.1 + 3) = if r.1 < j then r.2.2.2.2 + 1 else r.2.2.2.2 := fun r hr0 => by
        obtain ⟨i, hi⟩ := List.getElem?_of_mem hr0
        have := (hr.2.1 i (if r.1 < j then inc r else r) (by show ((aR A).map _)[i]? = _; rw [List.getElem?_map, hi]; rfl)).2.2.2.2
        by_cases c : r.1 < j
        · rw [if_pos c] at this ⊢; exact this
        · rw [if_neg c] at this ⊢; exact this
      have fin : ∀ v : Int32, ((∃ r ∈ aR A, r.1 = j) → v = 1) → RepM (upd (s 0) (16 + 9 * j + 3) (s 0 (16 + 9 * j + 3) + v)) (aK A, (aR A).map (fun r => if r.1 < j + 1 then inc r else r), aC A, aG A) := fun v hv1 => by
        refine hr.wt wj (by show ((aR A).map _).map rq4 = ((aR A).map _).map rq4; rw [m4, m4]) (fun m hm => upd_n _ _ (hm j hj)) fun r' hr' => ?_
        obtain ⟨r, hr0, rfl⟩ := List.mem_map.mp hr'
        have w1 := (hw.2.2.1 r hr0).1
        by_cases c : r.1 = j
        · rw [if_pos (by omega)]
          show upd (s 0) (16 + 9 * j + 3) _ (16 + 9 * r.1 + 3) = r.2.2.2.2 + 1
          have := hv r hr0
          rw [if_neg (by omega)] at this
          rw [← c, upd_s, this, hv1 ⟨r, hr0, c⟩]
        · by_cases c2 : r.1 < j
          · rw [if_pos (by omega)]
            show upd (s 0) (16 + 9 * j + 3) _ (16 + 9 * r.1 + 3) = r.2.2.2.2 + 1
            rw [upd_n _ _ (by omega), hv r hr0, if_pos c2]
          · rw [if_neg (by omega), upd_n _ _ (by omega), hv r hr0, if_neg c2]
      rcases row_cases (aK A, (aR A).map (fun r => if r.1 < j then inc r else r), aC A, aG A) j with ⟨i, r, hi, e1, -⟩ | hno
      · have hk := wj.2.2.1 r (List.mem_of_getElem? hi)
        have o0 : fX4_of (nI j) (nI 0) s = some (nI r.2.1) := by rw [show fX4_of (nI j) (nI 0) s = some (s 0 (16 + 9 * j)) from ofM_eq (w := 0) hj (by omega), ← e1, (hr.2.1 i r hi).2.1]
        obtain ⟨s14, hs14⟩ : ∃ s14, s14 = put s 0 (upd (s 0) (16 + 9 * j + 3) (s 0 (16 + 9 * j + 3) + nI 1)) := ⟨_, rfl⟩
        have e14 : fX4_more (nI j) (nI 3) (nI 1) s = some s14 := by rw [hs14]; exact moreM _ hj (by omega)
        refine ⟨(nI (j + 1), s14), ?_, s14, rfl, f.tr (by rw [hs14]; exact frM.put), by rw [hs14, put_s]; exact fin _ fun _ => rfl⟩
        unfold bX4_tryTicks_33
        simp (disch := omega) only [o0, e14, nm, bnd_s, bnd_n, bn2_s, l0, l1, l2, l3, l4, l7, l8, l9, l16, l80, l88, l200, l300, pk_mul, nI_add, nI_sb, mx1, mn1, ax_nI, nI_cl, nI_lt', nI_le', nI_eq', if_pos, if_neg, if_true, if_false]
      · have o0 : fX4_of (nI j) (nI 0) s = some (nI 0) := by rw [show fX4_of (nI j) (nI 0) s = some (s 0 (16 + 9 * j)) from ofM_eq (w := 0) hj (by omega), hr.2.2.1 j hj hno]; rfl
        obtain ⟨s14, hs14⟩ : ∃ s14, s14 = put s 0 (upd (s 0) (16 + 9 * j + 3) (s 0 (16 + 9 * j + 3) + nI 0)) := ⟨_, rfl⟩
        have e14 : fX4_more (nI j) (nI 3) (nI 0) s = some s14 := by rw [hs14]; exact moreM _ hj (by omega)
        refine ⟨(nI (j + 1), s14), ?_, s14, rfl, f.tr (by rw [hs14]; exact frM.put), by
          rw [hs14, put_s]
          refine fin _ fun ⟨r, hr0, e1⟩ => ?_
          exfalso
          refine hno (if r.1 < j then inc r else r) (List.mem_map.mpr ⟨r, hr0, rfl⟩) ?_
          rw [if_neg (by omega)]
          exact e1⟩
        unfold bX4_tryTicks_33
        simp (disch := omega) only [o0, e14, nm, bnd_s, bnd_n, bn2_s, l0, l1, l2, l3, l4, l7, l8, l9, l16, l80, l88, l200, l300, pk_mul, nI_add, nI_sb, mx1, mn1, ax_nI, nI_cl, nI_lt', nI_le', nI_eq', if_pos, if_neg, if_true, if_false])
    (fun x hx => by
      obtain ⟨s, rfl, f, hr⟩ := hx
      refine ⟨(nI 8, s), by show bX4_tryTicks_33 (nI 8) s = _; unfold bX4_tryTicks_33; rw [if_pos (by decide)], s, rfl, f, ?_⟩
      have : (aR A).map (fun r => if r.1 < 8 then inc r else r) = (aR A).map inc := List.map_congr_left fun r hr0 => if_pos (hw.2.2.1 r hr0).1
      rw [this] at hr
      exact hr) (nI 0, σ) (by omega) ⟨σ, rfl, frM.rf, by
        have : (aR A).map (fun r => if r.1 < 0 then inc r else r) = aR A := by
          rw [show (aR A).map (fun r => if r.1 < 0 then inc r else r) = (aR A).map id from List.map_congr_left fun r _ => if_neg (by omega), List.map_id]
        rw [this]
        exact h⟩ (by omega)
  exact ⟨σ', he, f1, r1⟩
theorem row_uniq {A : AS} (hw : WF A) {r r' : Rq} (h : r ∈ aR A) (h' : r' ∈ aR A) (e : r.1 = r'.1) : r = r' := by
  obtain ⟨i, hi⟩ := List.getElem?_of_mem h
  obtain ⟨j, hj⟩ := List.getElem?_of_mem h'
  have := row_inj hw hi hj e
  subst this
  rw [hi] at hj
  exact Option.some.inj hj
theorem awM (h : RepM (σ 0) (incR A)) (hw : WF A) : ∃ σ', fX4_sendAway σ = some (nI (ddA A), σ') ∧ frM σ σ' ∧ RepM (σ' 0) (agg A) := by
  have hFU := FU_v
  have hlen := hw.len
  have wi : WF (incR A) := hw.sub (by rw [inc4]; exact List.Sublist.refl _)
  have hP : σ 0 4 = aG A 5 := h.1.2.2.2.2.2.1
  obtain ⟨e, he, σ', he1, f1, r1⟩ := lp_rngB (b := fun t : (Int32 × Int32 × St) => bX4_sendAway_4 t.1 t.2.1 t.2.2)
    (fun j x => ∃ c s', x = (nI c, nI j, s') ∧ frM σ s' ∧ RepM (s' 0) (aK A, ((aR A).map inc).filter (fun r => decide (j ≤ r.1) || kpB (aG A 5) r), aC A, aG A) ∧ c + (((aR A).map inc).filter (fun r => decide (j ≤ r.1) || kpB (aG A 5) r)).length = (aR A).length)
    (fun e => ∃ s', (e.1 = nI (ddA A) ∧ e.2.2 = s') ∧ frM σ s' ∧ RepM (s' 0) (ageA A)) 0 8
    (fun j x _ hj hx => by
      obtain ⟨c, s, rfl, f, hr, hc⟩ := hx
      show (∃ s'', bX4_sendAway_4 (nI c) (nI j) s = some (.inl s'') ∧ _) ∨ ∃ e, bX4_sendAway_4 (nI c) (nI j) s = some (.inr e) ∧ _
      obtain ⟨R, hR⟩ : ∃ R, R = ((aR A).map inc).filter (fun r => decide (j ≤ r.1) || kpB (aG A 5) r) := ⟨_, rfl⟩
      rw [← hR] at hr hc
      have wR : WF (aK A, R, aC A, aG A) := wi.sub (by
        rw [hR]
        exact List.Sublist.map _ List.filter_sublist)
      have h4 : s 0 4 = aG A 5 := hr.1.2.2.2.2.2.1
      have l4' : (4 : Int32) = nI 4 := rfl
      by_cases c0 : aG A 5 ≤ 0
      · right
        have ka : ∀ r, kpB (aG A 5) r = true := fun r => decide_eq_true (Or.inl c0)
        have e1 : R = (aR A).map inc := by
          rw [hR]
          exact List.filter_eq_self.mpr fun r _ => by rw [ka, Bool.or_true]
        have e2 : aR (ageA A) = (aR A).map inc := List.filter_eq_self.mpr fun r _ => ka r
        have hd : ddA A = 0 := by unfold ddA; rw [e2, List.length_map]; omega
        have hc0 : c = 0 := by rw [e1, List.length_map] at hc; omega
        subst hc0
        refine ⟨(nI 0, nI j, s), ?_, s, ⟨by rw [hd], rfl⟩, f, ?_⟩
        · unfold bX4_sendAway_4
          simp (disch := omega) only [h4, show (aG A 5 ≤ nI 0) = True from eq_true c0, nm, bnd_s, bnd_n, bn2_s, l0, l1, l2, l3, l4, l7, l8, l9, l16, l80, l88, l200, l300, pk_mul, nI_add, nI_sb, mx1, mn1, ax_nI, nI_cl, nI_lt', nI_le', nI_eq', if_pos, if_neg, if_true, if_false]
        · have : ageA A = (aK A, R, aC A, aG A) := by rw [e1, ← e2]; rfl
          rw [this]; exact hr
      · left
        have wl : ∀ r ∈ (aR A).map inc, r.1 < 8 := fun r hr0 => (wi.2.2.1 r hr0).1
        rcases row_cases (aK A, R, aC A, aG A) j with ⟨i, r, hi, e1, -⟩ | hno
        · have hrR : r ∈ R := List.mem_of_getElem? hi
          have hrI : r ∈ (aR A).map inc := (List.mem_filter.mp (by rw [← hR]; exact hrR)).1
          have hk := wR.2.2.1 r hrR
          have o0 : fX4_of (nI j) (nI 0) s = some (nI r.2.1) := by rw [show fX4_of (nI j) (nI 0) s = some (s 0 (16 + 9 * j)) from ofM_eq (w := 0) hj (by omega), ← e1, (hr.2.1 i r hi).2.1]
          have o3 : fX4_of (nI j) (nI 3) s = some r.2.2.2.2 := by rw [show fX4_of (nI j) (nI 3) s = some (s 0 (16 + 9 * j + 3)) from ofM_eq (w := 3) hj (by omega), ← e1, (hr.2.1 i r hi).2.2.2.2]
          by_cases c2 : r.2.2.2.2 < aG A 5
          · have eR : R = ((aR A).map inc).filter (fun r => decide (j + 1 ≤ r.1) || kpB (aG A 5) r) := by
              rw [hR]
              apply List.filter_congr
              intro r' hr'
              by_cases q : r'.1 = j
              · have : r' = r := row_uniq wi hr' hrI (by rw [q, e1])
                have kt : kpB (aG A 5) r' = true := by rw [this]; exact decide_eq_true (Or.inr c2)
                rw [kt, Bool.or_true, Bool.or_true]
              · rw [show decide (j ≤ r'.1) = decide (j + 1 ≤ r'.1) from decide_eq_decide.mpr (by omega)]
            refine ⟨(nI c, nI (j + 1), s), ?_, c, s, rfl, f, by rw [← eR]; exact hr, by rw [← eR]; exact hc⟩
            unfold bX4_sendAway_4
            simp (disch := omega) only [h4, show (aG A 5 ≤ nI 0) = False from eq_false c0, o0, o3, eq_true c2, nm, bnd_s, bnd_n, bn2_s, l0, l1, l2, l3, l4, l7, l8, l9, l16, l80, l88, l200, l300, pk_mul, nI_add, nI_sb, mx1, mn1, ax_nI, nI_cl, nI_lt', nI_le', nI_eq', if_pos, if_neg, if_true, if_false]
          · obtain ⟨s9, e9, f9, r9⟩ := leaveM_eq hr wR hi
            rw [e1] at e9
            have eR : (quitA (aK A, R, aC A, aG A) r.1) = (aK A, ((aR A).map inc).filter (fun r => decide (j + 1 ≤ r.1) || kpB (aG A 5) r), aC A, aG A) := by
              unfold quitA
              refine Prod.ext rfl (Prod.ext ?_ rfl)
              show R.filter (fun r' : Rq => r'.1 != r.1) = _
              rw [hR, List.filter_filter, e1]
              apply List.filter_congr
              intro r' hr'
              by_cases q : r'.1 = j
              · have : r' = r := row_uniq wi hr' hrI (by rw [q, e1])
                have kt : kpB (aG A 5) r' = false := by rw [this]; exact decide_eq_false (fun x => x.elim c0 c2)
                rw [kt, q]
                simp
              · rw [show decide (j ≤ r'.1) = decide (j + 1 ≤ r'.1) from decide_eq_decide.mpr (by omega), show (r'.1 != j) = true by simpa using q, Bool.true_and]
            have hl1 : (((aR A).map inc).filter (fun r => decide (j + 1 ≤ r.1) || kpB (aG A 5) r)).length + 1 = R.length := by
              have e2 : aR (quitA (aK A, R, aC A, aG A) r.1) = R.eraseIdx i := filter_ne wR.2.1 hi rfl
              rw [eR] at e2
              have hi2 : i < R.length := (List.getElem?_eq_some_iff.mp hi).1
              have := congrArg List.length e2
              rw [List.length_eraseIdx_of_lt hi2] at this
              have : (((aR A).map inc).filter (fun r => decide (j + 1 ≤ r.1) || kpB (aG A 5) r)).length = R.length - 1 := this
              omega
            rw [eR] at r9
            refine ⟨(nI (c + 1), nI (j + 1), s9), ?_, c + 1, s9, rfl, f.tr f9, r9, by omega⟩
            unfold bX4_sendAway_4
            simp (disch := omega) only [h4, show (aG A 5 ≤ nI 0) = False from eq_false c0, o0, o3, eq_false c2, e9, nm, bnd_s, bnd_n, bn2_s, l0, l1, l2, l3, l4, l7, l8, l9, l16, l80, l88, l200, l300, pk_mul, nI_add, nI_sb, mx1, mn1, ax_nI, nI_cl, nI_lt', nI_le', nI_eq', if_pos, if_neg, if_true, if_false]
        · have o0 : fX4_of (nI j) (nI 0) s = some (nI 0) := by rw [show fX4_of (nI j) (nI 0) s = some (s 0 (16 + 9 * j)) from ofM_eq (w := 0) hj (by omega), hr.2.2.1 j hj hno]; rfl
          have eR : R = ((aR A).map inc).filter (fun r => decide (j + 1 ≤ r.1) || kpB (aG A 5) r) := by
            rw [hR]
            apply List.filter_congr
            intro r' hr'
            by_cases q : r'.1 = j
            · exact absurd q (hno r' (by
                show r' ∈ R
                rw [hR]
                exact List.mem_filter.mpr ⟨hr', by rw [show decide (j ≤ r'.1) = true from decide_eq_true (by omega), Bool.true_or]⟩))
            · rw [show decide (j ≤ r'.1) = decide (j + 1 ≤ r'.1) from decide_eq_decide.mpr (by omega)]
          refine ⟨(nI c, nI (j + 1), s), ?_, c, s, rfl, f, by rw [← eR]; exact hr, by rw [← eR]; exact hc⟩
          unfold bX4_sendAway_4
          simp (disch := omega) only [h4, show (aG A 5 ≤ nI 0) = False from eq_false c0, o0, nm, bnd_s, bnd_n, bn2_s, l0, l1, l2, l3, l4, l7, l8, l9, l16, l80, l88, l200, l300, pk_mul, nI_add, nI_sb, mx1, mn1, ax_nI, nI_cl, nI_lt', nI_le', nI_eq', if_pos, if_neg, if_true, if_false])
    (fun x hx => by
      obtain ⟨c, s, rfl, f, hr, hc⟩ := hx
      have eR : ((aR A).map inc).filter (fun r => decide (8 ≤ r.1) || kpB (aG A 5) r) = aR (ageA A) := by
        apply List.filter_congr
        intro r hr0
        rw [show decide (8 ≤ r.1) = false from decide_eq_false (by have := (wi.2.2.1 r hr0).1; omega), Bool.false_or]
      rw [eR] at hr hc
      refine ⟨(nI c, nI 8, s), by show bX4_sendAway_4 (nI c) (nI 8) s = _; unfold bX4_sendAway_4; rw [if_pos (by decide)], s, ⟨?_, rfl⟩, f, hr⟩
      show nI c = nI (ddA A)
      unfold ddA
      rw [show c = (aR A).length - (aR (ageA A)).length by omega]) (nI 0, nI 0, σ) (by omega) ⟨0, σ, rfl, frM.rf, by
        have : ((aR A).map inc).filter (fun r => decide (0 ≤ r.1) || kpB (aG A 5) r) = (aR A).map inc := List.filter_eq_self.mpr fun r _ => by rw [show decide (0 ≤ r.1) = true from decide_eq_true (by omega), Bool.true_or]
        rw [this, List.length_map]
        exact ⟨h, by omega⟩⟩ (by omega)
  have g5 : σ' 0 5 = aG A 1 := r1.1.2.1
  have r2 := r1.glb hw.age (j := 1) (by omega) (aG A 1 + nI (ddA A))
  refine ⟨put σ' 0 (upd (σ' 0) 5 (aG A 1 + nI (ddA A))), ?_, f1.tr frM.put, by rw [put_s]; exact r2⟩
  unfold fX4_sendAway
  rw [show lp (fun t : (Int32 × Int32 × St) => bX4_sendAway_4 t.1 t.2.1 t.2.2) FU ((0 : Int32), (0 : Int32), σ) = _ from he, bnd_s]
  simp only [nm]
  rw [he1.1, he1.2, show ∀ k : Option (Int32 × St), ax (5 : Int32) 2488 k = k from fun k => ax_nI (j := 5) (by omega) (by omega), show ∀ k : Option (Int32 × St), ax (5 : Int32) 2488 k = k from fun k => ax_nI (j := 5) (by omega) (by omega), show σ' 0 (Int32.toNatClampNeg 5) = aG A 1 from g5]
  rfl
end PS
