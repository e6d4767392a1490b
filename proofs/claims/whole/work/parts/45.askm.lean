/-! Requests: the reference -/
theorem isOwnerM_ok {o : Nat} (ho : o < 8) : fX4_isOwner (nI o) = some (nI 1) := by
  unfold fX4_isOwner
  rw [show fX4_in (nI o) (0 : Int32) (7 : Int32) = _ from inM_eq (v := o) (lo := 0) (hi := 7) (by omega) (by omega) (by omega), if_pos (by omega)]
  simp only [bnd_s]
  exact gd_t (Or.inr rfl)
theorem isRangeM_ok {f t : Nat} (hf : f < t) (ht : t ≤ 300) : fX4_isRange (nI f) (nI t) = some (nI 1) := by
  unfold fX4_isRange
  rw [show fX4_in (nI f) (0 : Int32) (299 : Int32) = _ from inM_eq (v := f) (lo := 0) (hi := 299) (by omega) (by omega) (by omega), if_pos (by omega)]
  simp (disch := omega) only [show fX4_in (nI t) (nI (f + 1)) (nI 300) = _ from inM_eq (v := t) (lo := f + 1) (hi := 300) (by omega) (by omega) (by omega), nm, bnd_s, bnd_n, bn2_s, l0, l1, l2, l3, l4, l7, l8, l9, l16, l80, l88, l200, l300, pk_mul, nI_add, nI_sb, mx1, mn1, ax_nI, nI_cl, nI_lt', nI_le', nI_eq', if_pos, if_neg, if_true, if_false]
theorem RepM.junk {a : Nat → Int32} {A : AS} (h : RepM a A) (hw : WF A) {o w : Nat} (ho : o < 8) (hno : ∀ r ∈ aR A, r.1 ≠ o) (h1 : 1 ≤ w) (h3 : w ≤ 3) (v : Int32) : RepM (upd a (16 + 9 * o + w) v) A := by
  have hlen := hw.len
  refine ⟨?_, ?_, ?_, ?_, ?_⟩
  · rw [upd_n _ _ (by omega), upd_n _ _ (by omega), upd_n _ _ (by omega), upd_n _ _ (by omega), upd_n _ _ (by omega), upd_n _ _ (by omega), upd_n _ _ (by omega)]
    exact h.1
  · intro i r hr
    have hi : i < (aR A).length := (List.getElem?_eq_some_iff.mp hr).1
    have w1 := (hw.2.2.1 r (List.mem_of_getElem? hr)).1
    have := hno r (List.mem_of_getElem? hr)
    rw [upd_n _ _ (by omega), upd_n _ _ (by omega), upd_n _ _ (by omega), upd_n _ _ (by omega), upd_n _ _ (by omega)]
    exact h.2.1 i r hr
  · intro x hx hno
    rw [upd_n _ _ (by omega)]
    exact h.2.2.1 x hx hno
  · intro x hx
    rw [upd_n _ _ (by omega), upd_n _ _ (by omega), upd_n _ _ (by omega), upd_n _ _ (by omega)]
    exact h.2.2.2.1 x hx
  · intro x p hx hp
    rw [upd_n _ _ (by omega)]
    exact h.2.2.2.2 x p hx hp
theorem join_quit {A : AS} {o k f t : Nat} (hno : ∀ r ∈ aR A, r.1 ≠ o) : quitA (joinA A o k f t) o = A := by
  unfold quitA joinA
  refine Prod.ext rfl (Prod.ext ?_ rfl)
  show (aR A ++ [(o, k, f, t, 0)]).filter (fun r : Rq => r.1 != o) = aR A
  rw [List.filter_append, filter_no hno, List.filter_cons_of_neg (by simp), List.filter_nil, List.append_nil]
theorem row_lt8 {A : AS} (hw : WF A) {o : Nat} (ho : o < 8) (hno : ∀ r ∈ aR A, r.1 ≠ o) : (aR A).length < 8 := by
  rcases Nat.lt_or_ge (aR A).length 8 with q | q
  · exact q
  · exfalso
    have hsub : (o :: (aR A).map (fun r : Rq => r.1)).length ≤ (List.range 8).length := List.Nodup.length_le_of_subset (by
      rw [List.nodup_cons]
      exact ⟨fun q => by obtain ⟨r, hr, e⟩ := List.mem_map.mp q; exact hno r hr e, hw.2.1⟩) (fun x hx => by
      rcases List.mem_cons.mp hx with rfl | hx
      · exact List.mem_range.mpr ho
      · obtain ⟨r, hr, rfl⟩ := List.mem_map.mp hx
        exact List.mem_range.mpr (hw.2.2.1 r hr).1)
    rw [List.length_cons, List.length_map, List.length_range] at hsub
    omega
section MA
variable {σ : St} {A : AS}
theorem wantM (h : RepM (σ 0) A) (hw : WF A) {o : Nat} (ho : o < 8) : ∃ k, k ≤ 3 ∧ fX4_of (nI o) (nI 0) σ = some (nI k) ∧ (inR A o → 1 ≤ k) ∧ (¬ inR A o → k = 0) := by
  have e : fX4_of (nI o) (nI 0) σ = some (σ 0 (16 + 9 * o)) := ofM_eq (w := 0) ho (by omega)
  by_cases c : inR A o
  · obtain ⟨r, hr, rfl⟩ := c
    obtain ⟨i, hi⟩ := List.getElem?_of_mem hr
    have w := hw.2.2.1 r hr
    rw [(h.2.1 i r hi).2.1] at e
    exact ⟨r.2.1, w.2.2.1, e, fun _ => w.2.1, fun q => absurd ⟨r, hr, rfl⟩ q⟩
  · rw [h.2.2.1 o ho fun r hr q => c ⟨r, hr, q⟩] at e
    exact ⟨0, by omega, e, fun q => absurd q c, fun _ => rfl⟩
theorem brkM_eq (h : RepM (σ 0) A) (hw : WF A) {o : Nat} (ho : o < 8) {g : Int32} (hg : isM g (rg A o)) : ∃ g' σ', lp (fun t : (Int32 × St) => bX4_tryRequest_222 (nI o) t.1 t.2) FU (g, σ) = some (g', σ') ∧ frM σ σ' ∧ RepM (σ' 0) (bkN 4800 A o) ∧ WF (bkN 4800 A o) := by
  have hFU := FU_v
  have hp := pot_le hw
  obtain ⟨e, he, g', σ', rfl, h1, h2, h3⟩ := lp_mu (b := fun t : (Int32 × St) => bX4_tryRequest_222 (nI o) t.1 t.2)
    (fun m s => ∃ g s' A' n, s = (g, s') ∧ RepM (s' 0) A' ∧ WF A' ∧ frM σ s' ∧ isM g (rg A' o) ∧ bkN n A' o = bkN 4800 A o ∧ pot A' ≤ n ∧ pot A' ≤ m)
    (fun e => ∃ g s', e = (g, s') ∧ frM σ s' ∧ RepM (s' 0) (bkN 4800 A o) ∧ WF (bkN 4800 A o))
    (fun m s hs => by
      obtain ⟨g, s', A', n, rfl, r1, w, f1, hg, hn, hpn, hpm⟩ := hs
      show (∃ m' s'', m' < m ∧ bX4_tryRequest_222 (nI o) g s' = some (.inl s'') ∧ _) ∨ ∃ e, bX4_tryRequest_222 (nI o) g s' = some (.inr e) ∧ _
      by_cases c : rch A' o o
      · left
        obtain ⟨b, hb, eb, hlt, wb, -⟩ := bk1_ok w hg c
        obtain ⟨b', s3, hb', e2, f2, r3⟩ := breakM_eq r1 w g (ring_gives w hg c)
        have := lh_inj hb hb'
        subst this
        rw [← eb] at r3
        obtain ⟨g2, s4, e4, f4, q4, hg2⟩ := ringM_eq r3 wb ho
        have hg0 : ¬ g = nI 0 := by rw [rg_z w hg]; exact fun q => q c
        obtain ⟨n', rfl⟩ : ∃ n', n = n' + 1 := ⟨n - 1, by omega⟩
        rw [bkN_s c] at hn
        refine ⟨pot (bk1 A' o), (g2, s4), by omega, ?_, g2, s4, bk1 A' o, n', rfl, by rw [q4]; exact r3, wb, f1.tr (f2.tr f4), hg2, hn, by omega, Nat.le_refl _⟩
        unfold bX4_tryRequest_222
        simp (disch := omega) only [eq_false hg0, e2, e4, nm, bnd_s, bnd_n, bn2_s, l0, l1, l2, l3, l4, l7, l8, l9, l16, l80, l88, l200, l300, pk_mul, nI_add, nI_sb, mx1, mn1, ax_nI, nI_cl, nI_lt', nI_le', nI_eq', if_pos, if_neg, if_true, if_false]
      · right
        have hg0 : g = nI 0 := by rw [rg_z w hg]; exact c
        rw [bkN_e c] at hn
        subst hn
        unfold bX4_tryRequest_222
        simp (disch := omega) only [eq_true hg0, nm, bnd_s, bnd_n, bn2_s, l0, l1, l2, l3, l4, l7, l8, l9, l16, l80, l88, l200, l300, pk_mul, nI_add, nI_sb, mx1, mn1, ax_nI, nI_cl, nI_lt', nI_le', nI_eq', if_pos, if_neg, if_true, if_false]
        exact ⟨_, rfl, _, s', rfl, f1, r1, w⟩) FU 4800 (g, σ) ⟨g, σ, A, 4800, rfl, h, hw, frM.rf, hg, rfl, hp, hp⟩ (by omega)
  exact ⟨g', σ', he, h1, h2, h3⟩
/-- the end of a request that waits -/
theorem reqEnd {L : List AS} (kp : Bool) (h : RepM (σ 0) A) (hw : OK A) (hH : HM σ L) {o k f t : Nat} (ho : o < 8) (hk : 1 ≤ k) (hk3 : k ≤ 3) (hf : f < t) (ht : t ≤ 300) (hno : ∀ r ∈ aR A, r.1 ≠ o) :
    ∃ s23 s25 s27 r28 s29 g s37 σr, fX4_keepIf (kpI kp) σ = some s23 ∧ fX4_joinRow (nI o) (nI k) (nI f) (nI t) s23 = some s25 ∧ fX4_more (nI o) (5 : Int32) (nI 1) s25 = some s27 ∧ fX4_ringNow (nI o) s27 = some (r28, s29) ∧ lp (fun t : (Int32 × St) => bX4_tryRequest_222 (nI o) t.1 t.2) FU (r28, s29) = some (g, s37) ∧ fX4_of (nI o) (nI 0) s37 = some σr ∧ (if σr ≤ nI 0 then some ((nI 1 : Int32), s37) else some (nI 0, s37)) = some (@ite _ (inR (bkN 4800 (cntA (joinA A o k f t) o 1 1) o) o) (Classical.propDecidable _) 0 1, s37) ∧ RepM (s37 0) (bkN 4800 (cntA (joinA A o k f t) o 1 1) o) ∧ frK σ s37 ∧ HM s37 (kpL kp L A) := by
  obtain ⟨s23, e23, q23, f23, h23⟩ := keepIf_eq kp hH h hw
  have r23 : RepM (s23 0) A := by rw [q23]; exact h
  have hl8 := row_lt8 hw.1 ho hno
  have wj : WF (joinA A o k f t) := hw.1.joinA ho hk hk3 hf ht hno
  obtain ⟨s25, e25, f25, r25⟩ := joinM_eq r23 hw.1 (k := k) (f := f) (t := t) ho hno hl8
  have r27 := r25.cnt wj ho (j := 1) (by omega) 1
  obtain ⟨s27, hs27⟩ : ∃ s27, s27 = put s25 0 (upd (s25 0) (16 + 9 * o + 5) (s25 0 (16 + 9 * o + 5) + 1)) := ⟨_, rfl⟩
  have r27 : RepM (s27 0) (cntA (joinA A o k f t) o 1 1) := by rw [hs27, put_s]; exact r27
  have f27 : frM s25 s27 := by rw [hs27]; exact frM.put
  have e27 : fX4_more (nI o) (5 : Int32) (nI 1) s25 = some s27 := by rw [hs27]; exact moreM (σ := s25) (w := 5) (nI 1) ho (by omega)
  obtain ⟨g, s29, e29, f29, q29, hg⟩ := ringM_eq r27 (A := cntA (joinA A o k f t) o 1 1) wj ho
  have r29 : RepM (s29 0) (cntA (joinA A o k f t) o 1 1) := by rw [q29]; exact r27
  obtain ⟨g', s37, e37, f37, r37, w37⟩ := brkM_eq r29 (A := cntA (joinA A o k f t) o 1 1) wj ho hg
  obtain ⟨kk, hkk, eo, y1, y2⟩ := wantM r37 w37 ho
  have fall : frM s23 s37 := f25.tr (f27.tr (f29.tr f37))
  refine ⟨s23, s25, s27, g, s29, g', s37, nI kk, e23, e25, e27, e29, e37, eo, ?_, r37, f23.tr fall.K, h23.frM fall⟩
  by_cases c : inR (bkN 4800 (cntA (joinA A o k f t) o 1 1) o) o
  · have := y1 c
    rw [if_pos c, if_neg (by rw [nI_leI (by omega) (by omega)]; omega)]; rfl
  · have := y2 c
    rw [if_neg c, if_pos (by rw [nI_leI (by omega) (by omega)]; omega)]; rfl
theorem askM_eq {L : List AS} (kp : Bool) (h : RepM (σ 0) A) (hw : OK A) (hH : HM σ L) {o k f t w : Nat} (ho : o < 8) (hk : 1 ≤ k) (hk3 : k ≤ 3) (hf : f < t) (ht : t ≤ 300) (hw1 : w ≤ 1) : ∃ σ', fX4_tryRequest (nI o) (nI k) (nI f) (nI t) (nI w) (kpI kp) σ = some ((askV A o k f t w).1, σ') ∧ RepM (σ' 0) (askV A o k f t w).2 ∧ frK σ σ' ∧ HM σ' (if (askV A o k f t w).1 < 0 then L else kpL kp L A) := by
  have hlen := hw.1.len
  have h4 := h.1.2.2.2.2.2.2
  obtain ⟨z, hz, hm⟩ := stoppedIn_eq h hw.1 ho hk hk3 (f := f) (t := t) (by omega) ht (Nat.le_refl _)
  have hz0 := stp_z hm
  obtain ⟨kk, hkk, eo, y1, y2⟩ := wantM h hw.1 ho
  have i1 : fX4_in (nI k) (nI 1) (nI 3) = some (nI 1) := by rw [inM_eq (by omega) (by omega) (by omega), if_pos (by omega)]
  have i2 : fX4_in (nI w) (nI 0) (nI 1) = some (nI 1) := by rw [inM_eq (by omega) (by omega) (by omega), if_pos (by omega)]
  unfold askV
  by_cases c1 : inR A o
  · have := y1 c1
    rw [if_pos c1]
    refine ⟨σ, ?_, h, frK.rf, by show HM σ (if (-5 : Int32) < 0 then L else _); rw [if_pos (by decide)]; exact hH⟩
    unfold fX4_tryRequest
    simp (disch := omega) only [isOwnerM_ok ho, isRangeM_ok hf ht, bnd_s, l0, l1, l3, i1, i2, nI_eq', nI_le', if_neg, eo]
  · have := y2 c1
    have hno : ∀ r ∈ aR A, r.1 ≠ o := fun r hr e => c1 ⟨r, hr, e⟩
    rw [if_neg c1]
    by_cases c2 : ∀ x, ¬ stp A o k f t (aR A).length x
    · rw [if_pos c2]
      have hzz : z = nI 0 := by rw [hz0]; exact c2
      obtain ⟨s1, e1, q1, f1, h1⟩ := keepIf_eq kp hH h hw
      have r1 : RepM (s1 0) A := by rw [q1]; exact h
      obtain ⟨s2, e2, f2, r2⟩ := giveM_eq r1 hw.1 (o := o) (k := k) (f := f) (t := t) ho hk3 (by omega) ht
      obtain ⟨s3, e3, f3, r3⟩ := goM_eq r2 (hw.1.giveK hk3)
      refine ⟨s3, ?_, r3, f1.tr (f2.tr f3).K, by show HM s3 (if (1 : Int32) < 0 then L else _); rw [if_neg (by decide)]; exact h1.frM (f2.tr f3)⟩
      unfold fX4_tryRequest
      simp (disch := omega) only [isOwnerM_ok ho, isRangeM_ok hf ht, bnd_s, l0, l1, l3, i1, i2, nI_eq', nI_le', if_neg, if_pos, eo, ax_nI, nI_cl, h4, hz, eq_true hzz, if_true, e1, e2, e3]
    · rw [if_neg c2]
      have hzz : ¬ z = nI 0 := by rw [hz0]; exact c2
      by_cases c3 : w = 0
      · rw [if_pos c3]
        subst c3
        refine ⟨σ, ?_, h, frK.rf, by show HM σ (if (-6 : Int32) < 0 then L else _); rw [if_pos (by decide)]; exact hH⟩
        unfold fX4_tryRequest
        simp (disch := omega) only [isOwnerM_ok ho, isRangeM_ok hf ht, bnd_s, l0, l1, l3, i1, i2, nI_eq', nI_le', if_neg, if_pos, eo, ax_nI, nI_cl, h4, hz, eq_false hzz, if_false, if_true]
      · rw [if_neg c3]
        have hl8 := row_lt8 hw.1 ho hno
        have wj : WF (joinA A o k f t) := hw.1.joinA ho hk hk3 hf ht hno
        have o1 : fX4_of (nI o) (nI 1) σ = some (σ 0 (16 + 9 * o + 1)) := ofM_eq ho (by omega)
        have o2 : fX4_of (nI o) (nI 2) σ = some (σ 0 (16 + 9 * o + 2)) := ofM_eq ho (by omega)
        have o3 : fX4_of (nI o) (nI 3) σ = some (σ 0 (16 + 9 * o + 3)) := ofM_eq ho (by omega)
        obtain ⟨s11, e11, f11, r11⟩ := joinM_eq h hw.1 (k := k) (f := f) (t := t) ho hno hl8
        obtain ⟨g, s13, e13, f13, q13, hg⟩ := ringM_eq r11 wj ho
        have hg0 := rg_z wj hg
        have r13 : RepM (s13 0) (joinA A o k f t) := by rw [q13]; exact r11
        have hrow : (aR (joinA A o k f t))[(aR A).length]? = some (o, k, f, t, (0 : Int32)) := by
          show (aR A ++ [(o, k, f, t, (0 : Int32))])[(aR A).length]? = _
          rw [List.getElem?_append_right (Nat.le_refl _), Nat.sub_self]
          rfl
        obtain ⟨s15, e15, f15, r15⟩ := leaveM_eq r13 wj hrow
        rw [join_quit hno] at r15
        obtain ⟨s17, hs17⟩ : ∃ s, s = put s15 0 (upd (s15 0) (16 + 9 * o + 1) (σ 0 (16 + 9 * o + 1))) := ⟨_, rfl⟩
        have e17 : fX4_lay (nI o) (nI 1) (σ 0 (16 + 9 * o + 1)) s15 = some s17 := by rw [hs17]; exact layM _ ho (by omega)
        have r17 : RepM (s17 0) A := by rw [hs17, put_s]; exact r15.junk hw.1 ho hno (by omega) (by omega) _
        have f17 : frM s15 s17 := by rw [hs17]; exact frM.put
        obtain ⟨s19, hs19⟩ : ∃ s, s = put s17 0 (upd (s17 0) (16 + 9 * o + 2) (σ 0 (16 + 9 * o + 2))) := ⟨_, rfl⟩
        have e19 : fX4_lay (nI o) (nI 2) (σ 0 (16 + 9 * o + 2)) s17 = some s19 := by rw [hs19]; exact layM _ ho (by omega)
        have r19 : RepM (s19 0) A := by rw [hs19, put_s]; exact r17.junk hw.1 ho hno (by omega) (by omega) _
        have f19 : frM s17 s19 := by rw [hs19]; exact frM.put
        obtain ⟨s21, hs21⟩ : ∃ s, s = put s19 0 (upd (s19 0) (16 + 9 * o + 3) (σ 0 (16 + 9 * o + 3))) := ⟨_, rfl⟩
        have e21 : fX4_lay (nI o) (nI 3) (σ 0 (16 + 9 * o + 3)) s19 = some s21 := by rw [hs21]; exact layM _ ho (by omega)
        have r21 : RepM (s21 0) A := by rw [hs21, put_s]; exact r19.junk hw.1 ho hno (by omega) (by omega) _
        have f21 : frM s19 s21 := by rw [hs21]; exact frM.put
        have fall : frM σ s21 := f11.tr (f13.tr (f15.tr (f17.tr (f19.tr f21))))
        have hH2 := hH.frM fall
        have hB : s21 0 3 = aG A 4 := r21.1.2.2.2.2.1
        have e15 : fX4_leaveRow (nI o) s13 = some s15 := e15
        obtain ⟨s23, s25, s27, r28, s29, g', s37, σr, e23, e25, e27, e29, e37, eof, efin, r37, f37, h37⟩ := reqEnd kp r21 hw hH2 (o := o) (k := k) (f := f) (t := t) ho hk hk3 hf ht hno
        have e27 : fX4_more (nI o) (nI 5) (nI 1) s25 = some s27 := e27
        have l5 : (5 : Int32) = nI 5 := rfl
        have nn : ¬ (@ite Int32 (inR (bkN 4800 (cntA (joinA A o k f t) o 1 1) o) o) (Classical.propDecidable _) 0 1) < 0 := by
          by_cases c : inR (bkN 4800 (cntA (joinA A o k f t) o 1 1) o) o
          · rw [if_pos c]; decide
          · rw [if_neg c]; decide
        by_cases c4 : rch (joinA A o k f t) o o
        · have hgg : ¬ g = nI 0 := by rw [hg0]; exact fun q => q c4
          rcases hw.1.2.2.2.2.1 with c5 | c5
          · rw [if_pos ⟨c4, c5⟩]
            refine ⟨s21, ?_, r21, fall.K, by show HM s21 (if (-8 : Int32) < 0 then L else _); rw [if_pos (by decide)]; exact hH2⟩
            rw [c5] at hB
            unfold fX4_tryRequest
            simp (disch := omega) only [isOwnerM_ok ho, isRangeM_ok hf ht, bnd_s, bn2_s, l0, l1, l2, l3, i1, i2, nI_eq', nI_le', if_neg, if_pos, eo, ax_nI, nI_cl, h4, hz, eq_false hzz, if_false, if_true, o1, o2, o3, e11, e13, eq_false hgg, e15, e17, e19, e21, show s21 0 3 = nI 0 from hB]
          · rw [if_neg (fun q => by rw [c5] at q; exact absurd q.2 (by decide))]
            refine ⟨s37, ?_, r37, fall.K.tr f37, by show HM s37 (if (@ite Int32 (inR (bkN 4800 (cntA (joinA A o k f t) o 1 1) o) o) (Classical.propDecidable _) 0 1) < 0 then L else _); rw [if_neg nn]; exact h37⟩
            rw [← efin]
            rw [c5] at hB
            have e37' : lp (fun t : (Int32 × St) => bX4_tryRequest_222_2 (nI o) t.1 t.2) FU (r28, s29) = some (g', s37) := e37
            unfold fX4_tryRequest
            simp (disch := omega) only [isOwnerM_ok ho, isRangeM_ok hf ht, bnd_s, bn2_s, l0, l1, l2, l3, l5, i1, i2, nI_eq', nI_le', if_neg, if_pos, eo, ax_nI, nI_cl, h4, hz, eq_false hzz, if_false, if_true, o1, o2, o3, e11, e13, eq_false hgg, e15, e17, e19, e21, show s21 0 3 = nI 1 from hB, e23, e25, e27, e29, e37', nm, eof]
            first | rfl | congr
        · rw [if_neg (fun q => c4 q.1)]
          have hgg : g = nI 0 := by rw [hg0]; exact c4
          refine ⟨s37, ?_, r37, fall.K.tr f37, by show HM s37 (if (@ite Int32 (inR (bkN 4800 (cntA (joinA A o k f t) o 1 1) o) o) (Classical.propDecidable _) 0 1) < 0 then L else _); rw [if_neg nn]; exact h37⟩
          rw [← efin]
          unfold fX4_tryRequest
          simp (disch := omega) only [isOwnerM_ok ho, isRangeM_ok hf ht, bnd_s, bn2_s, l0, l1, l2, l3, l5, i1, i2, nI_eq', nI_le', if_neg, if_pos, eo, ax_nI, nI_cl, h4, hz, eq_false hzz, if_false, o1, o2, o3, e11, e13, eq_true hgg, if_true, e15, e17, e19, e21, e23, e25, e27, e29, e37, nm, eof]
          first | rfl | congr
end MA
