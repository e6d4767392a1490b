/-! Requests: the class -/
def inR (A : AS) (o : Nat) : Prop := ∃ r ∈ aR A, r.1 = o
noncomputable def askV (A : AS) (o k f t w : Nat) : Int32 × AS :=
  @ite _ (inR A o) (Classical.propDecidable _) (-5, A)
    (@ite _ (∀ x, ¬ stp A o k f t (aR A).length x) (Classical.propDecidable _) (1, goA (giveK A o k f t))
      (if w = 0 then (-5, A)
       else @ite _ (rch (joinA A o k f t) o o ∧ aG A 4 = 0) (Classical.propDecidable _) (-5, A)
         (@ite _ (inR (bkN 4800 (cntA (joinA A o k f t) o 1 1) o) o) (Classical.propDecidable _) 0 1, bkN 4800 (cntA (joinA A o k f t) o 1 1) o)))
theorem ownerL_eq {o : Nat} (ho : o < 8) : fX3_isOwner (nI o) = some (nI 1) := by
  unfold fX3_isOwner
  simp (disch := omega) only [nm, bnd_s, bnd_n, bn2_s, l0, l1, l2, l3, l4, l7, l8, l9, l16, l80, l88, l200, l300, pk_mul, nI_add, nI_sb, mx1, mn1, ax_nI, nI_cl, nI_lt', nI_le', nI_eq', if_pos, if_neg, if_true, if_false]
theorem lockL_ok {k : Nat} (hk : 1 ≤ k) (hk3 : k ≤ 3) : fX3_isLock (nI k) = some (nI 1) := by
  unfold fX3_isLock
  simp (disch := omega) only [nm, bnd_s, bnd_n, bn2_s, l0, l1, l2, l3, l4, l7, l8, l9, l16, l80, l88, l200, l300, pk_mul, nI_add, nI_sb, mx1, mn1, ax_nI, nI_cl, nI_lt', nI_le', nI_eq', if_pos, if_neg, if_true, if_false]
theorem rangeL_ok {f t : Nat} (hf : f < t) (ht : t ≤ 300) : fX3_isRange (nI f) (nI t) = some (nI 1) := by
  unfold fX3_isRange fX3_isPlace
  simp (disch := omega) only [nm, bnd_s, bnd_n, bn2_s, l0, l1, l2, l3, l4, l7, l8, l9, l16, l80, l88, l200, l300, pk_mul, nI_add, nI_sb, mx1, mn1, ax_nI, nI_cl, nI_lt', nI_le', nI_eq', if_pos, if_neg, if_true, if_false]
theorem stp_z {A : AS} {o k f t n : Nat} {z : Int32} (h : isM z (stp A o k f t n)) : (z = nI 0) = ∀ x, ¬ stp A o k f t n x := by
  apply propext
  rw [show (z = nI 0) ↔ z = 0 from Iff.rfl, isM_z h]
  exact ⟨fun q x ⟨p, a, b, c, d, e⟩ => q x (by omega) ⟨p, a, b, c, d, e⟩, fun q x _ => q x⟩
theorem edg_cnt {A : AS} {o j : Nat} {n : Int32} : edg (cntA A o j n) = edg A := rfl
theorem rch_cnt {A : AS} {o j : Nat} {n : Int32} {x y : Nat} : rch (cntA A o j n) x y ↔ rch A x y := Iff.rfl
theorem rg_z {A : AS} (hw : WF A) {o : Nat} {z : Int32} (h : isM z (rg A o)) : (z = nI 0) = ¬ rch A o o := by
  apply propext
  rw [show (z = nI 0) ↔ z = 0 from Iff.rfl, isM_z h]
  constructor
  · intro q c
    exact q o (by have := (rch_lt hw c).1; omega) ⟨c, c⟩
  · intro q x _ c
    exact q (rg_self c)
section LA
variable {σ : St} {A : AS}
theorem wantL (h : RepL σ A) (hw : WF A) {o : Nat} (ho : o < 8) : (σ 5 o = nI 0) = ¬ inR A o := by
  apply propext
  constructor
  · rintro e ⟨r, hr, rfl⟩
    obtain ⟨i, hi⟩ := List.getElem?_of_mem hr
    have := (h.2.1 i r hi).2.1
    rw [e, nI_eq (by omega) (by have := (hw.2.2.1 r hr).2.2.1; omega)] at this
    have := (hw.2.2.1 r hr).2.1
    omega
  · intro q
    exact h.2.2.1 o ho fun r hr e => q ⟨r, hr, e⟩
theorem brkL_eq (h : RepL σ A) (hw : WF A) {o : Nat} (ho : o < 8) {g : Int32} (hg : isM g (rg A o)) : ∃ g' i' σ', lp (fun t : (Int32 × Int32 × St) => bX1_ask_142 (nI o) t.1 t.2.1 t.2.2) FU (g, nI 0, σ) = some (g', i', σ') ∧ RepL σ' (bkN 4800 A o) ∧ WF (bkN 4800 A o) := by
  have hFU := FU_v
  have hp := pot_le hw
  obtain ⟨e, he, g', i', σ', rfl, h1, h2⟩ := lp_mu (b := fun t : (Int32 × Int32 × St) => bX1_ask_142 (nI o) t.1 t.2.1 t.2.2)
    (fun m s => ∃ g i s' A' n, s = (g, nI i, s') ∧ RepL s' A' ∧ WF A' ∧ isM g (rg A' o) ∧ pot A' + i ≤ 4800 ∧ bkN n A' o = bkN 4800 A o ∧ pot A' ≤ n ∧ pot A' ≤ m)
    (fun e => ∃ g i s', e = (g, i, s') ∧ RepL s' (bkN 4800 A o) ∧ WF (bkN 4800 A o))
    (fun m s hs => by
      obtain ⟨g, i, s', A', n, rfl, r1, w, hg, hpi, hn, hpn, hpm⟩ := hs
      show (∃ m' s'', m' < m ∧ bX1_ask_142 (nI o) g (nI i) s' = some (.inl s'') ∧ _) ∨ ∃ e, bX1_ask_142 (nI o) g (nI i) s' = some (.inr e) ∧ _
      have l48 : (4800 : Int32) = nI 4800 := rfl
      by_cases c : rch A' o o
      · left
        obtain ⟨b, hb, eb, hlt, wb, -⟩ := bk1_ok w hg c
        obtain ⟨b', hb', e1⟩ := leastL_eq r1 w g (ring_gives w hg c)
        have := lh_inj hb hb'
        subst this
        obtain ⟨s2, e2, r2⟩ := giveUp_eq r1 w g hb.1
        obtain ⟨z, s3, e3, r3, -⟩ := goL_eq r2 w.brk
        rw [← eb] at r3
        obtain ⟨g2, s4, e4, r4, hg2⟩ := ringL_eq r3 wb ho
        have hg0 : ¬ g = nI 0 := by rw [rg_z w hg]; exact fun q => q c
        obtain ⟨n', rfl⟩ : ∃ n', n = n' + 1 := ⟨n - 1, by omega⟩
        rw [bkN_s c] at hn
        refine ⟨pot (bk1 A' o), (g2, nI (i + 1), s4), by omega, ?_, g2, i + 1, s4, bk1 A' o, n', rfl, r4, wb, hg2, by omega, hn, by omega, Nat.le_refl _⟩
        unfold bX1_ask_142
        simp (disch := omega) only [l48, eq_false hg0, e1, e2, e3, e4, nm, bnd_s, bnd_n, bn2_s, l0, l1, l2, l3, l4, l7, l8, l9, l16, l80, l88, l200, l300, pk_mul, nI_add, nI_sb, mx1, mn1, ax_nI, nI_cl, nI_lt', nI_le', nI_eq', if_pos, if_neg, if_true, if_false]
      · right
        have hg0 : g = nI 0 := by rw [rg_z w hg]; exact c
        rw [bkN_e c] at hn
        subst hn
        unfold bX1_ask_142
        by_cases c2 : 4800 ≤ i
        · simp (disch := omega) only [l48, nm, bnd_s, bnd_n, bn2_s, l0, l1, l2, l3, l4, l7, l8, l9, l16, l80, l88, l200, l300, pk_mul, nI_add, nI_sb, mx1, mn1, ax_nI, nI_cl, nI_lt', nI_le', nI_eq', if_pos, if_neg, if_true, if_false]
          exact ⟨_, rfl, _, _, s', rfl, r1, w⟩
        · simp (disch := omega) only [l48, eq_true hg0, nm, bnd_s, bnd_n, bn2_s, l0, l1, l2, l3, l4, l7, l8, l9, l16, l80, l88, l200, l300, pk_mul, nI_add, nI_sb, mx1, mn1, ax_nI, nI_cl, nI_lt', nI_le', nI_eq', if_pos, if_neg, if_true, if_false]
          exact ⟨_, rfl, _, _, s', rfl, r1, w⟩) FU 4800 (g, nI 0, σ) ⟨g, 0, σ, A, 4800, rfl, h, hw, hg, by omega, rfl, hp, hp⟩ (by omega)
  exact ⟨g', i', σ', he, h1, h2⟩
theorem askL_eq (h : RepL σ A) (hw : WF A) {o k f t w : Nat} (ho : o < 8) (hk : 1 ≤ k) (hk3 : k ≤ 3) (hf : f < t) (ht : t ≤ 300) (hw1 : w ≤ 1) : ∃ σ', fX1_ask (nI o) (nI k) (nI f) (nI t) (nI w) σ = some ((askV A o k f t w).1, σ') ∧ RepL σ' (askV A o k f t w).2 := by
  have hlen := hw.len
  have h4 := h.1.2.2.2.2.2.2
  obtain ⟨z, hz, hm⟩ := inWay_eq h hw ho hk hk3 (f := f) (t := t) (by omega) ht (Nat.le_refl _)
  have hz0 := stp_z hm
  have hwt := wantL h hw ho
  unfold askV
  by_cases c1 : inR A o
  · refine ⟨σ, ?_, by rw [if_pos c1]; exact h⟩
    have hwt0 : ¬ σ 5 o = nI 0 := by rw [hwt]; exact fun q => q c1
    rw [if_pos c1]
    unfold fX1_ask
    simp (disch := omega) only [ownerL_eq ho, lockL_ok hk hk3, rangeL_ok hf ht, bnd_s, l0, l1, nI_eq', nI_lt', nI_le', if_neg, if_pos, ax_nI, nI_cl, eq_false hwt0, if_false, nm]
  · have hwt0 : σ 5 o = nI 0 := by rw [hwt]; exact c1
    have hno : ∀ r ∈ aR A, r.1 ≠ o := fun r hr e => c1 ⟨r, hr, e⟩
    rw [if_neg c1]
    by_cases c2 : ∀ x, ¬ stp A o k f t (aR A).length x
    · rw [if_pos c2]
      have hzz : z = nI 0 := by rw [hz0]; exact c2
      obtain ⟨s2, e2, r2⟩ := giveL_eq h (o := o) (k := k) (f := f) (t := t) ho hk3 (by omega) ht
      obtain ⟨y, s3, e3, r3, -⟩ := goL_eq r2 (hw.giveK hk3)
      refine ⟨s3, ?_, r3⟩
      unfold fX1_ask
      simp (disch := omega) only [ownerL_eq ho, lockL_ok hk hk3, rangeL_ok hf ht, eq_true hwt0, h4, hz, eq_true hzz, e2, e3, nm, bnd_s, bnd_n, bn2_s, l0, l1, l2, l3, l4, l7, l8, l9, l16, l80, l88, l200, l300, pk_mul, nI_add, nI_sb, mx1, mn1, ax_nI, nI_cl, nI_lt', nI_le', nI_eq', if_pos, if_neg, if_true, if_false]
    · rw [if_neg c2]
      have hzz : ¬ z = nI 0 := by rw [hz0]; exact c2
      by_cases c3 : w = 0
      · refine ⟨σ, ?_, by rw [if_pos c3]; exact h⟩
        rw [if_pos c3]
        subst c3
        unfold fX1_ask
        simp (disch := omega) only [ownerL_eq ho, lockL_ok hk hk3, rangeL_ok hf ht, bnd_s, l0, l1, nI_eq', nI_lt', nI_le', if_neg, if_pos, ax_nI, nI_cl, eq_true hwt0, if_true, h4, hz, eq_false hzz, if_false, nm]
      · rw [if_neg c3]
        have hl8 : (aR A).length < 8 := by
          rcases Nat.lt_or_ge (aR A).length 8 with q | q
          · exact q
          · exfalso
            have hsub : (o :: (aR A).map (fun r : Rq => r.1)).length ≤ (List.range 8).length := List.Nodup.length_le_of_subset (by
              rw [List.nodup_cons]
              exact ⟨fun q => by obtain ⟨r, hr, e⟩ := List.mem_map.mp q; exact hno r hr e, hw.2.1⟩) (fun x hx => by
              rcases List.mem_cons.mp hx with rfl | hx
              · exact List.mem_range.mpr ho
              · obtain ⟨r, hr, rfl⟩ := List.mem_map.mp hx
                exact List.mem_range.mpr (hw.2.2.1 r hr).1)
            rw [List.length_cons, List.length_map, List.length_range] at hsub
            omega
        have wj : WF (joinA A o k f t) := hw.joinA ho hk hk3 hf ht hno
        obtain ⟨s2, e2, r2⟩ := joinL_eq h hw (k := k) (f := f) (t := t) ho hno hl8
        obtain ⟨g, s3, e3, r3, hg⟩ := ringL_eq r2 wj ho
        have hg0 := rg_z wj hg
        have r4 := r3.cnt ho (j := 1) (by omega) 1
        obtain ⟨g', i', s5, e5, r5, w5⟩ := brkL_eq r4 (A := cntA (joinA A o k f t) o 1 1) wj ho (g := g) hg
        have hwt5 := wantL r5 w5 ho
        have hB : s3 0 1 = aG A 4 := r3.1.2.2.2.2.1
        have fin : ∃ σ', (ax (nI o) 8 (if (s5 5 o) = nI 0 then some ((nI 1 : Int32), s5) else some (nI 0, s5))) = some (@ite _ (inR (bkN 4800 (cntA (joinA A o k f t) o 1 1) o) o) (Classical.propDecidable _) 0 1, σ') ∧ RepL σ' (bkN 4800 (cntA (joinA A o k f t) o 1 1) o) := by
          refine ⟨s5, ?_, r5⟩
          rw [ax_nI ho (by omega)]
          by_cases c6 : inR (bkN 4800 (cntA (joinA A o k f t) o 1 1) o) o
          · rw [if_neg (by rw [hwt5]; exact fun q => q c6), if_pos c6]; rfl
          · rw [if_pos (by rw [hwt5]; exact c6), if_neg c6]; rfl
        by_cases c4 : rch (joinA A o k f t) o o
        · have hgg : ¬ g = nI 0 := by rw [hg0]; exact fun q => q c4
          rcases hw.2.2.2.2.1 with c5 | c5
          · rw [if_pos ⟨c4, c5⟩]
            obtain ⟨s6, e6, r6, -⟩ := quitL_eq r3 wj ho
            have hq : quitA (joinA A o k f t) o = A := by
              unfold quitA joinA
              refine Prod.ext rfl (Prod.ext ?_ rfl)
              show (aR A ++ [(o, k, f, t, 0)]).filter (fun r : Rq => r.1 != o) = aR A
              rw [List.filter_append, filter_no hno, List.filter_cons_of_neg (by simp), List.filter_nil, List.append_nil]
            rw [hq] at r6
            refine ⟨s6, ?_, r6⟩
            rw [c5] at hB
            unfold fX1_ask
            simp (disch := omega) only [ownerL_eq ho, lockL_ok hk hk3, rangeL_ok hf ht, bnd_s, bn2_s, l0, l1, nI_eq', nI_lt', nI_le', if_neg, if_pos, ax_nI, nI_cl, eq_true hwt0, if_true, h4, hz, eq_false hzz, if_false, nm, e2, e3, eq_false hgg, show s3 0 1 = nI 0 from hB, e6]
          · rw [if_neg (fun q => by rw [c5] at q; exact absurd q.2 (by decide))]
            obtain ⟨σ', e7, r7⟩ := fin
            refine ⟨σ', ?_, r7⟩
            rw [← e7]
            rw [c5] at hB
            have e5' : lp (fun t : (Int32 × Int32 × St) => bX1_ask_142_2 (nI o) t.1 t.2.1 t.2.2) FU (g, nI 0, put s3 10 (upd (s3 10) o (s3 10 o + nI 1))) = some (g', i', s5) := e5
            unfold fX1_ask
            simp (disch := omega) only [ownerL_eq ho, lockL_ok hk hk3, rangeL_ok hf ht, bnd_s, bn2_s, l0, l1, nI_eq', nI_lt', nI_le', if_neg, if_pos, ax_nI, nI_cl, eq_true hwt0, if_true, h4, hz, eq_false hzz, if_false, nm, e2, e3, eq_false hgg, show s3 0 1 = nI 1 from hB, e5']
        · rw [if_neg (fun q => c4 q.1)]
          have hgg : g = nI 0 := by rw [hg0]; exact c4
          obtain ⟨σ', e7, r7⟩ := fin
          refine ⟨σ', ?_, r7⟩
          rw [← e7]
          have e5' : lp (fun t : (Int32 × Int32 × St) => bX1_ask_142 (nI o) t.1 t.2.1 t.2.2) FU (g, nI 0, put s3 10 (upd (s3 10) o (s3 10 o + nI 1))) = some (g', i', s5) := e5
          unfold fX1_ask
          simp (disch := omega) only [ownerL_eq ho, lockL_ok hk hk3, rangeL_ok hf ht, bnd_s, bn2_s, l0, l1, nI_eq', nI_lt', nI_le', if_neg, if_pos, ax_nI, nI_cl, eq_true hwt0, if_true, h4, hz, eq_false hzz, if_false, nm, e2, e3, eq_true hgg, e5']
end LA
