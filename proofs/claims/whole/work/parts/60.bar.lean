/-! Given if an owner went, the greatest bar -/
theorem isM_diff {r r' : Int32} {P Q : Nat → Prop} (h : isM r P) (h' : isM r' Q) : isM (r &&& (r' ^^^ (-1 : Int32))) (fun i => P i ∧ ¬ Q i) := fun i hi => by
  rw [bt_and, bt_not _ hi, Bool.and_eq_true, Bool.not_eq_true']
  refine and_congr (h i hi) ?_
  rw [← h' i hi]
  cases bt r' i <;> simp
theorem mask_nI {z : Int32} {P : Nat → Prop} (h : isM z P) (h8 : ∀ i, P i → i < 8) : ∃ n, n < 256 ∧ z = nI n := by
  obtain ⟨n, hn, e⟩ := pk_andE z (m := nI 255) 8 (by decide)
  refine ⟨n, by omega, ?_⟩
  rw [← e]
  apply bt_ext
  intro i hi
  rw [bt_and]
  cases q : bt z i with
  | false => rfl
  | true =>
    have := h8 i ((h i hi).mp q)
    rw [(isM_255 i hi).mpr this]
    rfl
theorem bitCount_eq {z : Int32} {P : Nat → Prop} (h : isM z P) (h8 : ∀ i, P i → i < 8) : fJ6_bitCount_0f7a4 z = some (nI (cnt (fun i => bt z i = true) 8)) := by
  obtain ⟨n, hn, rfl⟩ := mask_nI h h8
  have key : ∀ n : Fin 256, fJ6_bitCount_0f7a4 (nI n.val) = some (nI (cnt (fun i => bt (nI n.val) i = true) 8)) := by decide +kernel
  exact key ⟨n, hn⟩
theorem many_eq (z : Int32) : fX4_many z = some (nI (cnt (fun i => bt z i = true) 8)) := by
  have e := cnt_loop (b := fun t : (Int32 × Int32) => bX4_many_4 z t.1 t.2) (fun i => bt z i = true) (n := 8) (by omega)
    (fun j c hj hc hP => by
      show bX4_many_4 z (nI c) (nI j) = _
      have g := hasM_eq hj z
      rw [if_pos hP] at g
      unfold bX4_many_4
      simp (disch := omega) only [g, nm, bnd_s, bnd_n, bn2_s, l0, l1, l2, l3, l4, l7, l8, l9, l16, l80, l88, l200, l300, pk_mul, nI_add, nI_sb, mx1, mn1, ax_nI, nI_cl, nI_lt', nI_le', nI_eq', if_pos, if_neg, if_true, if_false])
    (fun j c hj hc hP => by
      show bX4_many_4 z (nI c) (nI j) = _
      have g := hasM_eq hj z
      rw [if_neg hP] at g
      unfold bX4_many_4
      simp (disch := omega) only [g, nm, bnd_s, bnd_n, bn2_s, l0, l1, l2, l3, l4, l7, l8, l9, l16, l80, l88, l200, l300, pk_mul, nI_add, nI_sb, mx1, mn1, ax_nI, nI_cl, nI_lt', nI_le', nI_eq', if_pos, if_neg, if_true, if_false]
      rfl)
    (fun c => by
      show bX4_many_4 z (nI c) (nI 8) = _
      unfold bX4_many_4
      simp (disch := omega) only [nm, bnd_s, bnd_n, bn2_s, l0, l1, l2, l3, l4, l7, l8, l9, l16, l80, l88, l200, l300, pk_mul, nI_add, nI_sb, mx1, mn1, ax_nI, nI_cl, nI_lt', nI_le', nI_eq', if_pos, if_neg, if_true, if_false])
  unfold fX4_many
  rw [show lp (fun t : (Int32 × Int32) => bX4_many_4 z t.1 t.2) FU ((0 : Int32), (0 : Int32)) = _ from e]
  rfl
/-- who would be given if an owner went -/
def gfP (A : AS) (o x : Nat) : Prop := gvn (stripA A o) (goA (stripA A o)) x
section GB
variable {A : AS} {σP κ : St}
theorem gf8 (hw : WF A) {o x : Nat} (h : gfP A o x) : x < 8 := by
  obtain ⟨⟨r, hr, rfl⟩, -⟩ := h
  exact (hw.2.2.1 r (List.mem_filter.mp hr).1).1
theorem gfL {σN : St} (σW : St) (h : RepL σN A) (hw : WF A) {o : Nat} (ho : o < 8) : ∃ z σW', fX3_givenIf (nI o) σN σW σP κ = some (z, σW') ∧ isM z (gfP A o) := by
  obtain ⟨s3, e3, r3⟩ := becL (σ := σW) h hw
  obtain ⟨s5, e5, r5⟩ := stripL_eq r3 hw ho
  have ws : WF (stripA A o) := hw.quitA.setK (by omega)
  obtain ⟨z, s7, e7, r7, hz⟩ := goL_eq r5 ws
  refine ⟨z, s7, ?_, hz⟩
  unfold fX3_givenIf
  rw [ownerL_eq ho, bnd_s, if_neg n1_0, e3, bnd_s, e5, bn2_s, e7]; rfl
theorem waitingM {σ : St} (h : RepM (σ 0) A) (hw : WF A) : ∃ z, fX4_waitingNow σ = some z ∧ isM z (fun x => x < 8 ∧ inR A x) := by
  obtain ⟨z, e, hz⟩ := set_loop (b := fun t : (Int32 × Int32) => bX4_waitingNow_4 σ t.1 t.2) (inR A)
    (fun j z hj hP => by
      show bX4_waitingNow_4 σ z (nI j) = _
      obtain ⟨k, hk, ek, y1, y2⟩ := wantM h hw hj
      have := y1 hP
      unfold bX4_waitingNow_4
      simp (disch := omega) only [ek, nm, bnd_s, bnd_n, bn2_s, l0, l1, l2, l3, l4, l7, l8, l9, l16, l80, l88, l200, l300, pk_mul, nI_add, nI_sb, mx1, mn1, ax_nI, nI_cl, nI_lt', nI_le', nI_eq', if_pos, if_neg, if_true, if_false])
    (fun j z hj hP => by
      show bX4_waitingNow_4 σ z (nI j) = _
      obtain ⟨k, hk, ek, y1, y2⟩ := wantM h hw hj
      have := y2 hP
      unfold bX4_waitingNow_4
      simp (disch := omega) only [ek, or_n0, nm, bnd_s, bnd_n, bn2_s, l0, l1, l2, l3, l4, l7, l8, l9, l16, l80, l88, l200, l300, pk_mul, nI_add, nI_sb, mx1, mn1, ax_nI, nI_cl, nI_lt', nI_le', nI_eq', if_pos, if_neg, if_true, if_false])
    (fun z => by
      show bX4_waitingNow_4 σ z (nI 8) = _
      unfold bX4_waitingNow_4
      simp (disch := omega) only [nm, bnd_s, bnd_n, bn2_s, l0, l1, l2, l3, l4, l7, l8, l9, l16, l80, l88, l200, l300, pk_mul, nI_add, nI_sb, mx1, mn1, ax_nI, nI_cl, nI_lt', nI_le', nI_eq', if_pos, if_neg, if_true, if_false])
  refine ⟨z, ?_, hz⟩
  unfold fX4_waitingNow
  rw [show lp (fun t : (Int32 × Int32) => bX4_waitingNow_4 σ t.1 t.2) FU ((0 : Int32), (0 : Int32)) = _ from e]
  rfl
theorem gwM {σ : St} (h : RepM (σ 0) A) (hw : WF A) {o : Nat} (ho : o < 8) : ∃ z σ', fX4_givenWithout (nI o) σ = some (z, σ') ∧ isM z (gfP A o) ∧ RepM (σ' 0) A ∧ frW σ σ' := by
  obtain ⟨s2, e2, a2, b2⟩ := asideM (σ := σ)
  have r2 : RepM (s2 0) A := by rw [a2 0 (by omega)]; exact h
  obtain ⟨z3, e3, m3⟩ := waitingM r2 hw
  obtain ⟨s6, e6, f6, r6⟩ := awayM_eq r2 hw ho
  have ws : WF (stripA A o) := hw.quitA.setK (by omega)
  have wg := goA_ok ws
  obtain ⟨z7, e7, m7⟩ := waitingM r6 wg.1
  obtain ⟨s9, e9, r9, f9⟩ := backA h hw a2 b2 f6
  refine ⟨(z3 &&& (((1 : Int32) <<< (nI o &&& 31)) ^^^ (-1 : Int32))) &&& (z7 ^^^ (-1 : Int32)), s9, ?_, ?_, r9, f9⟩
  · unfold fX4_givenWithout
    rw [e2, bnd_s, e3, bnd_s]
    simp only [nm]
    rw [e6, bn2_s, e7, bnd_s, e9, bnd_s]
  · refine isM_congr (isM_diff (isM_andnot ho m3) m7) fun x hx => ⟨?_, ?_⟩
    · rintro ⟨⟨⟨x8, r, hr, e⟩, xo⟩, hn⟩
      exact ⟨⟨r, List.mem_filter.mpr ⟨hr, by simp [e, xo]⟩, e⟩, fun q => hn ⟨x8, q⟩⟩
    · rintro ⟨⟨r, hr, e⟩, hn⟩
      have x8 := gf8 hw ⟨⟨r, hr, e⟩, hn⟩
      refine ⟨⟨⟨x8, r, (List.mem_filter.mp hr).1, e⟩, fun q => ?_⟩, fun q => hn q.2⟩
      exact quit_hno r hr (e.trans q)
theorem givenIf_b (hw : WF A) (a : Int32) : rdw (fun σN σW => fX3_givenIf a σN σW σP κ) (fX4_givenIf a) A := by
  rcases own_c a with ⟨o, ho, rfl⟩ | ⟨h1, h2⟩
  · refine rdw_set (gfP A o) (fun σN σW h => gfL σW h hw ho) fun σ h => ?_
    obtain ⟨z, σ', e, r⟩ := gwM h hw ho
    refine ⟨z, σ', ?_, r⟩
    unfold fX4_givenIf
    rw [isOwnerM_ok ho, bnd_s, if_neg n1_0, e]; rfl
  · refine ⟨-1, fun σN σW h => ⟨σW, ?_⟩, fun σ h => ⟨σ, ?_, h, frW.rf⟩⟩
    · show fX3_givenIf a σN σW σP κ = _
      unfold fX3_givenIf
      rw [h1]; rfl
    · unfold fX4_givenIf
      rw [h2]; rfl
/-- how many they would be -/
noncomputable def gfC (A : AS) (o : Nat) : Nat := @dite _ (∃ z, isM z (gfP A o)) (Classical.propDecidable _) (fun h => cnt (fun i => bt (Classical.choose h) i = true) 8) (fun _ => 0)
theorem gfC_eq {o : Nat} {z : Int32} (h : isM z (gfP A o)) : cnt (fun i => bt z i = true) 8 = gfC A o := by
  have hex : ∃ z, isM z (gfP A o) := ⟨z, h⟩
  unfold gfC
  rw [dif_pos hex, isM_eq h (Classical.choose_spec hex)]
noncomputable def gbS (A : AS) : Nat → Nat × Option Nat
  | 0 => (0, none)
  | j + 1 => if (gbS A j).1 < gfC A j then (gfC A j, some j) else gbS A j
def gbI : Option Nat → Int32
  | none => -6
  | some x => nI x
theorem gbS_ok (h8 : ∀ o, gfC A o ≤ 8) : ∀ j, (gbS A j).1 ≤ 8 ∧ ((gbS A j).2 = none → (gbS A j).1 = 0) ∧ ∀ x, (gbS A j).2 = some x → x < j ∧ 0 < (gbS A j).1
  | 0 => ⟨by rw [gbS]; omega, fun _ => rfl, fun x q => by cases q⟩
  | j + 1 => by
    obtain ⟨a, b, c⟩ := gbS_ok h8 j
    rw [gbS]
    split
    · refine ⟨h8 j, fun q => (by cases q), fun x q => ?_⟩
      cases q
      exact ⟨by omega, by simp only; omega⟩
    · exact ⟨a, b, fun x q => ⟨by have := (c x q).1; omega, (c x q).2⟩⟩
theorem gfC8 (o : Nat) : gfC A o ≤ 8 := by
  unfold gfC
  split
  · exact cnt_le _ _
  · omega
theorem barL {σN : St} (σW : St) (h : RepL σN A) (hw : WF A) : ∃ σW', lp (fun t : (Int32 × Int32 × Int32 × St) => bX3_greatestBar_20 σN σP κ t.1 t.2.1 t.2.2.1 t.2.2.2) FU (nI 0, (-6 : Int32), nI 0, σW) = some (nI (gbS A 8).1, gbI (gbS A 8).2, nI 8, σW') := by
  obtain ⟨e, he, s, rfl⟩ := lp_rng (b := fun t : (Int32 × Int32 × Int32 × St) => bX3_greatestBar_20 σN σP κ t.1 t.2.1 t.2.2.1 t.2.2.2)
    (fun j x => ∃ s, x = (nI (gbS A j).1, gbI (gbS A j).2, nI j, s)) (fun e => ∃ s, e = (nI (gbS A 8).1, gbI (gbS A 8).2, nI 8, s)) 0 8
    (fun j x _ hj hx => by
      obtain ⟨s, rfl⟩ := hx
      show ∃ s', bX3_greatestBar_20 σN σP κ (nI (gbS A j).1) (gbI (gbS A j).2) (nI j) s = some (.inl s') ∧ _
      obtain ⟨b1, -, -⟩ := gbS_ok gfC8 (A := A) j
      obtain ⟨z, s6, e6, hz⟩ := gfL (σP := σP) (κ := κ) s h hw hj
      have e7 := bitCount_eq hz fun i hi => gf8 hw hi
      rw [gfC_eq hz] at e7
      have c8 := gfC8 (A := A) j
      by_cases c : (gbS A j).1 < gfC A j
      · refine ⟨(nI (gfC A j), nI j, nI (j + 1), s6), ?_, s6, by rw [gbS, if_pos c]; rfl⟩
        unfold bX3_greatestBar_20
        simp (disch := omega) only [e6, e7, nm, bnd_s, bnd_n, bn2_s, l0, l1, l2, l3, l4, l7, l8, l9, l16, l80, l88, l200, l300, pk_mul, nI_add, nI_sb, mx1, mn1, ax_nI, nI_cl, nI_lt', nI_le', nI_eq', if_pos, if_neg, if_true, if_false]
      · refine ⟨(nI (gbS A j).1, gbI (gbS A j).2, nI (j + 1), s6), ?_, s6, by rw [gbS, if_neg c]⟩
        unfold bX3_greatestBar_20
        simp (disch := omega) only [e6, e7, nm, bnd_s, bnd_n, bn2_s, l0, l1, l2, l3, l4, l7, l8, l9, l16, l80, l88, l200, l300, pk_mul, nI_add, nI_sb, mx1, mn1, ax_nI, nI_cl, nI_lt', nI_le', nI_eq', if_pos, if_neg, if_true, if_false])
    (fun x hx => by
      obtain ⟨s, rfl⟩ := hx
      exact ⟨_, by show bX3_greatestBar_20 _ _ _ _ _ (nI 8) _ = _; unfold bX3_greatestBar_20; rw [if_pos (by decide)], s, rfl⟩) (nI 0, (-6 : Int32), nI 0, σW) (by omega) ⟨σW, rfl⟩ (by omega)
  exact ⟨s, he⟩
theorem barM {σ : St} (h : RepM (σ 0) A) (hw : WF A) : ∃ σ', lp (fun t : (Int32 × Int32 × Int32 × St) => bX4_greatestBar_20 t.1 t.2.1 t.2.2.1 t.2.2.2) FU ((-6 : Int32), nI 0, nI 0, σ) = some (gbI (gbS A 8).2, nI (gbS A 8).1, nI 8, σ') ∧ RepM (σ' 0) A ∧ frW σ σ' := by
  obtain ⟨e, he, s, rfl, r, f⟩ := lp_rng (b := fun t : (Int32 × Int32 × Int32 × St) => bX4_greatestBar_20 t.1 t.2.1 t.2.2.1 t.2.2.2)
    (fun j x => ∃ s, x = (gbI (gbS A j).2, nI (gbS A j).1, nI j, s) ∧ RepM (s 0) A ∧ frW σ s) (fun e => ∃ s, e = (gbI (gbS A 8).2, nI (gbS A 8).1, nI 8, s) ∧ RepM (s 0) A ∧ frW σ s) 0 8
    (fun j x _ hj hx => by
      obtain ⟨s, rfl, r, f⟩ := hx
      show ∃ s', bX4_greatestBar_20 (gbI (gbS A j).2) (nI (gbS A j).1) (nI j) s = some (.inl s') ∧ _
      obtain ⟨b1, -, -⟩ := gbS_ok gfC8 (A := A) j
      obtain ⟨z, s6, e6, hz, r6, f6⟩ := gwM r hw hj
      have e7 := many_eq z
      rw [gfC_eq hz] at e7
      have c8 := gfC8 (A := A) j
      by_cases c : (gbS A j).1 < gfC A j
      · refine ⟨(nI j, nI (gfC A j), nI (j + 1), s6), ?_, s6, by rw [gbS, if_pos c]; rfl, r6, f.tr f6⟩
        unfold bX4_greatestBar_20
        simp (disch := omega) only [e6, e7, nm, bnd_s, bnd_n, bn2_s, l0, l1, l2, l3, l4, l7, l8, l9, l16, l80, l88, l200, l300, pk_mul, nI_add, nI_sb, mx1, mn1, ax_nI, nI_cl, nI_lt', nI_le', nI_eq', if_pos, if_neg, if_true, if_false]
      · refine ⟨(gbI (gbS A j).2, nI (gbS A j).1, nI (j + 1), s6), ?_, s6, by rw [gbS, if_neg c], r6, f.tr f6⟩
        unfold bX4_greatestBar_20
        simp (disch := omega) only [e6, e7, nm, bnd_s, bnd_n, bn2_s, l0, l1, l2, l3, l4, l7, l8, l9, l16, l80, l88, l200, l300, pk_mul, nI_add, nI_sb, mx1, mn1, ax_nI, nI_cl, nI_lt', nI_le', nI_eq', if_pos, if_neg, if_true, if_false])
    (fun x hx => by
      obtain ⟨s, rfl, r, f⟩ := hx
      exact ⟨_, by show bX4_greatestBar_20 _ _ (nI 8) _ = _; unfold bX4_greatestBar_20; rw [if_pos (by decide)], s, rfl, r, f⟩) ((-6 : Int32), nI 0, nI 0, σ) (by omega) ⟨σ, rfl, h, frW.rf⟩ (by omega)
  exact ⟨s, he, r, f⟩
theorem greatestBar_b (hw : WF A) (a : Int32) : rdw (fun σN σW => fX3_greatestBar a σN σW σP κ) (fX4_greatestBar a) A := by
  rcases one_c a with ⟨w, hw1, rfl⟩ | ⟨h1, h2⟩
  · have i2 : fX4_in (nI w) 0 1 = some (nI 1) := by rw [show fX4_in (nI w) 0 1 = _ from inM_eq (v := w) (lo := 0) (hi := 1) (by omega) (by omega) (by omega), if_pos (by omega)]
    have c1 : ¬ nI w < 0 := nI_pos (by omega)
    have c2 : nI w ≤ 1 := (nI_leI (b := 1) (by omega) (by omega)).mpr hw1
    obtain ⟨b1, b2, b3⟩ := gbS_ok gfC8 (A := A) 8
    refine ⟨match (gbS A 8).2 with | none => -6 | some x => if w = 0 then nI x else nI (gbS A 8).1, fun σN σW h => ?_, fun σ h => ?_⟩
    · obtain ⟨s, e⟩ := barL (σP := σP) (κ := κ) σW h hw
      refine ⟨s, ?_⟩
      show fX3_greatestBar _ σN σW σP κ = _
      unfold fX3_greatestBar
      rw [if_neg c1, if_pos c2, show lp (fun t : (Int32 × Int32 × Int32 × St) => bX3_greatestBar_20 σN σP κ t.1 t.2.1 t.2.2.1 t.2.2.2) FU ((0 : Int32), (-6 : Int32), (0 : Int32), σW) = _ from e, bnd_s]
      simp only [nm]
      cases q : (gbS A 8).2 with
      | none => rw [b2 q, if_pos (show nI 0 = 0 from rfl)]
      | some x =>
        obtain ⟨x8, hp⟩ := b3 x q
        rw [if_neg (nI_ne0 hp (by omega))]
        by_cases q2 : w = 0
        · rw [if_pos (show nI w = 0 by rw [q2]; rfl)]; simp only [if_pos q2]; rfl
        · rw [if_neg (nI_ne0 (by omega) (by omega))]; simp only [if_neg q2]
    · obtain ⟨s, e, r, f⟩ := barM h hw
      refine ⟨s, ?_, r, f⟩
      unfold fX4_greatestBar
      rw [i2, bnd_s, if_neg n1_0, show lp (fun t : (Int32 × Int32 × Int32 × St) => bX4_greatestBar_20 t.1 t.2.1 t.2.2.1 t.2.2.2) FU ((-6 : Int32), (0 : Int32), (0 : Int32), σ) = _ from e, bnd_s]
      simp only [nm]
      cases q : (gbS A 8).2 with
      | none => exact if_pos (by decide)
      | some x =>
        obtain ⟨x8, hp⟩ := b3 x q
        rw [if_neg (show ¬ gbI (some x) < 0 from nI_pos (by omega))]
        by_cases q2 : w = 0
        · rw [if_pos (show nI w = 0 by rw [q2]; rfl)]; simp only [if_pos q2]; rfl
        · rw [if_neg (nI_ne0 (by omega) (by omega))]; simp only [if_neg q2]
  · refine ⟨-2, fun σN σW h => ⟨σW, ?_⟩, fun σ h => ⟨σ, ?_, h, frW.rf⟩⟩
    · show fX3_greatestBar _ σN σW σP κ = _
      unfold fX3_greatestBar
      rcases h1 with q | ⟨q, q2⟩
      · rw [if_pos q]
      · rw [if_neg q, if_neg q2]
    · unfold fX4_greatestBar
      rw [h2]; rfl
end GB
