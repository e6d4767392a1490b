/-! The reference: undo, save, restore, and what it lays aside -/
theorem cpy_loop {b : (Int32 × St) → Option ((Int32 × St) ⊕ (Int32 × St))} {c d sb db : Nat} (hcd : c ≠ d) (hs : ∀ j s, j < 2488 → b (nI j, s) = some (.inl (nI (j + 1), put s d (upd (s d) (db + j) (s c (sb + j)))))) (hx : ∀ s, b (nI 2488, s) = some (.inr (nI 2488, s))) (s : St) :
    ∃ s', lp b FU (nI 0, s) = some (nI 2488, s') ∧ (∀ x, x ≠ d → s' x = s x) ∧ ∀ m, s' d m = if db ≤ m ∧ m < db + 2488 then s c (sb + (m - db)) else s d m := by
  have hFU := FU_v
  obtain ⟨e, he, s', rfl, a, h⟩ := lp_rng (b := b)
    (fun j x => ∃ s', x = (nI j, s') ∧ (∀ x, x ≠ d → s' x = s x) ∧ ∀ m, s' d m = if db ≤ m ∧ m < db + j then s c (sb + (m - db)) else s d m)
    (fun e => ∃ s', e = (nI 2488, s') ∧ (∀ x, x ≠ d → s' x = s x) ∧ ∀ m, s' d m = if db ≤ m ∧ m < db + 2488 then s c (sb + (m - db)) else s d m) 0 2488
    (fun j x _ hj hx => by
      obtain ⟨s', rfl, a, h⟩ := hx
      refine ⟨_, hs j s' hj, _, rfl, fun x hx => by rw [put_n _ _ hx]; exact a x hx, fun m => ?_⟩
      rw [put_s, a c hcd]
      by_cases e : m = db + j
      · subst e
        rw [upd_s, if_pos (by omega)]
        congr 1
        omega
      · rw [upd_n _ _ e, h]
        by_cases q : db ≤ m ∧ m < db + j
        · rw [if_pos q, if_pos (by omega)]
        · rw [if_neg q, if_neg (by omega)])
    (fun x h => by
      obtain ⟨s', rfl, a, h⟩ := h
      exact ⟨_, hx s', s', rfl, a, h⟩) (nI 0, s) (by omega) ⟨s, rfl, fun _ _ => rfl, fun m => by rw [if_neg (by omega)]⟩ (by omega)
  exact ⟨s', he, a, h⟩
section UM
variable {σ : St} {A : AS} {L : List AS}
theorem undo_no (hH : HM σ []) : fX4_undo σ = some (-5, σ) := by
  have h2 : σ 3 0 = nI 0 := hH.2.1
  unfold fX4_undo
  rw [h2, if_pos (show nI 0 = 0 from rfl)]
theorem undoM_eq (hH : HM σ (L ++ [A])) : ∃ σ', fX4_undo σ = some (nI L.length, σ') ∧ RepM (σ' 0) A ∧ frK σ σ' ∧ HM σ' L := by
  obtain ⟨h1, h2, fi, h3, h4, h5⟩ := hH
  rw [List.length_append] at h1 h2
  have h1 : L.length + 1 ≤ 6 := h1
  have h2 : σ 3 0 = nI (L.length + 1) := h2
  obtain ⟨s1, hs1⟩ : ∃ s1, s1 = put σ 3 (fun _ => nI L.length) := ⟨_, rfl⟩
  have hv : (fi + L.length) % 6 < 6 := Nat.mod_lt _ (by omega)
  obtain ⟨v, hvv⟩ : ∃ v, v = (fi + L.length) % 6 := ⟨_, rfl⟩
  rw [← hvv] at hv
  obtain ⟨s8, e8, a8, b8⟩ := cpy_loop (b := fun t : (Int32 × St) => bX4_undo_35 (nI v) t.1 t.2) (c := 1) (d := 0) (sb := 2488 * v) (db := 0) (by omega)
    (fun j s hj => by
      show bX4_undo_35 (nI v) (nI j) s = _
      unfold bX4_undo_35
      simp (disch := omega) only [l2488, nm, bnd_s, bnd_n, bn2_s, l0, l1, l2, l3, l4, l7, l8, l9, l16, l80, l88, l200, l300, pk_mul, nI_add, nI_sb, mx1, mn1, ax_nI, nI_cl, nI_lt', nI_le', nI_eq', if_pos, if_neg, if_true, if_false]
      rw [Nat.zero_add])
    (fun s => by
      show bX4_undo_35 (nI v) (nI 2488) s = _
      unfold bX4_undo_35
      simp (disch := omega) only [l2488, nm, bnd_s, bnd_n, bn2_s, l0, l1, l2, l3, l4, l7, l8, l9, l16, l80, l88, l200, l300, pk_mul, nI_add, nI_sb, mx1, mn1, ax_nI, nI_cl, nI_lt', nI_le', nI_eq', if_pos, if_neg, if_true, if_false]) s1
  have g2 : s1 2 0 = nI fi := by rw [hs1, put_n _ _ (by omega), h4]
  have g3 : s1 3 0 = nI L.length := by rw [hs1, put_s]
  have g8 : s8 3 0 = nI L.length := by rw [a8 3 (by omega), g3]
  have s11 : s1 1 = σ 1 := by rw [hs1, put_n _ _ (by omega)]
  refine ⟨s8, ?_, ?_, fun c c0 _ _ c3 _ _ => by rw [a8 c c0, hs1, put_n _ _ c3], by omega, g8, fi, h3, by rw [a8 2 (by omega), g2], fun i B hB => ?_⟩
  · have hr : nI (fi + L.length) - nI (fi + L.length) / nI 6 * nI 6 = nI ((fi + L.length) % 6) := nI_rm (by omega) (by omega) (by omega)
    unfold fX4_undo
    simp (disch := omega) only [h2, l0, l1, l6, nI_eq', if_neg, nI_sb, Nat.add_sub_cancel]
    rw [← hs1]
    simp (disch := omega) only [nm, g2, g3, nI_add, hr]
    rw [← hvv, e8]
    simp (disch := omega) only [bnd_s, g8]
  · obtain ⟨q1, q2⟩ := h5 L.length A (by rw [List.getElem?_append_right (Nat.le_refl _), Nat.sub_self]; rfl)
    refine q2.congr q1.1 fun k hk => ?_
    rw [b8, if_pos (by omega), s11, hvv]
    rfl
  · have hi : i < L.length := (List.getElem?_eq_some_iff.mp hB).1
    obtain ⟨q1, q2⟩ := h5 i B (by rw [List.getElem?_append_left hi]; exact hB)
    refine ⟨q1, ?_⟩
    rw [a8 1 (by omega), s11]
    exact q2
/-- the slots of the reference -/
def SM (σ : St) (S : Nat → Option AS) : Prop := ∀ i, i < 2 → (S i = none → σ 5 i = nI 0) ∧ ∀ B, S i = some B → σ 5 i = nI 1 ∧ OK B ∧ RepM (fun k => σ 4 (2488 * i + k)) B
theorem SM.fr {σ σ' : St} {S : Nat → Option AS} (h : SM σ S) (h4 : σ' 4 = σ 4) (h5 : σ' 5 = σ 5) : SM σ' S := by
  unfold SM
  rw [h4, h5]
  exact h
theorem SM.frK {σ σ' : St} {S : Nat → Option AS} (h : SM σ S) (f : frK σ σ') : SM σ' S := h.fr (f 4 (by omega) (by omega) (by omega) (by omega) (by omega) (by omega)) (f 5 (by omega) (by omega) (by omega) (by omega) (by omega) (by omega))
theorem saveM_eq {S : Nat → Option AS} (h : RepM (σ 0) A) (hw : OK A) (hS : SM σ S) {i : Nat} (hi : i < 2) : ∃ σ', fX4_save (nI i) σ = some (aG A 0, σ') ∧ SM σ' (fun x => if x = i then some A else S x) ∧ ∀ c, c ≠ 4 → c ≠ 5 → σ' c = σ c := by
  obtain ⟨s7, e7, a7, b7⟩ := cpy_loop (b := fun t : (Int32 × St) => bX4_save_14 (nI i) t.1 t.2) (c := 0) (d := 4) (sb := 0) (db := 2488 * i) (by omega)
    (fun j s hj => by
      show bX4_save_14 (nI i) (nI j) s = _
      unfold bX4_save_14
      simp (disch := omega) only [l2488, nm, bnd_s, bnd_n, bn2_s, l0, l1, l2, l3, l4, l7, l8, l9, l16, l80, l88, l200, l300, pk_mul, nI_add, nI_sb, mx1, mn1, ax_nI, nI_cl, nI_lt', nI_le', nI_eq', if_pos, if_neg, if_true, if_false]
      rw [Nat.zero_add])
    (fun s => by
      show bX4_save_14 (nI i) (nI 2488) s = _
      unfold bX4_save_14
      simp (disch := omega) only [l2488, nm, bnd_s, bnd_n, bn2_s, l0, l1, l2, l3, l4, l7, l8, l9, l16, l80, l88, l200, l300, pk_mul, nI_add, nI_sb, mx1, mn1, ax_nI, nI_cl, nI_lt', nI_le', nI_eq', if_pos, if_neg, if_true, if_false]) σ
  have i1 : fX4_in (nI i) 0 1 = some (nI 1) := by rw [show fX4_in (nI i) 0 1 = _ from inM_eq (v := i) (lo := 0) (hi := 1) (by omega) (by omega) (by omega), if_pos (by omega)]
  obtain ⟨s8, hs8⟩ : ∃ s8, s8 = put s7 5 (upd (s7 5) i (nI 1)) := ⟨_, rfl⟩
  have g0 : s8 0 = σ 0 := by rw [hs8, put_n _ _ (by omega), a7 0 (by omega)]
  refine ⟨s8, ?_, ?_, fun c c4 c5 => by rw [hs8, put_n _ _ c5, a7 c c4]⟩
  · unfold fX4_save
    rw [i1, bnd_s, if_neg (by decide), show lp (fun t : (Int32 × St) => bX4_save_14 (nI i) t.1 t.2) FU ((0 : Int32), σ) = _ from e7, bnd_s]
    simp only [nm]
    rw [ax_nI hi (by omega), nI_cl (by omega), show vp_nar .boolean ((1 : Int32)) = nI 1 from rfl, ← hs8, show ∀ k : Option (Int32 × St), ax (0 : Int32) 2488 k = k from fun k => ax_nI (j := 0) (by omega) (by omega), g0, show σ 0 (Int32.toNatClampNeg 0) = aG A 0 from h.1.1]
  · intro x hx
    have k4 : s8 4 = s7 4 := by rw [hs8, put_n _ _ (by omega)]
    have k5 : s8 5 = upd (σ 5) i (nI 1) := by rw [hs8, put_s, a7 5 (by omega)]
    by_cases c : x = i
    · subst c
      show ((if x = x then some A else S x) = none → _) ∧ ∀ B, (if x = x then some A else S x) = some B → _
      rw [if_pos rfl]
      refine ⟨fun q => (by cases q), fun B hB => ?_⟩
      cases hB
      refine ⟨by rw [k5, upd_s], hw, h.congr hw.1 fun k hk => ?_⟩
      rw [k4, b7, if_pos (by omega)]
      congr 1
      omega
    · show ((if x = i then some A else S x) = none → _) ∧ ∀ B, (if x = i then some A else S x) = some B → _
      rw [if_neg c]
      obtain ⟨q1, q2⟩ := hS x hx
      refine ⟨fun q => by rw [k5, upd_n _ _ c, q1 q], fun B hB => ?_⟩
      obtain ⟨p1, p2, p3⟩ := q2 B hB
      refine ⟨by rw [k5, upd_n _ _ c, p1], p2, p3.congr p2.1 fun k hk => ?_⟩
      rw [k4, b7, if_neg (by omega)]
theorem restM_eq {S : Nat → Option AS} {B : AS} (h : RepM (σ 0) A) (hw : OK A) (hH : HM σ L) (hS : SM σ S) {i : Nat} (hi : i < 2) (hB : S i = some B) : ∃ σ', fX4_restore (nI i) σ = some (aG B 0, σ') ∧ RepM (σ' 0) B ∧ frK σ σ' ∧ HM σ' (pushL L A) := by
  obtain ⟨p1, p2, p3⟩ := (hS i hi).2 B hB
  obtain ⟨s3, e3, f3, h3⟩ := keepM_eq hH h hw
  obtain ⟨s9, e9, a9, b9⟩ := cpy_loop (b := fun t : (Int32 × St) => bX4_restore_30 (nI i) t.1 t.2) (c := 4) (d := 0) (sb := 2488 * i) (db := 0) (by omega)
    (fun j s hj => by
      show bX4_restore_30 (nI i) (nI j) s = _
      unfold bX4_restore_30
      simp (disch := omega) only [l2488, nm, bnd_s, bnd_n, bn2_s, l0, l1, l2, l3, l4, l7, l8, l9, l16, l80, l88, l200, l300, pk_mul, nI_add, nI_sb, mx1, mn1, ax_nI, nI_cl, nI_lt', nI_le', nI_eq', if_pos, if_neg, if_true, if_false]
      rw [Nat.zero_add])
    (fun s => by
      show bX4_restore_30 (nI i) (nI 2488) s = _
      unfold bX4_restore_30
      simp (disch := omega) only [l2488, nm, bnd_s, bnd_n, bn2_s, l0, l1, l2, l3, l4, l7, l8, l9, l16, l80, l88, l200, l300, pk_mul, nI_add, nI_sb, mx1, mn1, ax_nI, nI_cl, nI_lt', nI_le', nI_eq', if_pos, if_neg, if_true, if_false]) s3
  have i1 : fX4_in (nI i) 0 1 = some (nI 1) := by rw [show fX4_in (nI i) 0 1 = _ from inM_eq (v := i) (lo := 0) (hi := 1) (by omega) (by omega) (by omega), if_pos (by omega)]
  have r9 : RepM (s9 0) B := p3.congr p2.1 fun k hk => by
    rw [b9, if_pos (by omega), f3 4 (by omega) (by omega) (by omega)]
    rfl
  refine ⟨s9, ?_, r9, fun c c0 c1 c2 c3 _ _ => by rw [a9 c c0, f3 c c1 c2 c3], h3.fr (a9 1 (by omega)) (a9 2 (by omega)) (a9 3 (by omega))⟩
  unfold fX4_restore
  rw [i1, bnd_s, if_neg (by decide), ax_nI hi (by omega), nI_cl (by omega), p1, if_neg (by decide), e3, bnd_s, show lp (fun t : (Int32 × St) => bX4_restore_30 (nI i) t.1 t.2) FU ((0 : Int32), s3) = _ from e9, bnd_s]
  simp only [nm]
  rw [show ∀ k : Option (Int32 × St), ax (0 : Int32) 2488 k = k from fun k => ax_nI (j := 0) (by omega) (by omega), show s9 0 (Int32.toNatClampNeg 0) = aG B 0 from r9.1.1]
theorem restM_no {S : Nat → Option AS} (hS : SM σ S) {i : Nat} (hi : i < 2) (hB : S i = none) : fX4_restore (nI i) σ = some (-5, σ) := by
  have i1 : fX4_in (nI i) 0 1 = some (nI 1) := by rw [show fX4_in (nI i) 0 1 = _ from inM_eq (v := i) (lo := 0) (hi := 1) (by omega) (by omega) (by omega), if_pos (by omega)]
  unfold fX4_restore
  rw [i1, bnd_s, if_neg (by decide), ax_nI hi (by omega), nI_cl (by omega), (hS i hi).1 hB, if_pos (show nI 0 = 0 from rfl)]
theorem asideM : ∃ σ', fX4_layAside σ = some σ' ∧ (∀ c, c ≠ 6 → σ' c = σ c) ∧ ∀ m, m < 2488 → σ' 6 m = σ 0 m := by
  obtain ⟨s6, e6, a6, b6⟩ := cpy_loop (b := fun t : (Int32 × St) => bX4_layAside_2 t.1 t.2) (c := 0) (d := 6) (sb := 0) (db := 0) (by omega)
    (fun j s hj => by
      show bX4_layAside_2 (nI j) s = _
      unfold bX4_layAside_2
      simp (disch := omega) only [l2488, nm, bnd_s, bnd_n, bn2_s, l0, l1, l2, l3, l4, l7, l8, l9, l16, l80, l88, l200, l300, pk_mul, nI_add, nI_sb, mx1, mn1, ax_nI, nI_cl, nI_lt', nI_le', nI_eq', if_pos, if_neg, if_true, if_false]
      rw [Nat.zero_add])
    (fun s => by
      show bX4_layAside_2 (nI 2488) s = _
      unfold bX4_layAside_2
      simp (disch := omega) only [l2488, nm, bnd_s, bnd_n, bn2_s, l0, l1, l2, l3, l4, l7, l8, l9, l16, l80, l88, l200, l300, pk_mul, nI_add, nI_sb, mx1, mn1, ax_nI, nI_cl, nI_lt', nI_le', nI_eq', if_pos, if_neg, if_true, if_false]) σ
  refine ⟨s6, ?_, a6, fun m hm => (b6 m).trans ((if_pos ⟨Nat.zero_le _, by rw [Nat.zero_add]; exact hm⟩).trans (by rw [Nat.zero_add, Nat.sub_zero]))⟩
  unfold fX4_layAside
  rw [show lp (fun t : (Int32 × St) => bX4_layAside_2 t.1 t.2) FU ((0 : Int32), σ) = _ from e6]
  rfl
theorem backM : ∃ σ', fX4_layBack σ = some σ' ∧ (∀ c, c ≠ 0 → σ' c = σ c) ∧ ∀ m, m < 2488 → σ' 0 m = σ 6 m := by
  obtain ⟨s6, e6, a6, b6⟩ := cpy_loop (b := fun t : (Int32 × St) => bX4_layBack_2 t.1 t.2) (c := 6) (d := 0) (sb := 0) (db := 0) (by omega)
    (fun j s hj => by
      show bX4_layBack_2 (nI j) s = _
      unfold bX4_layBack_2
      simp (disch := omega) only [l2488, nm, bnd_s, bnd_n, bn2_s, l0, l1, l2, l3, l4, l7, l8, l9, l16, l80, l88, l200, l300, pk_mul, nI_add, nI_sb, mx1, mn1, ax_nI, nI_cl, nI_lt', nI_le', nI_eq', if_pos, if_neg, if_true, if_false]
      rw [Nat.zero_add])
    (fun s => by
      show bX4_layBack_2 (nI 2488) s = _
      unfold bX4_layBack_2
      simp (disch := omega) only [l2488, nm, bnd_s, bnd_n, bn2_s, l0, l1, l2, l3, l4, l7, l8, l9, l16, l80, l88, l200, l300, pk_mul, nI_add, nI_sb, mx1, mn1, ax_nI, nI_cl, nI_lt', nI_le', nI_eq', if_pos, if_neg, if_true, if_false]) σ
  refine ⟨s6, ?_, a6, fun m hm => (b6 m).trans ((if_pos ⟨Nat.zero_le _, by rw [Nat.zero_add]; exact hm⟩).trans (by rw [Nat.zero_add, Nat.sub_zero]))⟩
  unfold fX4_layBack
  rw [show lp (fun t : (Int32 × St) => bX4_layBack_2 t.1 t.2) FU ((0 : Int32), σ) = _ from e6]
  rfl
end UM
