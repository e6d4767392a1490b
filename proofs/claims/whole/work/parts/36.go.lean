/-! The row is gone through -/
theorem lp_mu {L E : Type} {b : L → Option (L ⊕ E)} (I : Nat → L → Prop) (Z : E → Prop) (hs : ∀ k s, I k s → (∃ k' s', k' < k ∧ b s = some (.inl s') ∧ I k' s') ∨ ∃ e, b s = some (.inr e) ∧ Z e) : ∀ (fu k : Nat) (s : L), I k s → k < fu → ∃ e, lp b fu s = some e ∧ Z e
  | fu + 1, k, s, h, hf => by
    rcases hs k s h with ⟨k', s', hk, he, h'⟩ | ⟨e, he, hz⟩
    · obtain ⟨e, h1, h2⟩ := lp_mu I Z hs fu k' s' h' (by omega)
      exact ⟨e, by rw [lp, he]; exact h1, h2⟩
    · exact ⟨e, by rw [lp, he], hz⟩
def isF (A : AS) (i : Nat) : Prop := i < (aR A).length ∧ frr A i ∧ ∀ j, j < i → ¬ frr A j
noncomputable def nxt (A : AS) : Option Rq := ((List.range (aR A).length).find? (fun i => @decide (frr A i) (Classical.propDecidable _))).bind (fun i => (aR A)[i]?)
theorem nxt_some {A : AS} {i : Nat} {r : Rq} (h : isF A i) (hr : (aR A)[i]? = some r) : nxt A = some r := by
  unfold nxt
  have : (List.range (aR A).length).find? (fun i => @decide (frr A i) (Classical.propDecidable _)) = some i := by
    rw [List.find?_range_eq_some]
    refine ⟨@decide_eq_true _ (Classical.propDecidable _) h.2.1, List.mem_range.mpr h.1, fun j hj => ?_⟩
    rw [Bool.not_eq_true', @decide_eq_false_iff_not _ (Classical.propDecidable _)]
    exact h.2.2 j hj
  rw [this]
  exact hr
theorem nxt_none {A : AS} (h : ∀ i, i < (aR A).length → ¬ frr A i) : nxt A = none := by
  unfold nxt
  have : (List.range (aR A).length).find? (fun i => @decide (frr A i) (Classical.propDecidable _)) = none := by
    rw [List.find?_eq_none]
    intro x hx
    rw [@decide_eq_true_iff _ (Classical.propDecidable _)]
    exact h x (List.mem_range.mp hx)
  rw [this]
  rfl
/-- no request of the row can be given -/
def Qt (A : AS) : Prop := ∀ i, i < (aR A).length → ¬ frr A i
theorem nxt_cases (A : AS) : (∃ i r, isF A i ∧ (aR A)[i]? = some r) ∨ Qt A := by
  by_cases h : ∃ i, i < (aR A).length ∧ frr A i
  · left
    obtain ⟨i, ⟨h1, h2⟩, hmin⟩ := pk_least _ h
    exact ⟨i, _, ⟨h1, h2, fun j hj q => hmin j hj ⟨by omega, q⟩⟩, List.getElem?_eq_getElem h1⟩
  · exact Or.inr fun i hi q => h ⟨i, hi, q⟩
/-- the row is gone through, at most n requests are given -/
noncomputable def goN : Nat → AS → AS
  | 0, A => A
  | n + 1, A => match nxt A with
    | some r => goN n (givA A r)
    | none => A
noncomputable def goA (A : AS) : AS := goN 8 A
theorem goN_s {A : AS} {n i : Nat} {r : Rq} (h : isF A i) (hr : (aR A)[i]? = some r) : goN (n + 1) A = goN n (givA A r) := by
  rw [goN, nxt_some h hr]
theorem goN_q {A : AS} (h : Qt A) : ∀ n, goN n A = A
  | 0 => rfl
  | n + 1 => by rw [goN, nxt_none h]
theorem giv_len {A : AS} (hw : WF A) {i : Nat} {r : Rq} (hr : (aR A)[i]? = some r) : (aR (givA A r)).length + 1 = (aR A).length := by
  have hi := (List.getElem?_eq_some_iff.mp hr).1
  have : aR (givA A r) = (aR A).eraseIdx i := filter_ne hw.2.1 hr rfl
  rw [this, List.length_eraseIdx_of_lt hi]
  omega
theorem giv_mem {A : AS} {r x : Rq} : x ∈ aR (givA A r) ↔ x ∈ aR A ∧ x.1 ≠ r.1 := by
  show x ∈ (aR A).filter _ ↔ _
  rw [List.mem_filter]
  simp
theorem goN_ok {A : AS} (hw : WF A) : ∀ n, (aR A).length ≤ n → WF (goN n A) ∧ Qt (goN n A) ∧ ∀ x ∈ aR (goN n A), x ∈ aR A
  | 0, hn => ⟨hw, fun i hi => by rw [goN] at hi; omega, fun x hx => hx⟩
  | n + 1, hn => by
    rcases nxt_cases A with ⟨i, r, hi, hr⟩ | hq
    · rw [goN_s hi hr]
      have hl := giv_len hw hr
      obtain ⟨a, b, c⟩ := goN_ok (hw.givA (List.mem_of_getElem? hr)) n (by omega)
      exact ⟨a, b, fun x hx => (giv_mem.mp (c x hx)).1⟩
    · rw [goN_q hq]
      exact ⟨hw, hq, fun x hx => hx⟩
theorem goA_ok {A : AS} (hw : WF A) : WF (goA A) ∧ Qt (goA A) ∧ ∀ x ∈ aR (goA A), x ∈ aR A := goN_ok hw 8 hw.len
theorem frr_iff {A : AS} {i : Nat} {z : Int32} (h : isM z (wts A i)) : (z = nI 0) = frr A i := by
  apply propext
  rw [show (z = nI 0) ↔ z = 0 from Iff.rfl, isM_z h]
  constructor
  · intro q x ⟨r, hr, p, a, b, c, d, e⟩
    exact q x (by omega) ⟨r, hr, p, a, b, c, d, e⟩
  · intro q x _ w
    exact q x w
theorem long_give (A : AS) (o k f t : Nat) (w : Int32) : giveK (longA A o w) o k f t = longA (giveK A o k f t) o w := by
  unfold giveK cntA longA setK
  refine Prod.ext rfl (Prod.ext rfl (Prod.ext ?_ rfl))
  funext x j
  show (if x = o ∧ j = 0 then (if x = o ∧ j = 3 then _ else aC A x j) + 1 else if x = o ∧ j = 3 then (if aC A x j < w then w else aC A x j) else aC A x j) = if x = o ∧ j = 3 then (if (if x = o ∧ j = 0 then aC A x j + 1 else aC A x j) < w then w else (if x = o ∧ j = 0 then aC A x j + 1 else aC A x j)) else (if x = o ∧ j = 0 then aC A x j + 1 else aC A x j)
  by_cases c : x = o ∧ j = 0
  · rw [if_pos c, if_neg (by omega), if_neg (by omega), if_pos c]
  · by_cases c2 : x = o ∧ j = 3
    · simp only [if_neg c, if_pos c2]
    · simp only [if_neg c, if_neg c2]
section LG
variable {σ : St} {A : AS}
theorem waitedForAt_eq (h : RepL σ A) (hw : WF A) {i : Nat} (hi : i < (aR A).length) : ∃ z, fX1_waitedForAt (nI i) σ = some z ∧ isM z (wts A i) := by
  have hlen := hw.len
  obtain ⟨r, hr⟩ : ∃ r, (aR A)[i]? = some r := ⟨_, List.getElem?_eq_getElem hi⟩
  obtain ⟨g1, g2, g3, g4, -⟩ := h.2.1 i r hr
  obtain ⟨w1, w2, w3, w4, w5⟩ := hw.2.2.1 r (List.mem_of_getElem? hr)
  obtain ⟨z, hz, hm⟩ := inWay_eq h hw (o := r.1) (k := r.2.1) (f := r.2.2.1) (t := r.2.2.2.1) (n := i) w1 w2 w3 (by omega) w5 (by omega)
  refine ⟨z, ?_, isM_congr hm fun x hx => ⟨fun q => ⟨r, hr, q⟩, fun ⟨r', hr', q⟩ => by rw [hr] at hr'; cases hr'; exact q⟩⟩
  unfold fX1_waitedForAt
  simp (disch := omega) only [g1, g2, g3, g4, hz, nm, bnd_s, bnd_n, bn2_s, l0, l1, l2, l3, l4, l7, l8, l9, l16, l80, l88, l200, l300, pk_mul, nI_add, nI_sb, mx1, mn1, ax_nI, nI_cl, nI_lt', nI_le', nI_eq', if_pos, if_neg, if_true, if_false]
theorem waitedFor_eq (h : RepL σ A) (hw : WF A) {o : Nat} (ho : o < 8) : (∀ (i : Nat) (r : Rq), (aR A)[i]? = some r → r.1 = o → ∃ z, fX1_waitedFor (nI o) σ = some z ∧ isM z (wts A i)) ∧ ((∀ r ∈ aR A, r.1 ≠ o) → fX1_waitedFor (nI o) σ = some (nI 0)) := by
  have hlen := hw.len
  constructor
  · intro i r hr he
    have hi := (List.getElem?_eq_some_iff.mp hr).1
    obtain ⟨z, hz, hm⟩ := waitedForAt_eq h hw hi
    refine ⟨z, ?_, hm⟩
    unfold fX1_waitedFor
    simp (disch := omega) only [(placeL_eq h hw ho).1 i r hr he, hz, nm, bnd_s, bnd_n, bn2_s, l0, l1, l2, l3, l4, l7, l8, l9, l16, l80, l88, l200, l300, pk_mul, nI_add, nI_sb, mx1, mn1, ax_nI, nI_cl, nI_lt', nI_le', nI_eq', if_pos, if_neg, if_true, if_false]
  · intro hno
    unfold fX1_waitedFor
    rw [(placeL_eq h hw ho).2 hno]
    rfl
theorem quitL_eq (h : RepL σ A) (hw : WF A) {o : Nat} (ho : o < 8) : ∃ σ', fX1_quitRow (nI o) σ = some σ' ∧ RepL σ' (quitA A o) ∧ ∀ c, c ≠ 3 → c ≠ 4 → c ≠ 5 → σ' c = σ c := by
  have hlen := hw.len
  have h1 := h.1.2.2.2.2.2.2
  rcases row_cases A o with ⟨i, r, hr, he, -⟩ | hno
  · subst he
    have hi := (List.getElem?_eq_some_iff.mp hr).1
    have hp := (placeL_eq h hw ho).1 i r hr rfl
    obtain ⟨L, hL⟩ : ∃ L, (aR A).length = L + 1 := ⟨(aR A).length - 1, by omega⟩
    rw [hL] at h1 hi hlen
    obtain ⟨e, he, s', rfl, d0, d1⟩ := lp_rng (b := fun x : (Int32 × St) => bX1_quitRow_23 x.1 x.2)
      (fun j s => ∃ s', s = (nI j, s') ∧ (∀ c, c ≠ 3 → s' c = put σ 4 (fun _ => nI L) c) ∧ ∀ m, s' 3 m = if i ≤ m ∧ m < j then σ 3 (m + 1) else σ 3 m)
      (fun e => ∃ s', e = (nI L, s') ∧ (∀ c, c ≠ 3 → s' c = put σ 4 (fun _ => nI L) c) ∧ ∀ m, s' 3 m = if i ≤ m ∧ m < L then σ 3 (m + 1) else σ 3 m) i L
      (fun j s hij hj hs => by
        obtain ⟨s', rfl, a, b⟩ := hs
        show ∃ s'', bX1_quitRow_23 (nI j) s' = some (.inl s'') ∧ _
        have e1 : s' 4 0 = nI L := by rw [a 4 (by omega), put_s]
        unfold bX1_quitRow_23
        simp (disch := omega) only [e1, nm, bnd_s, bnd_n, bn2_s, l0, l1, l2, l3, l4, l7, l8, l9, l16, l80, l88, l200, l300, pk_mul, nI_add, nI_sb, mx1, mn1, ax_nI, nI_cl, nI_lt', nI_le', nI_eq', if_pos, if_neg, if_true, if_false]
        refine ⟨_, rfl, _, rfl, fun c hc => by rw [put_n _ _ hc]; exact a c hc, fun m => ?_⟩
        rw [put_s]
        by_cases e : m = j
        · subst e
          rw [upd_s, if_pos (by omega), b, if_neg (by omega)]
        · rw [upd_n _ _ e, b]
          by_cases c2 : i ≤ m ∧ m < j
          · rw [if_pos c2, if_pos (by omega)]
          · rw [if_neg c2, if_neg (by omega)])
      (fun s hs => by
        obtain ⟨s', rfl, a, b⟩ := hs
        show ∃ e, bX1_quitRow_23 (nI L) s' = some (.inr e) ∧ _
        have e1 : s' 4 0 = nI L := by rw [a 4 (by omega), put_s]
        unfold bX1_quitRow_23
        simp (disch := omega) only [e1, nm, bnd_s, bnd_n, bn2_s, l0, l1, l2, l3, l4, l7, l8, l9, l16, l80, l88, l200, l300, pk_mul, nI_add, nI_sb, mx1, mn1, ax_nI, nI_cl, nI_lt', nI_le', nI_eq', if_pos, if_neg, if_true, if_false]
        exact ⟨_, rfl, s', rfl, a, b⟩)
      (nI i, put σ 4 (fun _ => nI L)) (by omega) ⟨_, rfl, fun _ _ => rfl, fun m => by rw [put_n _ _ (by omega), if_neg (by omega)]⟩ (by omega)
    have hf : aR (quitA A r.1) = (aR A).eraseIdx i := filter_ne hw.2.1 hr rfl
    have hlq : (aR (quitA A r.1)).length = L := by rw [hf, List.length_eraseIdx_of_lt (by omega)]; omega
    have q : ∀ c, c ≠ 3 → c ≠ 4 → c ≠ 5 → put s' 5 (upd (s' 5) r.1 (nI 0)) c = σ c := fun c a b d => by
      rw [put_n _ _ d, d0 c a, put_n _ _ b]
    have q5 : ∀ x, put s' 5 (upd (s' 5) r.1 (nI 0)) 5 x = if x = r.1 then nI 0 else σ 5 x := fun x => by
      rw [put_s]
      unfold upd
      rw [d0 5 (by omega), put_n _ _ (by omega)]
    have q4 : put s' 5 (upd (s' 5) r.1 (nI 0)) 4 0 = nI L := by rw [put_n _ _ (by omega), d0 4 (by omega), put_s]
    have q3 : ∀ m, put s' 5 (upd (s' 5) r.1 (nI 0)) 3 m = if i ≤ m ∧ m < L then σ 3 (m + 1) else σ 3 m := fun m => by rw [put_n _ _ (by omega), d1]
    refine ⟨put s' 5 (upd (s' 5) r.1 (nI 0)), ?_, ⟨?_, ?_, ?_, ?_, ?_⟩, q⟩
    · unfold fX1_quitRow
      have e1 : nI (L + 1) - nI 1 = nI L := by rw [nI_sb (by omega)]; rfl
      rw [hp]
      simp (disch := omega) only [bnd_s, nm, l0, l1, nI_le', if_pos, h1, e1]
      rw [he]
      simp (disch := omega) only [nm, bnd_s, bnd_n, bn2_s, l0, l1, l2, l3, l4, l7, l8, l9, l16, l80, l88, l200, l300, pk_mul, nI_add, nI_sb, mx1, mn1, ax_nI, nI_cl, nI_lt', nI_le', nI_eq', if_pos, if_neg, if_true, if_false]
    · rw [hlq, q4, q 1 (by omega) (by omega) (by omega), q 13 (by omega) (by omega) (by omega), q 14 (by omega) (by omega) (by omega), q 0 (by omega) (by omega) (by omega)]
      obtain ⟨g0, g1, g2, g3, g4, g5, g6⟩ := h.1
      exact ⟨g0, g1, g2, g3, g4, g5, rfl⟩
    · intro j r' hr'
      rw [hf, List.getElem?_eraseIdx] at hr'
      obtain ⟨j', hj', ej⟩ : ∃ j', (aR A)[j']? = some r' ∧ ((j < i ∧ j' = j) ∨ (i ≤ j ∧ j' = j + 1)) := by
        by_cases c : j < i
        · rw [if_pos c] at hr'; exact ⟨j, hr', Or.inl ⟨c, rfl⟩⟩
        · rw [if_neg c] at hr'; exact ⟨j + 1, hr', Or.inr ⟨by omega, rfl⟩⟩
      have hjl := (List.getElem?_eq_some_iff.mp hj').1
      have hne : r'.1 ≠ r.1 := fun e => by
        have := row_inj hw hj' hr e
        omega
      obtain ⟨k0, k1, k2, k3, k4⟩ := h.2.1 j' r' hj'
      rw [q3, q5, if_neg hne, q 6 (by omega) (by omega) (by omega), q 7 (by omega) (by omega) (by omega), q 8 (by omega) (by omega) (by omega)]
      refine ⟨?_, k1, k2, k3, k4⟩
      rcases ej with ⟨c, rfl⟩ | ⟨c, rfl⟩
      · rw [if_neg (by omega)]; exact k0
      · rw [if_pos (by omega)]; exact k0
    · intro x hx hn2
      rw [q5]
      by_cases c : x = r.1
      · rw [if_pos c]; rfl
      · rw [if_neg c]
        refine h.2.2.1 x hx fun r' hr' e => ?_
        exact hn2 r' (List.mem_filter.mpr ⟨hr', by simpa using fun z => c (e.symm.trans z)⟩) e
    · intro x hx
      rw [q 9 (by omega) (by omega) (by omega), q 10 (by omega) (by omega) (by omega), q 11 (by omega) (by omega) (by omega), q 12 (by omega) (by omega) (by omega)]
      exact h.2.2.2.1 x hx
    · intro k p hk hk3 hp
      rw [q _ (by omega) (by omega) (by omega)]
      exact h.2.2.2.2 k p hk hk3 hp
  · refine ⟨σ, ?_, by rw [quit_no hno]; exact h, fun _ _ _ _ => rfl⟩
    unfold fX1_quitRow
    rw [(placeL_eq h hw ho).2 hno]
    rfl
theorem joinL_eq (h : RepL σ A) (hw : WF A) {o k f t : Nat} (ho : o < 8) (hno : ∀ r ∈ aR A, r.1 ≠ o) (hl8 : (aR A).length < 8) : ∃ σ', fX1_join (nI o) (nI k) (nI f) (nI t) σ = some σ' ∧ RepL σ' (joinA A o k f t) := by
  have h1 := h.1.2.2.2.2.2.2
  obtain ⟨σ', hσ⟩ : ∃ σ', σ' = put (put (put (put (put (put σ 3 (upd (σ 3) (aR A).length (nI o))) 4 (fun _ => nI ((aR A).length + 1))) 5 (upd (σ 5) o (nI k))) 6 (upd (σ 6) o (nI f))) 7 (upd (σ 7) o (nI t))) 8 (upd (σ 8) o (nI 0)) := ⟨_, rfl⟩
  have q : ∀ c, c ≠ 3 → c ≠ 4 → c ≠ 5 → c ≠ 6 → c ≠ 7 → c ≠ 8 → σ' c = σ c := fun c a1 a2 a3 a4 a5 a6 => by
    rw [hσ, put_n _ _ a6, put_n _ _ a5, put_n _ _ a4, put_n _ _ a3, put_n _ _ a2, put_n _ _ a1]
  have q8 : σ' 8 = upd (σ 8) o (nI 0) := by rw [hσ, put_s]
  have q7 : σ' 7 = upd (σ 7) o (nI t) := by rw [hσ, put_n _ _ (by omega), put_s]
  have q6 : σ' 6 = upd (σ 6) o (nI f) := by rw [hσ, put_n _ _ (by omega), put_n _ _ (by omega), put_s]
  have q5 : σ' 5 = upd (σ 5) o (nI k) := by rw [hσ, put_n _ _ (by omega), put_n _ _ (by omega), put_n _ _ (by omega), put_s]
  have q4 : σ' 4 0 = nI ((aR A).length + 1) := by rw [hσ, put_n _ _ (by omega), put_n _ _ (by omega), put_n _ _ (by omega), put_n _ _ (by omega), put_s]
  have q3 : σ' 3 = upd (σ 3) (aR A).length (nI o) := by rw [hσ, put_n _ _ (by omega), put_n _ _ (by omega), put_n _ _ (by omega), put_n _ _ (by omega), put_n _ _ (by omega), put_s]
  have hln : (aR (joinA A o k f t)).length = (aR A).length + 1 := by
    show (aR A ++ [(o, k, f, t, 0)]).length = _
    rw [List.length_append]; rfl
  refine ⟨σ', ?_, ?_, ?_, ?_, ?_, ?_⟩
  · unfold fX1_join
    have p1 : ∀ g : Nat → Int32, put σ 3 g 4 0 = nI (aR A).length := fun g => by rw [put_n _ _ (by omega), h1]
    have p5 : ∀ g f : Nat → Int32, put (put σ 3 g) 4 f 5 = σ 5 := fun g f => by rw [put_n _ _ (by omega), put_n _ _ (by omega)]
    have p6 : ∀ g f e : Nat → Int32, put (put (put σ 3 g) 4 f) 5 e 6 = σ 6 := fun g f e => by rw [put_n _ _ (by omega), put_n _ _ (by omega), put_n _ _ (by omega)]
    have p7 : ∀ g f e d : Nat → Int32, put (put (put (put σ 3 g) 4 f) 5 e) 6 d 7 = σ 7 := fun g f e d => by rw [put_n _ _ (by omega), put_n _ _ (by omega), put_n _ _ (by omega), put_n _ _ (by omega)]
    have p8 : ∀ g f e d b : Nat → Int32, put (put (put (put (put σ 3 g) 4 f) 5 e) 6 d) 7 b 8 = σ 8 := fun g f e d b => by rw [put_n _ _ (by omega), put_n _ _ (by omega), put_n _ _ (by omega), put_n _ _ (by omega), put_n _ _ (by omega)]
    simp (disch := omega) only [h1, p1, p5, p6, p7, p8, nm, bnd_s, bnd_n, bn2_s, l0, l1, l2, l3, l4, l7, l8, l9, l16, l80, l88, l200, l300, pk_mul, nI_add, nI_sb, mx1, mn1, ax_nI, nI_cl, nI_lt', nI_le', nI_eq', if_pos, if_neg, if_true, if_false]
    rw [hσ]
  · rw [hln, q4, q 1 (by omega) (by omega) (by omega) (by omega) (by omega) (by omega), q 13 (by omega) (by omega) (by omega) (by omega) (by omega) (by omega), q 14 (by omega) (by omega) (by omega) (by omega) (by omega) (by omega), q 0 (by omega) (by omega) (by omega) (by omega) (by omega) (by omega)]
    obtain ⟨g0, g1, g2, g3, g4, g5, g6⟩ := h.1
    exact ⟨g0, g1, g2, g3, g4, g5, rfl⟩
  · intro j r' hr'
    have hr2 : (aR A ++ [(o, k, f, t, 0)])[j]? = some r' := hr'
    rw [q3, q5, q6, q7, q8]
    by_cases c : j < (aR A).length
    · rw [List.getElem?_append_left c] at hr2
      have hne := hno r' (List.mem_of_getElem? hr2)
      rw [upd_n _ _ (by omega), upd_n _ _ hne, upd_n _ _ hne, upd_n _ _ hne, upd_n _ _ hne]
      exact h.2.1 j r' hr2
    · rw [List.getElem?_append_right (by omega)] at hr2
      have hj0 : j - (aR A).length < 1 := (List.getElem?_eq_some_iff.mp hr2).1
      have hje : j = (aR A).length := by omega
      subst hje
      rw [Nat.sub_self] at hr2
      cases hr2
      exact ⟨upd_s _ _ _, upd_s _ _ _, upd_s _ _ _, upd_s _ _ _, upd_s _ _ _⟩
  · intro x hx hn2
    have hxo : x ≠ o := fun e => hn2 (o, k, f, t, 0) (List.mem_append_right _ (List.mem_singleton.mpr rfl)) e.symm
    rw [q5, upd_n _ _ hxo]
    exact h.2.2.1 x hx fun r hr => hn2 r (List.mem_append_left _ hr)
  · intro x hx
    rw [q 9 (by omega) (by omega) (by omega) (by omega) (by omega) (by omega), q 10 (by omega) (by omega) (by omega) (by omega) (by omega) (by omega), q 11 (by omega) (by omega) (by omega) (by omega) (by omega) (by omega), q 12 (by omega) (by omega) (by omega) (by omega) (by omega) (by omega)]
    exact h.2.2.2.1 x hx
  · intro c p hc hc3 hp
    rw [q _ (by omega) (by omega) (by omega) (by omega) (by omega) (by omega)]
    exact h.2.2.2.2 c p hc hc3 hp
/-- whose requests are given when the row is gone through -/
def gvn (A A' : AS) (x : Nat) : Prop := (∃ r ∈ aR A, r.1 = x) ∧ ¬ ∃ r ∈ aR A', r.1 = x
def tri : Nat → Nat
  | 0 => 0
  | n + 1 => tri n + n
theorem tri_le : ∀ n, n ≤ 8 → tri n ≤ 28 := by decide
theorem goL_eq (h : RepL σ A) (hw : WF A) : ∃ z σ', fX1_goThroughRow σ = some (z, σ') ∧ RepL σ' (goA A) ∧ isM z (gvn A (goA A)) := by
  have hlen := hw.len
  have hFU := FU_v
  obtain ⟨e, he, z, pl, st, σ', rfl, h1, h2⟩ := lp_mu (b := fun t : (Int32 × Int32 × Int32 × St) => bX1_goThroughRow_6 t.1 t.2.1 t.2.2.1 t.2.2.2)
    (fun m s => ∃ z p k s' A' n, s = (z, nI p, nI k, s') ∧ RepL s' A' ∧ WF A' ∧ (aR A').length ≤ n ∧ goN n A' = goA A ∧ isM z (gvn A A') ∧ p ≤ (aR A').length ∧ (∀ j, j < p → ¬ frr A' j) ∧ (∀ x ∈ aR A', x ∈ aR A) ∧ (aR A').length - p + tri (aR A').length ≤ m ∧ k + m ≤ 36)
    (fun e => ∃ z p k σ', e = (z, p, k, σ') ∧ RepL σ' (goA A) ∧ isM z (gvn A (goA A)))
    (fun m s hs => by
      obtain ⟨z, p, k, s', A', n, rfl, r1, w, hn, hg, hz, hp, hf, hsub, hm, hk⟩ := hs
      have hlen' := w.len
      have g1 := r1.1.2.2.2.2.2.2
      show (∃ m' s'', m' < m ∧ bX1_goThroughRow_6 z (nI p) (nI k) s' = some (.inl s'') ∧ _) ∨ ∃ e, bX1_goThroughRow_6 z (nI p) (nI k) s' = some (.inr e) ∧ _
      by_cases c : p = (aR A').length
      · right
        have hq : Qt A' := fun i hi => hf i (by omega)
        rw [goN_q hq] at hg
        subst hg
        unfold bX1_goThroughRow_6
        simp (disch := omega) only [show (64 : Int32) = nI 64 from rfl, nI_le', if_neg, if_pos, g1]
        exact ⟨_, rfl, z, nI p, nI k, s', rfl, r1, hz⟩
      · left
        have hpl : p < (aR A').length := by omega
        obtain ⟨y, hy, hm2⟩ := waitedForAt_eq r1 w hpl
        have hfr := frr_iff hm2
        obtain ⟨r, hr⟩ : ∃ r, (aR A')[p]? = some r := ⟨_, List.getElem?_eq_getElem hpl⟩
        obtain ⟨k1, k2, k3, k4, k5⟩ := r1.2.1 p r hr
        obtain ⟨w1, w2, w3, w4, w5⟩ := w.2.2.1 r (List.mem_of_getElem? hr)
        by_cases c2 : frr A' p
        · have hiF : isF A' p := ⟨hpl, c2, hf⟩
          obtain ⟨s2, e2, r2⟩ := giveL_eq r1 (o := r.1) (k := r.2.1) (f := r.2.2.1) (t := r.2.2.2.1) w1 w3 (by omega) w5
          have wg : WF (giveK A' r.1 r.2.1 r.2.2.1 r.2.2.2.1) := w.giveK w3
          have r3 := r2.long w1 r.2.2.2.2
          obtain ⟨s4, e4, r4, -⟩ := quitL_eq r3 wg.longA w1
          have m1 : s2 8 r.1 = r.2.2.2.2 := (r2.2.1 p r hr).2.2.2.2
          have m2 : s2 12 r.1 = aC (giveK A' r.1 r.2.1 r.2.2.1 r.2.2.2.1) r.1 3 := (r2.2.2.2.1 r.1 w1).2.2.2
          have hl := giv_len w hr
          obtain ⟨n', rfl⟩ : ∃ n', n = n' + 1 := ⟨n - 1, by omega⟩
          rw [goN_s hiF hr] at hg
          have hy0 : y = nI 0 := by rw [hfr]; exact c2
          subst hy0
          refine ⟨(aR (givA A' r)).length + tri (aR (givA A' r)).length, (z ||| (nI 1 <<< (nI r.1 &&& 31)), nI 0, nI (k + 1), s4), ?_, ?_, _, 0, k + 1, s4, givA A' r, n', rfl, r4, w.givA (List.mem_of_getElem? hr), by omega, hg, ?_, by omega, fun j hj => by omega, fun x hx => hsub x (giv_mem.mp hx).1, by omega, ?_⟩
          · rw [← hl, tri] at hm; omega
          · unfold bX1_goThroughRow_6
            simp (disch := omega) only [show (64 : Int32) = nI 64 from rfl, nI_le', if_neg, if_pos, g1, hy, bnd_s, nm, l0, ax_nI, nI_cl, k1, k2, k3, k4, e2, m1, m2]
            rw [e4]
            simp (disch := omega) only [nm, bnd_s, bnd_n, bn2_s, l0, l1, l2, l3, l4, l7, l8, l9, l16, l80, l88, l200, l300, pk_mul, nI_add, nI_sb, mx1, mn1, ax_nI, nI_cl, nI_lt', nI_le', nI_eq', if_pos, if_neg, if_true, if_false]
          · refine isM_congr (isM_or hz (isM_1 w1)) fun i hi => ?_
            unfold gvn
            constructor
            · rintro (⟨a, b⟩ | rfl)
              · exact ⟨a, fun ⟨x, hx, hxe⟩ => b ⟨x, (giv_mem.mp hx).1, hxe⟩⟩
              · exact ⟨⟨r, hsub r (List.mem_of_getElem? hr), rfl⟩, fun ⟨x, hx, hxe⟩ => (giv_mem.mp hx).2 hxe⟩
            · rintro ⟨a, b⟩
              by_cases e : i = r.1
              · exact Or.inr e
              · exact Or.inl ⟨a, fun ⟨x, hx, hxe⟩ => b ⟨x, giv_mem.mpr ⟨hx, fun q => e (hxe.symm.trans q)⟩, hxe⟩⟩
          · rw [← hl, tri] at hm; omega
        · have hy0 : ¬ y = nI 0 := by rw [hfr]; exact c2
          refine ⟨m - 1, (z, nI (p + 1), nI (k + 1), s'), by omega, ?_, z, p + 1, k + 1, s', A', n, rfl, r1, w, hn, hg, hz, by omega, fun j hj q => ?_, hsub, by omega, by omega⟩
          · unfold bX1_goThroughRow_6
            simp (disch := omega) only [show (64 : Int32) = nI 64 from rfl, nI_le', if_neg, if_pos, g1, hy, bnd_s, nm, l0, eq_false hy0, if_false, l1, nI_add]
          · by_cases e : j = p
            · subst e; exact c2 q
            · exact hf j (by omega) q) FU 36 ((0 : Int32), (0 : Int32), (0 : Int32), σ) (by
      refine ⟨0, 0, 0, σ, A, 8, rfl, h, hw, hlen, rfl, isM_0 fun i hi q => q.2 q.1, Nat.zero_le _, fun j hj => by omega, fun x hx => hx, ?_, by omega⟩
      have := tri_le _ hlen
      omega) (by omega)
  refine ⟨z, σ', ?_, h1, h2⟩
  unfold fX1_goThroughRow
  rw [he]
  rfl
end LG
