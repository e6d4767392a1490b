/-! The reference: its small changes -/
section MC
variable {σ : St} {A : AS}
theorem layM {o w : Nat} (v : Int32) (ho : o < 8) (hw : w < 9) : fX4_lay (nI o) (nI w) v σ = some (put σ 0 (upd (σ 0) (16 + 9 * o + w) v)) := by
  unfold fX4_lay
  simp (disch := omega) only [nm, bnd_s, bnd_n, bn2_s, l0, l1, l2, l3, l4, l7, l8, l9, l16, l80, l88, l200, l300, pk_mul, nI_add, nI_sb, mx1, mn1, ax_nI, nI_cl, nI_lt', nI_le', nI_eq', if_pos, if_neg]
theorem moreM {o w : Nat} (v : Int32) (ho : o < 8) (hw : w < 9) : fX4_more (nI o) (nI w) v σ = some (put σ 0 (upd (σ 0) (16 + 9 * o + w) (σ 0 (16 + 9 * o + w) + v))) := by
  unfold fX4_more
  simp (disch := omega) only [nm, bnd_s, bnd_n, bn2_s, l0, l1, l2, l3, l4, l7, l8, l9, l16, l80, l88, l200, l300, pk_mul, nI_add, nI_sb, mx1, mn1, ax_nI, nI_cl, nI_lt', nI_le', nI_eq', if_pos, if_neg]
theorem layLockM {o p : Nat} (v : Int32) (ho : o < 8) (hp : p < 300) : fX4_layLock (nI o) (nI p) v σ = some (put σ 0 (upd (σ 0) (88 + 300 * o + p) v)) := by
  unfold fX4_layLock
  simp (disch := omega) only [nm, bnd_s, bnd_n, bn2_s, l0, l1, l2, l3, l4, l7, l8, l9, l16, l80, l88, l200, l300, pk_mul, nI_add, nI_sb, mx1, mn1, ax_nI, nI_cl, nI_lt', nI_le', nI_eq', if_pos, if_neg]
theorem upd_s (f : Nat → Int32) (k : Nat) (v : Int32) : upd f k v k = v := if_pos rfl
theorem upd_n (f : Nat → Int32) {k j : Nat} (v : Int32) (h : j ≠ k) : upd f k v j = f j := if_neg h
/-- nothing but the row of numbers, and who waits for whom, has changed -/
def frM (σ σ' : St) : Prop := ∀ c, c ≠ 0 → c ≠ 9 → c ≠ 10 → σ' c = σ c
theorem frM.rf : frM σ σ := fun _ _ _ _ => rfl
theorem frM.tr {σ σ' σ'' : St} (h : frM σ σ') (h' : frM σ' σ'') : frM σ σ'' := fun c a b d => (h' c a b d).trans (h c a b d)
theorem frM.put {f : Nat → Int32} : frM σ (put σ 0 f) := fun c a _ _ => put_n σ f a
theorem lt3 {P : Nat → Prop} {j : Nat} (hj : j < 4) (h0 : P 0) (h1 : P 1) (h2 : P 2) (h3 : P 3) : P j := by
  rcases (show j = 0 ∨ j = 1 ∨ j = 2 ∨ j = 3 by omega) with rfl | rfl | rfl | rfl <;> assumption
theorem RepM.kinds {a a' : Nat → Int32} {A A' : AS} (h : RepM a A) (hw : WF A) (e : ∀ i, i < 88 → a' i = a i) (hk : ∀ x p, x < 8 → p < 300 → a' (88 + 300 * x + p) = nI (aK A' x p)) (hR : aR A' = aR A) (hC : aC A' = aC A) (hG : aG A' = aG A) : RepM a' A' := by
  have hlen := hw.len
  refine ⟨?_, ?_, ?_, ?_, hk⟩
  · rw [e _ (by omega), e _ (by omega), e _ (by omega), e _ (by omega), e _ (by omega), e _ (by omega), e _ (by omega), hR, hG]
    exact h.1
  · intro i r hr
    rw [hR] at hr
    have hi := (List.getElem?_eq_some_iff.mp hr).1
    have w1 := (hw.2.2.1 r (List.mem_of_getElem? hr)).1
    rw [e _ (by omega), e _ (by omega), e _ (by omega), e _ (by omega), e _ (by omega)]
    exact h.2.1 i r hr
  · intro o ho hno
    rw [hR] at hno
    rw [e _ (by omega)]
    exact h.2.2.1 o ho hno
  · intro o ho
    rw [e _ (by omega), e _ (by omega), e _ (by omega), e _ (by omega), hC]
    exact h.2.2.2.1 o ho
/-- one of an owner's counters -/
theorem RepM.ctr {a : Nat → Int32} {A : AS} (h : RepM a A) (hw : WF A) {o j : Nat} (ho : o < 8) (hj : j < 4) (v : Int32) : RepM (upd a (16 + 9 * o + (4 + j)) v) (aK A, aR A, fun x w => if x = o ∧ w = j then v else aC A x w, aG A) := by
  have hlen := hw.len
  refine ⟨?_, ?_, ?_, ?_, ?_⟩
  · rw [upd_n _ _ (by omega), upd_n _ _ (by omega), upd_n _ _ (by omega), upd_n _ _ (by omega), upd_n _ _ (by omega), upd_n _ _ (by omega), upd_n _ _ (by omega)]
    exact h.1
  · intro i r hr
    have hi : i < (aR A).length := (List.getElem?_eq_some_iff.mp hr).1
    have w1 := (hw.2.2.1 r (List.mem_of_getElem? hr)).1
    rw [upd_n _ _ (by omega), upd_n _ _ (by omega), upd_n _ _ (by omega), upd_n _ _ (by omega), upd_n _ _ (by omega)]
    exact h.2.1 i r hr
  · intro x hx hno
    rw [upd_n _ _ (by omega)]
    exact h.2.2.1 x hx hno
  · intro x hx
    have g := h.2.2.2.1 x hx
    have key : ∀ i, i < 4 → a (16 + 9 * x + (4 + i)) = aC A x i → upd a (16 + 9 * o + (4 + j)) v (16 + 9 * x + (4 + i)) = if x = o ∧ i = j then v else aC A x i := by
      intro i hi hg
      by_cases c : x = o ∧ i = j
      · obtain ⟨rfl, rfl⟩ := c
        rw [upd_s, if_pos ⟨rfl, rfl⟩]
      · rw [upd_n _ _ (by omega), if_neg c, hg]
    exact ⟨key 0 (by omega) g.1, key 1 (by omega) g.2.1, key 2 (by omega) g.2.2.1, key 3 (by omega) g.2.2.2⟩
  · intro x p hx hp
    rw [upd_n _ _ (by omega)]
    exact h.2.2.2.2 x p hx hp
theorem RepM.cnt {a : Nat → Int32} {A : AS} (h : RepM a A) (hw : WF A) {o j : Nat} (ho : o < 8) (hj : j < 4) (n : Int32) : RepM (upd a (16 + 9 * o + (4 + j)) (a (16 + 9 * o + (4 + j)) + n)) (cntA A o j n) := by
  have g : a (16 + 9 * o + (4 + j)) = aC A o j := by
    have g := h.2.2.2.1 o ho
    exact lt3 (P := fun j => a (16 + 9 * o + (4 + j)) = aC A o j) hj g.1 g.2.1 g.2.2.1 g.2.2.2
  have := h.ctr hw ho hj (aC A o j + n)
  rw [g]
  have e : (fun x w => if x = o ∧ w = j then aC A o j + n else aC A x w) = (fun x w => if x = o ∧ w = j then aC A x w + n else aC A x w) := by
    funext x w
    by_cases c : x = o ∧ w = j
    · rw [if_pos c, if_pos c, c.1, c.2]
    · rw [if_neg c, if_neg c]
  rw [e] at this
  exact this
theorem RepM.long {a : Nat → Int32} {A : AS} (h : RepM a A) (hw : WF A) {o : Nat} (ho : o < 8) (w : Int32) : RepM (upd a (16 + 9 * o + 7) (if aC A o 3 < w then w else aC A o 3)) (longA A o w) := by
  have := h.ctr hw ho (j := 3) (by omega) (if aC A o 3 < w then w else aC A o 3)
  have e : (fun x j => if x = o ∧ j = 3 then (if aC A o 3 < w then w else aC A o 3) else aC A x j) = (fun x j => if x = o ∧ j = 3 then (if aC A x j < w then w else aC A x j) else aC A x j) := by
    funext x j
    by_cases c : x = o ∧ j = 3
    · rw [if_pos c, if_pos c, c.1, c.2]
    · rw [if_neg c, if_neg c]
  rw [e] at this
  exact this
/-- the places of the numbers that belong to no owner -/
def gi : Nat → Nat
  | 0 => 0
  | 1 => 5
  | 2 => 6
  | 3 => 2
  | 4 => 3
  | _ => 4
theorem RepM.glb {a : Nat → Int32} {A : AS} (h : RepM a A) (hw : WF A) {j : Nat} (hj : j < 6) (v : Int32) : RepM (upd a (gi j) v) (glbA A j v) := by
  have hlen := hw.len
  have hg : gi j < 8 ∧ gi j ≠ 1 := by
    rcases (show j = 0 ∨ j = 1 ∨ j = 2 ∨ j = 3 ∨ j = 4 ∨ j = 5 by omega) with rfl | rfl | rfl | rfl | rfl | rfl <;> decide
  refine ⟨?_, ?_, ?_, ?_, ?_⟩
  · have key : ∀ i, i < 6 → a (gi i) = aG A i → upd a (gi j) v (gi i) = if i = j then v else aG A i := by
      intro i hi hgi
      by_cases c : i = j
      · subst c; rw [upd_s, if_pos rfl]
      · rw [upd_n, if_neg c, hgi]
        intro q
        apply c
        rcases (show j = 0 ∨ j = 1 ∨ j = 2 ∨ j = 3 ∨ j = 4 ∨ j = 5 by omega) with rfl | rfl | rfl | rfl | rfl | rfl <;> rcases (show i = 0 ∨ i = 1 ∨ i = 2 ∨ i = 3 ∨ i = 4 ∨ i = 5 by omega) with rfl | rfl | rfl | rfl | rfl | rfl <;> first | rfl | (exact absurd q (by decide))
    obtain ⟨g0, g1, g2, g3, g4, g5, g6⟩ := h.1
    refine ⟨key 0 (by omega) g0, key 1 (by omega) g1, key 2 (by omega) g2, key 3 (by omega) g3, key 4 (by omega) g4, key 5 (by omega) g5, ?_⟩
    rw [upd_n _ _ (by omega)]
    exact g6
  · intro i r hr
    have hi : i < (aR A).length := (List.getElem?_eq_some_iff.mp hr).1
    have w1 := (hw.2.2.1 r (List.mem_of_getElem? hr)).1
    rw [upd_n _ _ (by omega), upd_n _ _ (by omega), upd_n _ _ (by omega), upd_n _ _ (by omega), upd_n _ _ (by omega)]
    exact h.2.1 i r hr
  · intro x hx hno
    rw [upd_n _ _ (by omega)]
    exact h.2.2.1 x hx hno
  · intro x hx
    rw [upd_n _ _ (by omega), upd_n _ _ (by omega), upd_n _ _ (by omega), upd_n _ _ (by omega)]
    exact h.2.2.2.1 x hx
  · intro x p hx hp
    rw [upd_n _ _ (by omega)]
    exact h.2.2.2.2 x p hx hp
theorem WF.setK {A : AS} (h : WF A) {o f t k : Nat} (hk : k ≤ 3) : WF (setK A o f t k) := by
  refine ⟨fun x p hx hp => ?_, h.2⟩
  show (if x = o ∧ f ≤ p ∧ p < t then k else aK A x p) ≤ 3
  by_cases c : x = o ∧ f ≤ p ∧ p < t
  · rw [if_pos c]; exact hk
  · rw [if_neg c]; exact h.1 x p hx hp
theorem WF.cntA {A : AS} (h : WF A) {o j : Nat} {n : Int32} : WF (cntA A o j n) := h
theorem WF.longA {A : AS} (h : WF A) {o : Nat} {w : Int32} : WF (longA A o w) := h
theorem WF.giveK {A : AS} (h : WF A) {o f t k : Nat} (hk : k ≤ 3) : WF (giveK A o k f t) := h.setK hk
theorem WF.quitA {A : AS} (h : WF A) {o : Nat} : WF (quitA A o) := by
  refine ⟨h.1, ?_, fun r hr => h.2.2.1 r (List.mem_filter.mp hr).1, h.2.2.2⟩
  exact List.Nodup.sublist ((List.filter_sublist).map _) h.2.1
theorem WF.joinA {A : AS} (h : WF A) {o k f t : Nat} (ho : o < 8) (hk : 1 ≤ k) (hk3 : k ≤ 3) (hf : f < t) (ht : t ≤ 300) (hno : ∀ r ∈ aR A, r.1 ≠ o) : WF (joinA A o k f t) := by
  refine ⟨h.1, ?_, fun r hr => ?_, h.2.2.2⟩
  · show ((aR A ++ [(o, k, f, t, 0)]).map (fun r : Rq => r.1)).Nodup
    rw [List.map_append, List.nodup_append]
    refine ⟨h.2.1, List.pairwise_singleton _ _, fun x hx y hy => ?_⟩
    obtain ⟨r, hr, rfl⟩ := List.mem_map.mp hx
    rw [List.map_cons, List.map_nil, List.mem_singleton] at hy
    subst hy
    exact hno r hr
  · rcases List.mem_append.mp hr with hr | hr
    · exact h.2.2.1 r hr
    · rw [List.mem_singleton] at hr
      subst hr
      exact ⟨ho, hk, hk3, hf, ht⟩
theorem WF.givA {A : AS} (h : WF A) {r : Rq} (hr : r ∈ aR A) : WF (givA A r) := WF.quitA (WF.longA (WF.giveK h (h.2.2.1 r hr).2.2.1))
theorem placeM_eq (h : RepM (σ 0) A) (hw : WF A) {o : Nat} (ho : o < 8) : (∀ (i : Nat) (r : Rq), (aR A)[i]? = some r → r.1 = o → fX4_placeInRow (nI o) σ = some (nI i)) ∧ ((∀ r ∈ aR A, r.1 ≠ o) → fX4_placeInRow (nI o) σ = some (-6)) := by
  have hlen := hw.len
  have h1 := h.1.2.2.2.2.2.2
  have key : ∀ i, i ≤ (aR A).length → (∀ j, j < i → ∀ r : Rq, (aR A)[j]? = some r → r.1 ≠ o) → (∀ r : Rq, (aR A)[i]? = some r → r.1 = o) → ∃ e, lp (fun t : Int32 => bX4_placeInRow_2 (nI o) σ t) FU (nI 0) = some e ∧ e = nI i := by
    intro i hi hno hat
    refine lp_rng (fun j s => s = nI j) (fun e => e = nI i) 0 i (fun j s _ hj hs => ?_) (fun s hs => ?_) (nI 0) (by omega) rfl (by omega)
    · subst hs
      have hjl : j < (aR A).length := by omega
      obtain ⟨r, hr⟩ : ∃ r, (aR A)[j]? = some r := ⟨_, List.getElem?_eq_getElem hjl⟩
      have g1 := (h.2.1 j r hr).1
      have := hno j hj r hr
      have w1 := (hw.2.2.1 r (List.mem_of_getElem? hr)).1
      unfold bX4_placeInRow_2
      simp (disch := omega) only [h1, g1, nm, bnd_s, bnd_n, bn2_s, l0, l1, l2, l3, l4, l7, l8, l9, l16, l80, l88, l200, l300, pk_mul, nI_add, nI_sb, mx1, mn1, ax_nI, nI_cl, nI_lt', nI_le', nI_eq', if_pos, if_neg]
      exact ⟨_, rfl, rfl⟩
    · subst hs
      unfold bX4_placeInRow_2
      by_cases c : i = (aR A).length
      · simp (disch := omega) only [h1, nm, bnd_s, bnd_n, bn2_s, l0, l1, l2, l3, l4, l7, l8, l9, l16, l80, l88, l200, l300, pk_mul, nI_add, nI_sb, mx1, mn1, ax_nI, nI_cl, nI_lt', nI_le', nI_eq', if_pos, if_neg]
        exact ⟨_, rfl, rfl⟩
      · obtain ⟨r, hr⟩ : ∃ r, (aR A)[i]? = some r := ⟨_, List.getElem?_eq_getElem (by omega)⟩
        have g1 := (h.2.1 i r hr).1
        have := hat r hr
        simp (disch := omega) only [h1, g1, nm, bnd_s, bnd_n, bn2_s, l0, l1, l2, l3, l4, l7, l8, l9, l16, l80, l88, l200, l300, pk_mul, nI_add, nI_sb, mx1, mn1, ax_nI, nI_cl, nI_lt', nI_le', nI_eq', if_pos, if_neg]
        exact ⟨_, rfl, rfl⟩
  constructor
  · intro i r hr he
    have hil := (List.getElem?_eq_some_iff.mp hr).1
    obtain ⟨e, he', rfl⟩ := key i (by omega) (fun j hj r' hr' q => by have := row_inj hw hr' hr (q.trans he.symm); omega) (fun r' hr' => by rw [hr] at hr'; cases hr'; exact he)
    unfold fX4_placeInRow
    simp (disch := omega) only [h1, he', nm, bnd_s, bnd_n, bn2_s, l0, l1, l2, l3, l4, l7, l8, l9, l16, l80, l88, l200, l300, pk_mul, nI_add, nI_sb, mx1, mn1, ax_nI, nI_cl, nI_lt', nI_le', nI_eq', if_pos, if_neg]
  · intro hno
    obtain ⟨e, he', rfl⟩ := key (aR A).length (Nat.le_refl _) (fun j hj r' hr' => hno r' (List.mem_of_getElem? hr')) (fun r hr => by simp at hr)
    unfold fX4_placeInRow
    simp (disch := omega) only [h1, he', nm, bnd_s, bnd_n, bn2_s, l0, l1, l2, l3, l4, l7, l8, l9, l16, l80, l88, l200, l300, pk_mul, nI_add, nI_sb, mx1, mn1, ax_nI, nI_cl, nI_lt', nI_le', nI_eq', if_pos, if_neg]
theorem giveLoopM (h : RepM (σ 0) A) (hw : WF A) {o k f t : Nat} (ho : o < 8) (hft : f ≤ t) (ht : t ≤ 300) : ∃ σ', lp (fun x : (Int32 × St) => bX4_give_3 (nI o) (nI k) (nI t) x.1 x.2) FU (nI f, σ) = some (nI t, σ') ∧ frM σ σ' ∧ RepM (σ' 0) (setK A o f t k) := by
  obtain ⟨e, he, σ', rfl, h1, h2⟩ := lp_rng (b := fun x : (Int32 × St) => bX4_give_3 (nI o) (nI k) (nI t) x.1 x.2)
    (fun j s => ∃ s', s = (nI j, s') ∧ (∀ c, c ≠ 0 → s' c = σ c) ∧ ∀ i, s' 0 i = if 88 + 300 * o + f ≤ i ∧ i < 88 + 300 * o + j then nI k else σ 0 i)
    (fun e => ∃ s', e = (nI t, s') ∧ (∀ c, c ≠ 0 → s' c = σ c) ∧ ∀ i, s' 0 i = if 88 + 300 * o + f ≤ i ∧ i < 88 + 300 * o + t then nI k else σ 0 i) f t
    (fun j s hfj hj hs => by
      obtain ⟨s', rfl, a, b⟩ := hs
      show ∃ s'', bX4_give_3 (nI o) (nI k) (nI t) (nI j) s' = some (.inl s'') ∧ _
      unfold bX4_give_3
      simp (disch := omega) only [layLockM (nI k) ho (show j < 300 by omega), nm, bnd_s, bnd_n, bn2_s, l0, l1, l2, l3, l4, l7, l8, l9, l16, l80, l88, l200, l300, pk_mul, nI_add, nI_sb, mx1, mn1, ax_nI, nI_cl, nI_lt', nI_le', nI_eq', if_pos, if_neg]
      refine ⟨_, rfl, _, rfl, fun c hc => by rw [put_n _ _ hc]; exact a c hc, fun i => ?_⟩
      rw [put_s]
      by_cases e : i = 88 + 300 * o + j
      · subst e; rw [upd_s, if_pos (by omega)]
      · rw [upd_n _ _ e, b]
        by_cases c : 88 + 300 * o + f ≤ i ∧ i < 88 + 300 * o + j
        · rw [if_pos c, if_pos (by omega)]
        · rw [if_neg c, if_neg (by omega)])
    (fun s hs => by
      obtain ⟨s', rfl, a, b⟩ := hs
      show ∃ e, bX4_give_3 (nI o) (nI k) (nI t) (nI t) s' = some (.inr e) ∧ _
      unfold bX4_give_3
      simp (disch := omega) only [nm, bnd_s, bnd_n, bn2_s, l0, l1, l2, l3, l4, l7, l8, l9, l16, l80, l88, l200, l300, pk_mul, nI_add, nI_sb, mx1, mn1, ax_nI, nI_cl, nI_lt', nI_le', nI_eq', if_pos, if_neg]
      exact ⟨_, rfl, s', rfl, a, b⟩)
    (nI f, σ) hft ⟨σ, rfl, fun _ _ => rfl, fun i => by rw [if_neg (by omega)]⟩ (by omega)
  refine ⟨σ', he, fun c a _ _ => h1 c a, h.kinds hw (fun i hi => by rw [h2, if_neg (by omega)]) (fun x p hx hp => ?_) rfl rfl rfl⟩
  rw [h2]
  show _ = nI (if x = o ∧ f ≤ p ∧ p < t then k else aK A x p)
  by_cases c : x = o ∧ f ≤ p ∧ p < t
  · rw [if_pos c, if_pos (by obtain ⟨rfl, _⟩ := c; omega)]
  · rw [if_neg c, if_neg (by omega)]
    exact h.2.2.2.2 x p hx hp
theorem giveM_eq (h : RepM (σ 0) A) (hw : WF A) {o k f t : Nat} (ho : o < 8) (hk3 : k ≤ 3) (hft : f ≤ t) (ht : t ≤ 300) : ∃ σ', fX4_give (nI o) (nI k) (nI f) (nI t) σ = some σ' ∧ frM σ σ' ∧ RepM (σ' 0) (giveK A o k f t) := by
  obtain ⟨σ', h1, h2, h3⟩ := giveLoopM h hw (k := k) ho hft ht
  have h4 := h3.cnt (hw.setK hk3) ho (j := 0) (by omega) 1
  refine ⟨put σ' 0 (upd (σ' 0) (16 + 9 * o + 4) (σ' 0 (16 + 9 * o + 4) + nI 1)), ?_, h2.tr frM.put, h4⟩
  unfold fX4_give
  simp (disch := omega) only [h1, moreM (σ := σ') (nI 1) ho (show 4 < 9 by omega), nm, bnd_s, bnd_n, bn2_s, l0, l1, l2, l3, l4, l7, l8, l9, l16, l80, l88, l200, l300, pk_mul, nI_add, nI_sb, mx1, mn1, ax_nI, nI_cl, nI_lt', nI_le', nI_eq', if_pos, if_neg]
theorem leaveM_eq (h : RepM (σ 0) A) (hw : WF A) {i : Nat} {r : Rq} (hr : (aR A)[i]? = some r) : ∃ σ', fX4_leaveRow (nI r.1) σ = some σ' ∧ frM σ σ' ∧ RepM (σ' 0) (quitA A r.1) := by
  have hlen := hw.len
  have h1 := h.1.2.2.2.2.2.2
  have w1 := (hw.2.2.1 r (List.mem_of_getElem? hr)).1
  have hi := (List.getElem?_eq_some_iff.mp hr).1
  have hp := (placeM_eq h hw w1).1 i r hr rfl
  obtain ⟨L, hL⟩ : ∃ L, (aR A).length = L + 1 := ⟨(aR A).length - 1, by omega⟩
  rw [hL] at h1 hi hlen
  obtain ⟨s2, hs2⟩ : ∃ s2, s2 = put σ 0 (upd (σ 0) 1 (nI L)) := ⟨_, rfl⟩
  have b0 : ∀ c, c ≠ 0 → s2 c = σ c := fun c hc => by rw [hs2, put_n _ _ hc]
  have b1 : ∀ j, s2 0 j = if j = 1 then nI L else σ 0 j := fun j => by rw [hs2, put_s]; rfl
  obtain ⟨e, he, σ', rfl, d0, d1⟩ := lp_rng (b := fun x : (Int32 × St) => bX4_leaveRow_18 x.1 x.2)
    (fun j s => ∃ s', s = (nI j, s') ∧ (∀ c, c ≠ 0 → s' c = σ c) ∧ ∀ m, s' 0 m = if m = 1 then nI L else if 8 + i ≤ m ∧ m < 8 + j then σ 0 (m + 1) else σ 0 m)
    (fun e => ∃ s', e = (nI L, s') ∧ (∀ c, c ≠ 0 → s' c = σ c) ∧ ∀ m, s' 0 m = if m = 1 then nI L else if 8 + i ≤ m ∧ m < 8 + L then σ 0 (m + 1) else σ 0 m) i L
    (fun j s hfj hj hs => by
      obtain ⟨s', rfl, a, b⟩ := hs
      show ∃ s'', bX4_leaveRow_18 (nI j) s' = some (.inl s'') ∧ _
      have e1 : s' 0 1 = nI L := by rw [b, if_pos rfl]
      unfold bX4_leaveRow_18
      simp (disch := omega) only [e1, nm, bnd_s, bnd_n, bn2_s, l0, l1, l2, l3, l4, l7, l8, l9, l16, l80, l88, l200, l300, pk_mul, nI_add, nI_sb, mx1, mn1, ax_nI, nI_cl, nI_lt', nI_le', nI_eq', if_pos, if_neg]
      refine ⟨_, rfl, _, rfl, fun c hc => by rw [put_n _ _ hc]; exact a c hc, fun m => ?_⟩
      rw [put_s]
      by_cases e : m = 8 + j
      · subst e
        rw [upd_s, if_neg (by omega), if_pos (by omega), b, if_neg (by omega), if_neg (by omega)]
      · rw [upd_n _ _ e, b]
        by_cases c : m = 1
        · rw [if_pos c, if_pos c]
        · rw [if_neg c, if_neg c]
          by_cases c2 : 8 + i ≤ m ∧ m < 8 + j
          · rw [if_pos c2, if_pos (by omega)]
          · rw [if_neg c2, if_neg (by omega)])
    (fun s hs => by
      obtain ⟨s', rfl, a, b⟩ := hs
      show ∃ e, bX4_leaveRow_18 (nI L) s' = some (.inr e) ∧ _
      have e1 : s' 0 1 = nI L := by rw [b, if_pos rfl]
      unfold bX4_leaveRow_18
      simp (disch := omega) only [e1, nm, bnd_s, bnd_n, bn2_s, l0, l1, l2, l3, l4, l7, l8, l9, l16, l80, l88, l200, l300, pk_mul, nI_add, nI_sb, mx1, mn1, ax_nI, nI_cl, nI_lt', nI_le', nI_eq', if_pos, if_neg]
      exact ⟨_, rfl, s', rfl, a, b⟩)
    (nI i, s2) (by omega) ⟨s2, rfl, b0, fun m => by
      rw [b1]
      by_cases c : m = 1
      · rw [if_pos c, if_pos c]
      · rw [if_neg c, if_neg c, if_neg (by omega)]⟩ (by omega)
  refine ⟨put σ' 0 (upd (σ' 0) (16 + 9 * r.1) (nI 0)), ?_, ?_, ?_⟩
  · unfold fX4_leaveRow
    rw [hp]
    have hl := layM (σ := σ') (nI 0) w1 (show 0 < 9 by omega)
    rw [Nat.add_zero] at hl
    have e1 : nI (L + 1) - nI 1 = nI L := by rw [nI_sb (by omega)]; rfl
    simp (disch := omega) only [bnd_s, l1, l0, ax_nI, nI_cl, h1, e1, nm]
    rw [← hs2, he]
    simp (disch := omega) only [hl, nm, bnd_s, bnd_n, bn2_s, l0, l1, l2, l3, l4, l7, l8, l9, l16, l80, l88, l200, l300, pk_mul, nI_add, nI_sb, mx1, mn1, ax_nI, nI_cl, nI_lt', nI_le', nI_eq', if_pos, if_neg]
  · intro c a _ _
    rw [put_n _ _ a]
    exact d0 c a
  · have hf : aR (quitA A r.1) = (aR A).eraseIdx i := filter_ne hw.2.1 hr rfl
    rw [put_s]
    have q : ∀ m, upd (σ' 0) (16 + 9 * r.1) (nI 0) m = if m = 16 + 9 * r.1 then nI 0 else if m = 1 then nI L else if 8 + i ≤ m ∧ m < 8 + L then σ 0 (m + 1) else σ 0 m := fun m => by
      unfold upd
      rw [d1]
    have hlq : (aR (quitA A r.1)).length = L := by rw [hf, List.length_eraseIdx_of_lt (by omega)]; omega
    obtain ⟨g0, g1, g2, g3, g4, g5, g6⟩ := h.1
    refine ⟨?_, ?_, ?_, ?_, ?_⟩
    · rw [hlq]
      simp only [q]
      rw [if_neg (by omega), if_neg (by omega), if_neg (by omega), if_neg (by omega), if_neg (by omega), if_neg (by omega), if_neg (by omega), if_neg (by omega), if_neg (by omega), if_neg (by omega), if_neg (by omega), if_neg (by omega), if_neg (by omega), if_neg (by omega), if_neg (by omega), if_neg (by omega), if_neg (by omega), if_neg (by omega), if_neg (by omega), if_pos trivial]
      exact ⟨g0, g1, g2, g3, g4, g5, rfl⟩
    · intro j r' hr'
      rw [hf, List.getElem?_eraseIdx] at hr'
      have old : ∃ j', (aR A)[j']? = some r' ∧ (j' = if j < i then j else j + 1) := by
        by_cases c : j < i
        · rw [if_pos c] at hr'; exact ⟨j, hr', by rw [if_pos c]⟩
        · rw [if_neg c] at hr'; exact ⟨j + 1, hr', by rw [if_neg c]⟩
      obtain ⟨j', hj', ej⟩ := old
      have hjl := (List.getElem?_eq_some_iff.mp hj').1
      have hjb : j ≤ j' := by
        by_cases c : j < i
        · rw [if_pos c] at ej; omega
        · rw [if_neg c] at ej; omega
      have w2 := (hw.2.2.1 r' (List.mem_of_getElem? hj')).1
      have hne : r'.1 ≠ r.1 := fun e => by
        have := row_inj hw hj' hr e
        by_cases c : j < i
        · rw [if_pos c] at ej; omega
        · rw [if_neg c] at ej; omega
      obtain ⟨k0, k1, k2, k3, k4⟩ := h.2.1 j' r' hj'
      refine ⟨?_, ?_, ?_, ?_, ?_⟩
      · rw [q, if_neg (by omega), if_neg (by omega)]
        by_cases c : j < i
        · rw [if_pos c] at ej; subst ej
          rw [if_neg (by omega)]; exact k0
        · rw [if_neg c] at ej; subst ej
          rw [if_pos (by omega)]; exact k0
      · rw [q, if_neg (by omega), if_neg (by omega), if_neg (by omega)]; exact k1
      · rw [q, if_neg (by omega), if_neg (by omega), if_neg (by omega)]; exact k2
      · rw [q, if_neg (by omega), if_neg (by omega), if_neg (by omega)]; exact k3
      · rw [q, if_neg (by omega), if_neg (by omega), if_neg (by omega)]; exact k4
    · intro x hx hno
      rw [q]
      by_cases c : x = r.1
      · subst c; rw [if_pos rfl]; rfl
      · rw [if_neg (by omega), if_neg (by omega), if_neg (by omega)]
        refine h.2.2.1 x hx fun r' hr' e => ?_
        exact hno r' (List.mem_filter.mpr ⟨hr', by simpa using fun z => c (e.symm.trans z)⟩) e
    · intro x hx
      rw [q, q, q, q, if_neg (by omega), if_neg (by omega), if_neg (by omega), if_neg (by omega), if_neg (by omega), if_neg (by omega), if_neg (by omega), if_neg (by omega), if_neg (by omega), if_neg (by omega), if_neg (by omega), if_neg (by omega)]
      exact h.2.2.2.1 x hx
    · intro x p hx hp
      rw [q, if_neg (by omega), if_neg (by omega), if_neg (by omega)]
      exact h.2.2.2.2 x p hx hp
theorem joinM_eq (h : RepM (σ 0) A) (hw : WF A) {o k f t : Nat} (ho : o < 8) (hno : ∀ r ∈ aR A, r.1 ≠ o) (hl8 : (aR A).length < 8) : ∃ σ', fX4_joinRow (nI o) (nI k) (nI f) (nI t) σ = some σ' ∧ frM σ σ' ∧ RepM (σ' 0) (joinA A o k f t) := by
  have h1 := h.1.2.2.2.2.2.2
  obtain ⟨a', ha'⟩ : ∃ a', a' = upd (upd (upd (upd (upd (upd (σ 0) (8 + (aR A).length) (nI o)) 1 (nI ((aR A).length + 1))) (16 + 9 * o + 0) (nI k)) (16 + 9 * o + 1) (nI f)) (16 + 9 * o + 2) (nI t)) (16 + 9 * o + 3) (nI 0) := ⟨_, rfl⟩
  have q : ∀ m, a' m = if m = 16 + 9 * o + 3 then nI 0 else if m = 16 + 9 * o + 2 then nI t else if m = 16 + 9 * o + 1 then nI f else if m = 16 + 9 * o then nI k else if m = 1 then nI ((aR A).length + 1) else if m = 8 + (aR A).length then nI o else σ 0 m := fun m => by rw [ha']; rfl
  refine ⟨put σ 0 a', ?_, frM.put, ?_⟩
  · unfold fX4_joinRow
    have pp : ∀ f g : Nat → Int32, put (put σ 0 f) 0 g = put σ 0 g := fun f g => by
      funext c
      unfold put
      by_cases e : c = 0
      · rw [if_pos e, if_pos e]
      · rw [if_neg e, if_neg e, if_neg e]
    have u1 : ∀ v, upd (σ 0) (8 + (aR A).length) v 1 = nI (aR A).length := fun v => by rw [upd_n _ _ (by omega), h1]
    simp (disch := omega) only [h1, put_s, u1, pp, layM _ ho (show 0 < 9 by omega), layM _ ho (show 1 < 9 by omega), layM _ ho (show 2 < 9 by omega), layM _ ho (show 3 < 9 by omega), nm, bnd_s, bnd_n, bn2_s, l0, l1, l2, l3, l4, l7, l8, l9, l16, l80, l88, l200, l300, pk_mul, nI_add, nI_sb, mx1, mn1, ax_nI, nI_cl, nI_lt', nI_le', nI_eq', if_pos, if_neg]
    rw [ha']
  · rw [put_s]
    obtain ⟨g0, g1, g2, g3, g4, g5, g6⟩ := h.1
    have hln : (aR (joinA A o k f t)).length = (aR A).length + 1 := by
      show (aR A ++ [(o, k, f, t, 0)]).length = _
      rw [List.length_append]; rfl
    refine ⟨?_, ?_, ?_, ?_, ?_⟩
    · rw [hln]
      simp only [q]
      have z : ∀ m, m < 8 → m ≠ 1 → (if m = 16 + 9 * o + 3 then nI 0 else if m = 16 + 9 * o + 2 then nI t else if m = 16 + 9 * o + 1 then nI f else if m = 16 + 9 * o then nI k else if m = 1 then nI ((aR A).length + 1) else if m = 8 + (aR A).length then nI o else σ 0 m) = σ 0 m := fun m a b => by
        rw [if_neg (by omega), if_neg (by omega), if_neg (by omega), if_neg (by omega), if_neg (by omega), if_neg (by omega)]
      rw [z 0 (by omega) (by omega), z 5 (by omega) (by omega), z 6 (by omega) (by omega), z 2 (by omega) (by omega), z 3 (by omega) (by omega), z 4 (by omega) (by omega), if_neg (by omega), if_neg (by omega), if_neg (by omega), if_neg (by omega), if_pos trivial]
      exact ⟨g0, g1, g2, g3, g4, g5, rfl⟩
    · intro j r' hr'
      have hr2 : (aR A ++ [(o, k, f, t, 0)])[j]? = some r' := hr'
      by_cases c : j < (aR A).length
      · rw [List.getElem?_append_left c] at hr2
        have w2 := (hw.2.2.1 r' (List.mem_of_getElem? hr2)).1
        have hne := hno r' (List.mem_of_getElem? hr2)
        obtain ⟨k0, k1, k2, k3, k4⟩ := h.2.1 j r' hr2
        refine ⟨?_, ?_, ?_, ?_, ?_⟩
        · rw [q, if_neg (by omega), if_neg (by omega), if_neg (by omega), if_neg (by omega), if_neg (by omega), if_neg (by omega)]; exact k0
        · rw [q, if_neg (by omega), if_neg (by omega), if_neg (by omega), if_neg (by omega), if_neg (by omega), if_neg (by omega)]; exact k1
        · rw [q, if_neg (by omega), if_neg (by omega), if_neg (by omega), if_neg (by omega), if_neg (by omega), if_neg (by omega)]; exact k2
        · rw [q, if_neg (by omega), if_neg (by omega), if_neg (by omega), if_neg (by omega), if_neg (by omega), if_neg (by omega)]; exact k3
        · rw [q, if_neg (by omega), if_neg (by omega), if_neg (by omega), if_neg (by omega), if_neg (by omega), if_neg (by omega)]; exact k4
      · rw [List.getElem?_append_right (by omega)] at hr2
        have hj0 : j - (aR A).length < 1 := (List.getElem?_eq_some_iff.mp hr2).1
        have hje : j = (aR A).length := by omega
        subst hje
        rw [Nat.sub_self] at hr2
        cases hr2
        refine ⟨?_, ?_, ?_, ?_, ?_⟩
        · rw [q, if_neg (by omega), if_neg (by omega), if_neg (by omega), if_neg (by omega), if_neg (by omega), if_pos rfl]
        · rw [q, if_neg (by omega), if_neg (by omega), if_neg (by omega), if_pos rfl]
        · rw [q, if_neg (by omega), if_neg (by omega), if_pos rfl]
        · rw [q, if_neg (by omega), if_pos rfl]
        · rw [q, if_pos rfl]; rfl
    · intro x hx hn2
      have hxo : x ≠ o := fun e => hn2 (o, k, f, t, 0) (List.mem_append_right _ (List.mem_singleton.mpr rfl)) e.symm
      rw [q, if_neg (by omega), if_neg (by omega), if_neg (by omega), if_neg (by omega), if_neg (by omega), if_neg (by omega)]
      exact h.2.2.1 x hx fun r hr => hn2 r (List.mem_append_left _ hr)
    · intro x hx
      have z : ∀ m, 16 + 9 * x + 4 ≤ m → m ≤ 16 + 9 * x + 7 → a' m = σ 0 m := fun m a b => by
        rw [q, if_neg (by omega), if_neg (by omega), if_neg (by omega), if_neg (by omega), if_neg (by omega), if_neg (by omega)]
      rw [z _ (by omega) (by omega), z _ (by omega) (by omega), z _ (by omega) (by omega), z _ (by omega) (by omega)]
      exact h.2.2.2.1 x hx
    · intro x p hx hp
      rw [q, if_neg (by omega), if_neg (by omega), if_neg (by omega), if_neg (by omega), if_neg (by omega), if_neg (by omega)]
      exact h.2.2.2.2 x p hx hp
theorem waitsM_eq (h : RepM (σ 0) A) (hw : WF A) {o : Nat} (ho : o < 8) : (∀ (i : Nat) (r : Rq), (aR A)[i]? = some r → r.1 = o → ∃ z, fX4_waitsForNow (nI o) σ = some z ∧ isM z (wts A i)) ∧ ((∀ r ∈ aR A, r.1 ≠ o) → fX4_waitsForNow (nI o) σ = some (nI 0)) := by
  have hlen := hw.len
  constructor
  · intro i r hr he
    subst he
    obtain ⟨w1, w2, w3, w4, w5⟩ := hw.2.2.1 r (List.mem_of_getElem? hr)
    obtain ⟨g1, g2, g3, g4, -⟩ := h.2.1 i r hr
    have hi := (List.getElem?_eq_some_iff.mp hr).1
    have q1 : fX4_of (nI r.1) (nI 1) σ = some (nI r.2.2.1) := (ofM_eq w1 (by omega)).trans (by rw [g3])
    have q2 : fX4_of (nI r.1) (nI 2) σ = some (nI r.2.2.2.1) := (ofM_eq w1 (by omega)).trans (by rw [g4])
    have q0 : fX4_of (nI r.1) (nI 0) σ = some (nI r.2.1) := (ofM_eq w1 (by omega)).trans (by rw [Nat.add_zero, g2])
    obtain ⟨z, hz, hm⟩ := stoppedIn_eq h hw (o := r.1) (k := r.2.1) (f := r.2.2.1) (t := r.2.2.2.1) (n := i) w1 w2 w3 (by omega) w5 (by omega)
    refine ⟨z, ?_, isM_congr hm fun x hx => ⟨fun q => ⟨r, hr, q⟩, fun ⟨r', hr', q⟩ => by rw [hr] at hr'; cases hr'; exact q⟩⟩
    unfold fX4_waitsForNow
    simp (disch := omega) only [(placeM_eq h hw w1).1 i r hr rfl, q0, q1, q2, hz, nm, bnd_s, bnd_n, bn2_s, l0, l1, l2, l3, l4, l7, l8, l9, l16, l80, l88, l200, l300, pk_mul, nI_add, nI_sb, mx1, mn1, ax_nI, nI_cl, nI_lt', nI_le', nI_eq', if_pos, if_neg]
  · intro hno
    unfold fX4_waitsForNow
    rw [(placeM_eq h hw ho).2 hno]
    rfl
end MC
