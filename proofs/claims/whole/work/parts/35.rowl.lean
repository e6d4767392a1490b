/-! The class: its small changes -/
section LC
variable {σ : St} {A : AS}
theorem placeL_eq (h : RepL σ A) (hw : WF A) {o : Nat} (ho : o < 8) : (∀ (i : Nat) (r : Rq), (aR A)[i]? = some r → r.1 = o → fX1_placeInRow (nI o) σ = some (nI i)) ∧ ((∀ r ∈ aR A, r.1 ≠ o) → fX1_placeInRow (nI o) σ = some (-1)) := by
  have hlen := hw.len
  have h1 := h.1.2.2.2.2.2.2
  constructor
  · intro i r hr he
    have hil := (List.getElem?_eq_some_iff.mp hr).1
    have w1 := (hw.2.2.1 r (List.mem_of_getElem? hr)).1
    obtain ⟨e, he', rfl⟩ := lp_rng (b := fun t : Int32 => bX1_placeInRow_2 (nI o) σ t) (fun j s => s = nI j) (fun e => e = .inr (nI i)) 0 i
      (fun j s _ hj hs => by
        subst hs
        obtain ⟨r', hr'⟩ : ∃ r, (aR A)[j]? = some r := ⟨_, List.getElem?_eq_getElem (by omega)⟩
        have g1 := (h.2.1 j r' hr').1
        have w2 := (hw.2.2.1 r' (List.mem_of_getElem? hr')).1
        have hne : r'.1 ≠ o := fun q => by have := row_inj hw hr' hr (q.trans he.symm); omega
        unfold bX1_placeInRow_2
        simp (disch := omega) only [h1, g1, nm, bnd_s, bnd_n, bn2_s, l0, l1, l2, l3, l4, l7, l8, l9, l16, l80, l88, l200, l300, pk_mul, nI_add, nI_sb, mx1, mn1, ax_nI, nI_cl, nI_lt', nI_le', nI_eq', if_pos, if_neg]
        exact ⟨_, rfl, rfl⟩)
      (fun s hs => by
        subst hs
        have g1 := (h.2.1 i r hr).1
        unfold bX1_placeInRow_2
        simp (disch := omega) only [h1, g1, nm, bnd_s, bnd_n, bn2_s, l0, l1, l2, l3, l4, l7, l8, l9, l16, l80, l88, l200, l300, pk_mul, nI_add, nI_sb, mx1, mn1, ax_nI, nI_cl, nI_lt', nI_le', nI_eq', if_pos, if_neg]
        exact ⟨_, rfl, rfl⟩) (nI 0) (by omega) rfl (by omega)
    unfold fX1_placeInRow
    simp (disch := omega) only [he', nm, bnd_s, bnd_n, bn2_s, l0, l1, l2, l3, l4, l7, l8, l9, l16, l80, l88, l200, l300, pk_mul, nI_add, nI_sb, mx1, mn1, ax_nI, nI_cl, nI_lt', nI_le', nI_eq', if_pos, if_neg]
    rfl
  · intro hno
    obtain ⟨e, he', rfl⟩ := lp_rng (b := fun t : Int32 => bX1_placeInRow_2 (nI o) σ t) (fun j s => s = nI j) (fun e => e = .inl (nI (aR A).length)) 0 (aR A).length
      (fun j s _ hj hs => by
        subst hs
        obtain ⟨r', hr'⟩ : ∃ r, (aR A)[j]? = some r := ⟨_, List.getElem?_eq_getElem (by omega)⟩
        have g1 := (h.2.1 j r' hr').1
        have w2 := (hw.2.2.1 r' (List.mem_of_getElem? hr')).1
        have hne : r'.1 ≠ o := hno r' (List.mem_of_getElem? hr')
        unfold bX1_placeInRow_2
        simp (disch := omega) only [h1, g1, nm, bnd_s, bnd_n, bn2_s, l0, l1, l2, l3, l4, l7, l8, l9, l16, l80, l88, l200, l300, pk_mul, nI_add, nI_sb, mx1, mn1, ax_nI, nI_cl, nI_lt', nI_le', nI_eq', if_pos, if_neg]
        exact ⟨_, rfl, rfl⟩)
      (fun s hs => by
        subst hs
        unfold bX1_placeInRow_2
        simp (disch := omega) only [h1, nm, bnd_s, bnd_n, bn2_s, l0, l1, l2, l3, l4, l7, l8, l9, l16, l80, l88, l200, l300, pk_mul, nI_add, nI_sb, mx1, mn1, ax_nI, nI_cl, nI_lt', nI_le', nI_eq', if_pos, if_neg]
        exact ⟨_, rfl, rfl⟩) (nI 0) (by omega) rfl (by omega)
    unfold fX1_placeInRow
    simp (disch := omega) only [he', nm, bnd_s, bnd_n, bn2_s, l0, l1, l2, l3, l4, l7, l8, l9, l16, l80, l88, l200, l300, pk_mul, nI_add, nI_sb, mx1, mn1, ax_nI, nI_cl, nI_lt', nI_le', nI_eq', if_pos, if_neg]
    rfl
theorem el_inl {L R β : Type} {s : L} {k : L → Option β} {kr : R → Option β} : el (.inl s) k kr = k s := rfl
theorem el_inr {L R β : Type} {r : R} {k : L → Option β} {kr : R → Option β} : el (.inr r) k kr = kr r := rfl
/-- an owner's kind is laid at a place -/
theorem lockL_eq (h : RepL σ A) {o p k : Nat} (ho : o < 8) (hp : p < 300) (hk3 : k ≤ 3) : ∃ σ', fX1_lock (nI o) (nI p) (nI k) σ = some σ' ∧ RepL σ' (setK A o p (p + 1) k) := by
  obtain ⟨e1, he1, s1, rfl, d1⟩ := lp_rng (b := fun x : (Int32 × St) => bX1_lock_8 (nI p) (nI k) (nI 1 <<< (nI o &&& 31)) x.1 x.2)
    (fun j s => ∃ s', s = (nI j, s') ∧ ∀ c i, s' c i = if i = p ∧ 17 ≤ c ∧ c < 16 + j then σ c i ||| (nI 1 <<< (nI o &&& 31)) else σ c i)
    (fun e => ∃ s', e = (nI (k + 1), s') ∧ ∀ c i, s' c i = if i = p ∧ 17 ≤ c ∧ c < 16 + (k + 1) then σ c i ||| (nI 1 <<< (nI o &&& 31)) else σ c i) 1 (k + 1)
    (fun j s h1j hj hs => by
      obtain ⟨s', rfl, b⟩ := hs
      show ∃ s'', bX1_lock_8 (nI p) (nI k) (nI 1 <<< (nI o &&& 31)) (nI j) s' = some (.inl s'') ∧ _
      unfold bX1_lock_8
      simp (disch := omega) only [nm, bnd_s, bnd_n, bn2_s, l0, l1, l2, l3, l4, l7, l8, l9, l16, l80, l88, l200, l300, pk_mul, nI_add, nI_sb, mx1, mn1, ax_nI, nI_cl, nI_lt', nI_le', nI_eq', if_pos, if_neg]
      refine ⟨_, rfl, _, rfl, fun c i => ?_⟩
      by_cases e : c = 16 + j
      · subst e
        rw [put_s]
        by_cases e2 : i = p
        · subst e2
          rw [upd_s, if_pos (by omega), b, if_neg (by omega)]
        · rw [upd_n _ _ e2, b, if_neg (by omega), if_neg (by omega)]
      · rw [put_n _ _ e, b]
        by_cases c2 : i = p ∧ 17 ≤ c ∧ c < 16 + j
        · rw [if_pos c2, if_pos (by omega)]
        · rw [if_neg c2, if_neg (by omega)])
    (fun s hs => by
      obtain ⟨s', rfl, b⟩ := hs
      show ∃ e, bX1_lock_8 (nI p) (nI k) (nI 1 <<< (nI o &&& 31)) (nI (k + 1)) s' = some (.inr e) ∧ _
      unfold bX1_lock_8
      simp (disch := omega) only [nm, bnd_s, bnd_n, bn2_s, l0, l1, l2, l3, l4, l7, l8, l9, l16, l80, l88, l200, l300, pk_mul, nI_add, nI_sb, mx1, mn1, ax_nI, nI_cl, nI_lt', nI_le', nI_eq', if_pos, if_neg]
      exact ⟨_, rfl, s', rfl, b⟩)
    (nI 1, σ) (by omega) ⟨σ, rfl, fun c i => by rw [if_neg (by omega)]⟩ (by omega)
  obtain ⟨e2, he2, s2, rfl, d2⟩ := lp_rng (b := fun x : (Int32 × St) => bX1_lock_39 (nI p) (nI 1 <<< (nI o &&& 31)) x.1 x.2)
    (fun j s => ∃ s', s = (nI j, s') ∧ ∀ c i, s' c i = if i = p ∧ 16 + (k + 1) ≤ c ∧ c < 16 + j then s1 c i &&& ((nI 1 <<< (nI o &&& 31)) ^^^ (-1 : Int32)) else s1 c i)
    (fun e => ∃ s', e = (nI 4, s') ∧ ∀ c i, s' c i = if i = p ∧ 16 + (k + 1) ≤ c ∧ c < 16 + 4 then s1 c i &&& ((nI 1 <<< (nI o &&& 31)) ^^^ (-1 : Int32)) else s1 c i) (k + 1) 4
    (fun j s h1j hj hs => by
      obtain ⟨s', rfl, b⟩ := hs
      show ∃ s'', bX1_lock_39 (nI p) (nI 1 <<< (nI o &&& 31)) (nI j) s' = some (.inl s'') ∧ _
      unfold bX1_lock_39
      simp (disch := omega) only [nm, l3, nI_lt', ax_nI, nI_cl, if_neg]
      refine ⟨_, rfl, _, by rw [nI_1], fun c i => ?_⟩
      by_cases e : c = 16 + j
      · subst e
        rw [put_s]
        by_cases e2 : i = p
        · subst e2
          rw [upd_s, if_pos (by omega), b, if_neg (by omega)]
        · rw [upd_n _ _ e2, b, if_neg (by omega), if_neg (by omega)]
      · rw [put_n _ _ e, b]
        by_cases c2 : i = p ∧ 16 + (k + 1) ≤ c ∧ c < 16 + j
        · rw [if_pos c2, if_pos (by omega)]
        · rw [if_neg c2, if_neg (by omega)])
    (fun s hs => by
      obtain ⟨s', rfl, b⟩ := hs
      show ∃ e, bX1_lock_39 (nI p) (nI 1 <<< (nI o &&& 31)) (nI 4) s' = some (.inr e) ∧ _
      unfold bX1_lock_39
      simp (disch := omega) only [nm, bnd_s, bnd_n, bn2_s, l0, l1, l2, l3, l4, l7, l8, l9, l16, l80, l88, l200, l300, pk_mul, nI_add, nI_sb, mx1, mn1, ax_nI, nI_cl, nI_lt', nI_le', nI_eq', if_pos, if_neg]
      exact ⟨_, rfl, s', rfl, b⟩)
    (nI (k + 1), s1) (by omega) ⟨s1, rfl, fun c i => by rw [if_neg (by omega)]⟩ (by omega)
  have low : ∀ c i, c < 17 → s2 c i = σ c i := fun c i hc => by rw [d2, if_neg (by omega), d1, if_neg (by omega)]
  refine ⟨s2, ?_, ?_, ?_, ?_, ?_, ?_⟩
  · unfold fX1_lock
    simp (disch := omega) only [he1, he2, nm, bnd_s, bnd_n, bn2_s, l0, l1, l2, l3, l4, l7, l8, l9, l16, l80, l88, l200, l300, pk_mul, nI_add, nI_sb, mx1, mn1, ax_nI, nI_cl, nI_lt', nI_le', nI_eq', if_pos, if_neg]
  · rw [low _ _ (by omega), low _ _ (by omega), low _ _ (by omega), low _ _ (by omega), low _ _ (by omega), low _ _ (by omega), low _ _ (by omega)]
    exact h.1
  · intro i r hr
    rw [low _ _ (by omega), low _ _ (by omega), low _ _ (by omega), low _ _ (by omega), low _ _ (by omega)]
    exact h.2.1 i r hr
  · intro x hx hno
    rw [low _ _ (by omega)]
    exact h.2.2.1 x hx hno
  · intro x hx
    rw [low _ _ (by omega), low _ _ (by omega), low _ _ (by omega), low _ _ (by omega)]
    exact h.2.2.2.1 x hx
  · intro c i hc hc3 hi
    have old := h.2.2.2.2 c i hc hc3 hi
    show isM _ (fun x => x < 8 ∧ c ≤ (if x = o ∧ p ≤ i ∧ i < p + 1 then k else aK A x i))
    by_cases e : i = p
    · subst e
      by_cases e2 : c ≤ k
      · rw [d2, if_neg (by omega), d1, if_pos (by omega)]
        refine isM_congr (isM_or old (isM_1 ho)) fun x hx => ?_
        by_cases e3 : x = o
        · subst e3
          rw [if_pos (by omega)]
          exact ⟨fun _ => ⟨ho, e2⟩, fun _ => Or.inr rfl⟩
        · rw [if_neg (by omega)]
          exact ⟨fun q => q.elim id fun q => absurd q e3, Or.inl⟩
      · rw [d2, if_pos (by omega), d1, if_neg (by omega)]
        refine isM_congr (isM_andnot ho old) fun x hx => ?_
        by_cases e3 : x = o
        · subst e3
          rw [if_pos (by omega)]
          exact ⟨fun q => absurd rfl q.2, fun q => by omega⟩
        · rw [if_neg (by omega)]
          exact ⟨fun q => q.1, fun q => ⟨q, e3⟩⟩
    · rw [d2, if_neg (by omega), d1, if_neg (by omega)]
      refine isM_congr old fun x hx => ?_
      rw [if_neg (by omega)]
theorem setK_s (A : AS) (o f j k : Nat) (h : f ≤ j) : setK (setK A o f j k) o j (j + 1) k = setK A o f (j + 1) k := by
  unfold setK
  refine Prod.ext ?_ rfl
  funext x p
  show (if x = o ∧ j ≤ p ∧ p < j + 1 then k else if x = o ∧ f ≤ p ∧ p < j then k else aK A x p) = if x = o ∧ f ≤ p ∧ p < j + 1 then k else aK A x p
  by_cases c : x = o ∧ j ≤ p ∧ p < j + 1
  · rw [if_pos c, if_pos (by omega)]
  · rw [if_neg c]
    by_cases c2 : x = o ∧ f ≤ p ∧ p < j
    · rw [if_pos c2, if_pos (by omega)]
    · rw [if_neg c2, if_neg (by omega)]
theorem setK_0 (A : AS) (o f k : Nat) : setK A o f f k = A := by
  unfold setK
  refine Prod.ext ?_ rfl
  funext x p
  show (if x = o ∧ f ≤ p ∧ p < f then k else aK A x p) = aK A x p
  rw [if_neg (by omega)]
/-- one of an owner's counters -/
theorem RepL.ctr (h : RepL σ A) {o j : Nat} (ho : o < 8) (hj : j < 4) (v : Int32) : RepL (put σ (9 + j) (upd (σ (9 + j)) o v)) (aK A, aR A, fun x w => if x = o ∧ w = j then v else aC A x w, aG A) := by
  refine ⟨?_, ?_, ?_, ?_, ?_⟩
  · rw [put_n _ _ (by omega), put_n _ _ (by omega), put_n _ _ (by omega), put_n _ _ (by omega), put_n _ _ (by omega)]
    exact h.1
  · intro i r hr
    rw [put_n _ _ (by omega), put_n _ _ (by omega), put_n _ _ (by omega), put_n _ _ (by omega), put_n _ _ (by omega)]
    exact h.2.1 i r hr
  · intro x hx hno
    rw [put_n _ _ (by omega)]
    exact h.2.2.1 x hx hno
  · intro x hx
    have g := h.2.2.2.1 x hx
    have key : ∀ i, i < 4 → σ (9 + i) x = aC A x i → put σ (9 + j) (upd (σ (9 + j)) o v) (9 + i) x = if x = o ∧ i = j then v else aC A x i := by
      intro i hi hg
      by_cases c : i = j
      · subst c
        rw [put_s]
        by_cases c2 : x = o
        · subst c2; rw [upd_s, if_pos ⟨rfl, rfl⟩]
        · rw [upd_n _ _ c2, if_neg (by omega), hg]
      · rw [put_n _ _ (by omega), if_neg (by omega), hg]
    exact ⟨key 0 (by omega) g.1, key 1 (by omega) g.2.1, key 2 (by omega) g.2.2.1, key 3 (by omega) g.2.2.2⟩
  · intro k p hk hk3 hp
    rw [put_n _ _ (by omega)]
    exact h.2.2.2.2 k p hk hk3 hp
theorem RepL.cnt (h : RepL σ A) {o j : Nat} (ho : o < 8) (hj : j < 4) (n : Int32) : RepL (put σ (9 + j) (upd (σ (9 + j)) o (σ (9 + j) o + n))) (cntA A o j n) := by
  have g : σ (9 + j) o = aC A o j := by
    have g := h.2.2.2.1 o ho
    exact lt3 (P := fun j => σ (9 + j) o = aC A o j) hj g.1 g.2.1 g.2.2.1 g.2.2.2
  have := h.ctr ho hj (aC A o j + n)
  rw [g]
  have e : (fun x w => if x = o ∧ w = j then aC A o j + n else aC A x w) = (fun x w => if x = o ∧ w = j then aC A x w + n else aC A x w) := by
    funext x w
    by_cases c : x = o ∧ w = j
    · rw [if_pos c, if_pos c, c.1, c.2]
    · rw [if_neg c, if_neg c]
  rw [e] at this
  exact this
theorem RepL.long (h : RepL σ A) {o : Nat} (ho : o < 8) (w : Int32) : RepL (put σ 12 (upd (σ 12) o (if aC A o 3 < w then w else aC A o 3))) (longA A o w) := by
  have := h.ctr ho (j := 3) (by omega) (if aC A o 3 < w then w else aC A o 3)
  have e : (fun x j => if x = o ∧ j = 3 then (if aC A o 3 < w then w else aC A o 3) else aC A x j) = (fun x j => if x = o ∧ j = 3 then (if aC A x j < w then w else aC A x j) else aC A x j) := by
    funext x j
    by_cases c : x = o ∧ j = 3
    · rw [if_pos c, if_pos c, c.1, c.2]
    · rw [if_neg c, if_neg c]
  rw [e] at this
  exact this
theorem giveL_eq (h : RepL σ A) {o k f t : Nat} (ho : o < 8) (hk3 : k ≤ 3) (hft : f ≤ t) (ht : t ≤ 300) : ∃ σ', fX1_give (nI o) (nI k) (nI f) (nI t) σ = some σ' ∧ RepL σ' (giveK A o k f t) := by
  obtain ⟨e, he, σ', rfl, h2⟩ := lp_rng (b := fun x : (Int32 × St) => bX1_give_3 (nI o) (nI k) (nI t) x.1 x.2)
    (fun j s => ∃ s', s = (nI j, s') ∧ RepL s' (setK A o f j k))
    (fun e => ∃ s', e = (nI t, s') ∧ RepL s' (setK A o f t k)) f t
    (fun j s hfj hj hs => by
      obtain ⟨s', rfl, b⟩ := hs
      show ∃ s'', bX1_give_3 (nI o) (nI k) (nI t) (nI j) s' = some (.inl s'') ∧ _
      obtain ⟨s2, e2, r2⟩ := lockL_eq b (p := j) ho (by omega) hk3
      rw [setK_s _ _ _ _ _ hfj] at r2
      unfold bX1_give_3
      simp (disch := omega) only [e2, nm, bnd_s, bnd_n, bn2_s, l0, l1, l2, l3, l4, l7, l8, l9, l16, l80, l88, l200, l300, pk_mul, nI_add, nI_sb, mx1, mn1, ax_nI, nI_cl, nI_lt', nI_le', nI_eq', if_pos, if_neg]
      exact ⟨_, rfl, s2, rfl, r2⟩)
    (fun s hs => by
      obtain ⟨s', rfl, b⟩ := hs
      show ∃ e, bX1_give_3 (nI o) (nI k) (nI t) (nI t) s' = some (.inr e) ∧ _
      unfold bX1_give_3
      simp (disch := omega) only [nm, bnd_s, bnd_n, bn2_s, l0, l1, l2, l3, l4, l7, l8, l9, l16, l80, l88, l200, l300, pk_mul, nI_add, nI_sb, mx1, mn1, ax_nI, nI_cl, nI_lt', nI_le', nI_eq', if_pos, if_neg]
      exact ⟨_, rfl, s', rfl, b⟩)
    (nI f, σ) hft ⟨σ, rfl, by rw [setK_0]; exact h⟩ (by omega)
  have := h2.cnt ho (j := 0) (by omega) 1
  refine ⟨_, ?_, this⟩
  unfold fX1_give
  simp (disch := omega) only [he, nm, bnd_s, bnd_n, bn2_s, l0, l1, l2, l3, l4, l7, l8, l9, l16, l80, l88, l200, l300, pk_mul, nI_add, nI_sb, mx1, mn1, ax_nI, nI_cl, nI_lt', nI_le', nI_eq', if_pos, if_neg]
theorem kindAt_eq (h : RepL σ A) (hw : WF A) {o p : Nat} (ho : o < 8) (hp : p < 300) : fX1_kindAt (nI o) (nI p) σ = some (nI (aK A o p)) := by
  have b1 := bitL h ho (k := 1) (by omega) (by omega) hp
  have b2 := bitL h ho (k := 2) (by omega) (by omega) hp
  have b3 := bitL h ho (k := 3) (by omega) (by omega) hp
  have hK := hw.1 o p ho hp
  unfold fX1_kindAt
  rcases (show aK A o p = 0 ∨ aK A o p = 1 ∨ aK A o p = 2 ∨ aK A o p = 3 by omega) with e | e | e | e
  · simp (disch := omega) only [b1, b2, b3, e, nm, bnd_s, bnd_n, bn2_s, l0, l1, l2, l3, l4, l7, l8, l9, l16, l80, l88, l200, l300, pk_mul, nI_add, nI_sb, mx1, mn1, ax_nI, nI_cl, nI_lt', nI_le', nI_eq', if_pos, if_neg]
  · simp (disch := omega) only [b1, b2, b3, e, nm, bnd_s, bnd_n, bn2_s, l0, l1, l2, l3, l4, l7, l8, l9, l16, l80, l88, l200, l300, pk_mul, nI_add, nI_sb, mx1, mn1, ax_nI, nI_cl, nI_lt', nI_le', nI_eq', if_pos, if_neg]
  · simp (disch := omega) only [b1, b2, b3, e, nm, bnd_s, bnd_n, bn2_s, l0, l1, l2, l3, l4, l7, l8, l9, l16, l80, l88, l200, l300, pk_mul, nI_add, nI_sb, mx1, mn1, ax_nI, nI_cl, nI_lt', nI_le', nI_eq', if_pos, if_neg]
  · simp (disch := omega) only [b1, b2, b3, e, nm, bnd_s, bnd_n, bn2_s, l0, l1, l2, l3, l4, l7, l8, l9, l16, l80, l88, l200, l300, pk_mul, nI_add, nI_sb, mx1, mn1, ax_nI, nI_cl, nI_lt', nI_le', nI_eq', if_pos, if_neg]
/-- how many places of a range are not free for an owner -/
def nfr (A : AS) (o f t : Nat) : Nat := cnt (fun p => f ≤ p ∧ aK A o p ≠ 0) t
theorem freeRange_eq (h : RepL σ A) (hw : WF A) {o f t : Nat} (ho : o < 8) (hft : f ≤ t) (ht : t ≤ 300) : ∃ σ', fX1_freeRange (nI o) (nI f) (nI t) σ = some (nI (nfr A o f t), σ') ∧ RepL σ' (setK A o f t 0) := by
  obtain ⟨e, he, σ', rfl, h2⟩ := lp_rng (b := fun x : (Int32 × Int32 × St) => bX1_freeRange_6 (nI o) (nI t) x.1 x.2.1 x.2.2)
    (fun j s => ∃ s', s = (nI (nfr A o f j), nI j, s') ∧ RepL s' (setK A o f j 0))
    (fun e => ∃ s', e = (nI (nfr A o f t), nI t, s') ∧ RepL s' (setK A o f t 0)) f t
    (fun j s hfj hj hs => by
      obtain ⟨s', rfl, b⟩ := hs
      show ∃ s'', bX1_freeRange_6 (nI o) (nI t) (nI (nfr A o f j)) (nI j) s' = some (.inl s'') ∧ _
      have hn := cnt_le (fun p => f ≤ p ∧ aK A o p ≠ 0) j
      have hn' : nfr A o f j ≤ j := hn
      have hk := kindAt_eq b (hw.setK (by omega)) (o := o) (p := j) ho (by omega)
      have hkj : aK (setK A o f j 0) o j = aK A o j := by
        show (if o = o ∧ f ≤ j ∧ j < j then 0 else aK A o j) = _
        rw [if_neg (by omega)]
      rw [hkj] at hk
      have hK3 := hw.1 o j ho (by omega)
      unfold bX1_freeRange_6
      by_cases c : aK A o j = 0
      · have hc : nfr A o f (j + 1) = nfr A o f j := cnt_ns (P := fun p => f ≤ p ∧ aK A o p ≠ 0) fun q => q.2 c
        simp (disch := omega) only [hk, c, nm, bnd_s, bnd_n, bn2_s, l0, l1, l2, l3, l4, l7, l8, l9, l16, l80, l88, l200, l300, pk_mul, nI_add, nI_sb, mx1, mn1, ax_nI, nI_cl, nI_lt', nI_le', nI_eq', if_pos, if_neg]
        refine ⟨_, rfl, s', by rw [hc], ?_⟩
        have : setK A o f (j + 1) 0 = setK A o f j 0 := by
          unfold setK
          refine Prod.ext ?_ rfl
          funext x p
          show (if x = o ∧ f ≤ p ∧ p < j + 1 then 0 else aK A x p) = if x = o ∧ f ≤ p ∧ p < j then 0 else aK A x p
          by_cases c2 : x = o ∧ p = j
          · obtain ⟨rfl, rfl⟩ := c2
            rw [if_pos (by omega), if_neg (by omega), c]
          · by_cases c3 : x = o ∧ f ≤ p ∧ p < j
            · rw [if_pos c3, if_pos (by omega)]
            · rw [if_neg c3, if_neg (by omega)]
        rw [this]
        exact b
      · obtain ⟨s2, e2, r2⟩ := lockL_eq b (p := j) (k := 0) ho (by omega) (by omega)
        rw [setK_s _ _ _ _ _ hfj] at r2
        have hc : nfr A o f (j + 1) = nfr A o f j + 1 := cnt_s (P := fun p => f ≤ p ∧ aK A o p ≠ 0) ⟨hfj, c⟩
        simp (disch := omega) only [hk, e2, nm, bnd_s, bnd_n, bn2_s, l0, l1, l2, l3, l4, l7, l8, l9, l16, l80, l88, l200, l300, pk_mul, nI_add, nI_sb, mx1, mn1, ax_nI, nI_cl, nI_lt', nI_le', nI_eq', if_pos, if_neg]
        exact ⟨_, rfl, s2, by rw [hc], r2⟩)
    (fun s hs => by
      obtain ⟨s', rfl, b⟩ := hs
      show ∃ e, bX1_freeRange_6 (nI o) (nI t) (nI (nfr A o f t)) (nI t) s' = some (.inr e) ∧ _
      unfold bX1_freeRange_6
      simp (disch := omega) only [nm, bnd_s, bnd_n, bn2_s, l0, l1, l2, l3, l4, l7, l8, l9, l16, l80, l88, l200, l300, pk_mul, nI_add, nI_sb, mx1, mn1, ax_nI, nI_cl, nI_lt', nI_le', nI_eq', if_pos, if_neg]
      exact ⟨_, rfl, s', rfl, b⟩)
    (nI 0, nI f, σ) hft ⟨σ, by rw [show nfr A o f f = 0 from cnt_z (P := fun p => f ≤ p ∧ aK A o p ≠ 0) fun p hp q => by omega], by rw [setK_0]; exact h⟩ (by omega)
  refine ⟨σ', ?_, h2⟩
  unfold fX1_freeRange
  simp (disch := omega) only [he, nm, bnd_s, bnd_n, bn2_s, l0, l1, l2, l3, l4, l7, l8, l9, l16, l80, l88, l200, l300, pk_mul, nI_add, nI_sb, mx1, mn1, ax_nI, nI_cl, nI_lt', nI_le', nI_eq', if_pos, if_neg]
end LC
