/-! Who waits for whom, and the rings -/
def edg (A : AS) (x y : Nat) : Prop := ∃ i r, (aR A)[i]? = some r ∧ r.1 = x ∧ wts A i y
/-- from x, in one step or more, to y -/
def rch (A : AS) (x y : Nat) : Prop := Relation.TransGen (edg A) x y
/-- the ring of o -/
def rg (A : AS) (o x : Nat) : Prop := rch A o x ∧ rch A x o
theorem edg_lt {A : AS} (hw : WF A) {x y : Nat} (h : edg A x y) : x < 8 ∧ y < 8 := by
  obtain ⟨i, r, hr, rfl, r', hr', p, a, b, c, d, e⟩ := h
  exact ⟨(hw.2.2.1 r (List.mem_of_getElem? hr)).1, d⟩
theorem rch_lt {A : AS} (hw : WF A) {x y : Nat} (h : rch A x y) : x < 8 ∧ y < 8 := by
  induction h with
  | single h => exact edg_lt hw h
  | tail _ h ih => exact ⟨ih.1, (edg_lt hw h).2⟩
theorem rch_tr {A : AS} {x y z : Nat} (h : rch A x y) (h' : rch A y z) : rch A x z := by
  induction h' with
  | single h1 => exact Relation.TransGen.tail h h1
  | tail _ h1 ih => exact Relation.TransGen.tail ih h1
/-- paths through those below j -/
def wp (A : AS) : Nat → Nat → Nat → Prop
  | 0, x, y => edg A x y
  | j + 1, x, y => wp A j x y ∨ (wp A j x j ∧ wp A j j y)
theorem wp_sound {A : AS} : ∀ j x y, wp A j x y → rch A x y
  | 0, x, y, h => Relation.TransGen.single h
  | j + 1, x, y, h => by
    rcases h with h | ⟨h, h'⟩
    · exact wp_sound j x y h
    · exact rch_tr (wp_sound j x j h) (wp_sound j j y h')
theorem wp_tr {A : AS} : ∀ j x y z, z < j → wp A j x z → wp A j z y → wp A j x y
  | j + 1, x, y, z, hz, h1, h2 => by
    by_cases e : z = j
    · subst e
      have a : wp A z x z := h1.elim id fun q => q.1
      have b : wp A z z y := h2.elim id fun q => q.2
      exact Or.inr ⟨a, b⟩
    · have hz' : z < j := by omega
      rcases h1 with h1 | ⟨a1, b1⟩ <;> rcases h2 with h2 | ⟨a2, b2⟩
      · exact Or.inl (wp_tr j x y z hz' h1 h2)
      · exact Or.inr ⟨wp_tr j x j z hz' h1 a2, b2⟩
      · exact Or.inr ⟨a1, wp_tr j j y z hz' b1 h2⟩
      · exact Or.inr ⟨a1, b2⟩
theorem wp_edg {A : AS} : ∀ j x y, edg A x y → wp A j x y
  | 0, _, _, h => h
  | j + 1, x, y, h => Or.inl (wp_edg j x y h)
theorem wp_iff {A : AS} (hw : WF A) {x y : Nat} : wp A 8 x y ↔ rch A x y := by
  refine ⟨wp_sound 8 x y, fun h => ?_⟩
  induction h with
  | single h => exact wp_edg 8 _ _ h
  | tail _ h ih => exact wp_tr 8 _ _ _ (edg_lt hw h).1 ih (wp_edg 8 _ _ h)
/-- paths of at most n + 1 steps -/
def pw (A : AS) : Nat → Nat → Nat → Prop
  | 0, x, y => edg A x y
  | n + 1, x, y => pw A n x y ∨ ∃ z, pw A n x z ∧ edg A z y
theorem pw_mono {A : AS} {x y : Nat} : ∀ n m, n ≤ m → pw A n x y → pw A m x y
  | n, m, h, q => by
    induction m with
    | zero => obtain rfl : n = 0 := by omega
              exact q
    | succ m ih =>
      by_cases e : n = m + 1
      · subst e; exact q
      · exact Or.inl (ih (by omega))
theorem pw_lt {A : AS} (hw : WF A) {x : Nat} : ∀ n y, pw A n x y → y < 8
  | 0, _, h => (edg_lt hw h).2
  | n + 1, y, h => by
    rcases h with h | ⟨z, -, h⟩
    · exact pw_lt hw n y h
    · exact (edg_lt hw h).2
theorem cnt_lt {P Q : Nat → Prop} [DecidablePred P] [DecidablePred Q] : ∀ {n : Nat}, (∀ p, p < n → P p → Q p) → (∃ p, p < n ∧ Q p ∧ ¬ P p) → cnt P n < cnt Q n
  | 0, _, h => by obtain ⟨p, hp, -⟩ := h; omega
  | n + 1, h, ⟨p, hp, a, b⟩ => by
    have le : ∀ m, m ≤ n → cnt P m ≤ cnt Q m := by
      intro m
      induction m with
      | zero => intro _; exact Nat.le_refl _
      | succ m ih =>
        intro hm
        have := ih (by omega)
        by_cases c : P m
        · rw [cnt_s c, cnt_s (h m (by omega) c)]; omega
        · rw [cnt_ns c, cnt]; split <;> omega
    have := le n (Nat.le_refl _)
    by_cases e : p = n
    · subst e
      rw [cnt_ns b, cnt_s a]; omega
    · have := cnt_lt (P := P) (Q := Q) (n := n) (fun p hp => h p (by omega)) ⟨p, by omega, a, b⟩
      by_cases c : P n
      · rw [cnt_s c, cnt_s (h n (by omega) c)]; omega
      · rw [cnt_ns c, cnt]; split <;> omega
theorem pw_iff {A : AS} (hw : WF A) {x y : Nat} (h : rch A x y) : pw A 8 x y := by
  by_cases hst : ∃ n, n ≤ 8 ∧ ∀ y, pw A (n + 1) x y → pw A n x y
  · obtain ⟨n, hn, hs⟩ := hst
    refine pw_mono n 8 hn ?_
    induction h with
    | single h => exact pw_mono 0 n (by omega) h
    | tail _ h ih => exact hs _ (Or.inr ⟨_, ih, h⟩)
  · have grow : ∀ n, n ≤ 9 → n ≤ @cnt (pw A n x) (fun _ => Classical.propDecidable _) 8 := by
      intro n
      induction n with
      | zero => intro _; exact Nat.zero_le _
      | succ n ih =>
        intro hn
        have h1 := ih (by omega)
        have h2 : ∃ y, pw A (n + 1) x y ∧ ¬ pw A n x y := by
          refine Classical.byContradiction fun q => hst ⟨n, by omega, fun y hy => Classical.byContradiction fun z => q ⟨y, hy, z⟩⟩
        obtain ⟨y, a, b⟩ := h2
        have := @cnt_lt (pw A n x) (pw A (n + 1) x) (fun _ => Classical.propDecidable _) (fun _ => Classical.propDecidable _) 8 (fun p _ q => Or.inl q) ⟨y, pw_lt hw (n + 1) y a, a, b⟩
        omega
    have h9 := grow 9 (Nat.le_refl _)
    have := @cnt_le (pw A 9 x) (fun _ => Classical.propDecidable _) 8
    omega
theorem hasM_eq {x : Nat} (hx : x < 8) (z : Int32) : fX4_has z (nI x) = some (if bt z x = true then nI 1 else nI 0) := by
  unfold fX4_has
  by_cases h : bt z x = true
  · rw [if_pos ((bt_has1 hx z).mpr h), if_pos h]; rfl
  · rw [if_neg (fun q => h ((bt_has1 hx z).mp q)), if_neg h]; rfl
section LR
variable {σ : St} {A : AS}
theorem RepL.reach (h : RepL σ A) {σ' : St} (e : ∀ c, c ≠ 15 → σ' c = σ c) : RepL σ' A := by
  refine ⟨?_, ?_, ?_, ?_, ?_⟩
  · rw [e _ (by omega), e _ (by omega), e _ (by omega), e _ (by omega), e _ (by omega)]
    exact h.1
  · intro i r hr
    rw [e _ (by omega), e _ (by omega), e _ (by omega), e _ (by omega), e _ (by omega)]
    exact h.2.1 i r hr
  · intro x hx hno
    rw [e _ (by omega)]
    exact h.2.2.1 x hx hno
  · intro x hx
    rw [e _ (by omega), e _ (by omega), e _ (by omega), e _ (by omega)]
    exact h.2.2.2.1 x hx
  · intro k p hk hk3 hp
    rw [e _ (by omega)]
    exact h.2.2.2.2 k p hk hk3 hp
theorem isM_if {r : Int32} {P Q : Nat → Prop} {c : Prop} (h : isM r P) (hc : c) (hQ : ∀ i, Q i ↔ (c ∧ P i)) : isM r Q := fun i hi => (h i hi).trans ⟨fun q => (hQ i).mpr ⟨hc, q⟩, fun q => ((hQ i).mp q).2⟩
theorem ringL_eq (h : RepL σ A) (hw : WF A) {o : Nat} (ho : o < 8) : ∃ z σ', fX1_ringOf (nI o) σ = some (z, σ') ∧ RepL σ' A ∧ isM z (rg A o) := by
  have hlen := hw.len
  -- all empty
  obtain ⟨e1, he1, s1, rfl, a1, b1⟩ := lp_rng (b := fun t : (Int32 × St) => bX1_ringOf_2 t.1 t.2)
    (fun j s => ∃ s', s = (nI j, s') ∧ (∀ c, c ≠ 15 → s' c = σ c) ∧ ∀ x, x < j → s' 15 x = nI 0)
    (fun e => ∃ s', e = (nI 8, s') ∧ (∀ c, c ≠ 15 → s' c = σ c) ∧ ∀ x, x < 8 → s' 15 x = nI 0) 0 8
    (fun j s _ hj hs => by
      obtain ⟨s', rfl, a, b⟩ := hs
      show ∃ s'', bX1_ringOf_2 (nI j) s' = some (.inl s'') ∧ _
      unfold bX1_ringOf_2
      simp (disch := omega) only [nm, bnd_s, bnd_n, bn2_s, l0, l1, l2, l3, l4, l7, l8, l9, l16, l80, l88, l200, l300, pk_mul, nI_add, nI_sb, mx1, mn1, ax_nI, nI_cl, nI_lt', nI_le', nI_eq', if_pos, if_neg, if_true, if_false]
      refine ⟨_, rfl, _, rfl, fun c hc => by rw [put_n _ _ hc]; exact a c hc, fun x hx => ?_⟩
      rw [put_s]
      by_cases e : x = j
      · subst e; rw [upd_s]
      · rw [upd_n _ _ e]; exact b x (by omega))
    (fun s hs => by
      obtain ⟨s', rfl, a, b⟩ := hs
      show ∃ e, bX1_ringOf_2 (nI 8) s' = some (.inr e) ∧ _
      unfold bX1_ringOf_2
      simp (disch := omega) only [nm, bnd_s, bnd_n, bn2_s, l0, l1, l2, l3, l4, l7, l8, l9, l16, l80, l88, l200, l300, pk_mul, nI_add, nI_sb, mx1, mn1, ax_nI, nI_cl, nI_lt', nI_le', nI_eq', if_pos, if_neg, if_true, if_false]
      exact ⟨_, rfl, s', rfl, a, b⟩) (nI 0, σ) (by omega) ⟨σ, rfl, fun _ _ => rfl, fun x hx => by omega⟩ (by omega)
  -- whom each waits for
  obtain ⟨e2, he2, s2, rfl, a2, b2⟩ := lp_rng (b := fun t : (Int32 × St) => bX1_ringOf_23 t.1 t.2)
    (fun j s => ∃ s', s = (nI j, s') ∧ (∀ c, c ≠ 15 → s' c = σ c) ∧ ∀ x, x < 8 → isM (s' 15 x) (fun y => ∃ i r, i < j ∧ (aR A)[i]? = some r ∧ r.1 = x ∧ wts A i y))
    (fun e => ∃ s', e = (nI (aR A).length, s') ∧ (∀ c, c ≠ 15 → s' c = σ c) ∧ ∀ x, x < 8 → isM (s' 15 x) (fun y => ∃ i r, i < (aR A).length ∧ (aR A)[i]? = some r ∧ r.1 = x ∧ wts A i y)) 0 (aR A).length
    (fun j s _ hj hs => by
      obtain ⟨s', rfl, a, b⟩ := hs
      show ∃ s'', bX1_ringOf_23 (nI j) s' = some (.inl s'') ∧ _
      have r1 := h.reach a
      have g1 := r1.1.2.2.2.2.2.2
      obtain ⟨r, hr⟩ : ∃ r, (aR A)[j]? = some r := ⟨_, List.getElem?_eq_getElem hj⟩
      have g2 := (r1.2.1 j r hr).1
      have w1 := (hw.2.2.1 r (List.mem_of_getElem? hr)).1
      obtain ⟨z, hz, hm⟩ := waitedForAt_eq r1 hw hj
      unfold bX1_ringOf_23
      simp (disch := omega) only [g1, g2, hz, nm, bnd_s, bnd_n, bn2_s, l0, l1, l2, l3, l4, l7, l8, l9, l16, l80, l88, l200, l300, pk_mul, nI_add, nI_sb, mx1, mn1, ax_nI, nI_cl, nI_lt', nI_le', nI_eq', if_pos, if_neg, if_true, if_false]
      refine ⟨_, rfl, _, rfl, fun c hc => by rw [put_n _ _ hc]; exact a c hc, fun x hx => ?_⟩
      rw [put_s]
      by_cases e : x = r.1
      · subst e
        rw [upd_s]
        refine isM_congr hm fun y hy => ⟨fun q => ⟨j, r, by omega, hr, rfl, q⟩, ?_⟩
        rintro ⟨i, r', hi, hr', e', q⟩
        have := row_inj hw hr' hr e'
        subst this
        exact q
      · rw [upd_n _ _ e]
        refine isM_congr (b x hx) fun y hy => ⟨?_, ?_⟩
        · rintro ⟨i, r', hi, q⟩
          exact ⟨i, r', by omega, q⟩
        · rintro ⟨i, r', hi, hr', e', q⟩
          refine ⟨i, r', ?_, hr', e', q⟩
          by_cases e2 : i = j
          · subst e2
            rw [hr] at hr'
            cases hr'
            exact absurd e'.symm e
          · omega)
    (fun s hs => by
      obtain ⟨s', rfl, a, b⟩ := hs
      show ∃ e, bX1_ringOf_23 (nI (aR A).length) s' = some (.inr e) ∧ _
      have g1 := (h.reach a).1.2.2.2.2.2.2
      unfold bX1_ringOf_23
      simp (disch := omega) only [g1, nm, bnd_s, bnd_n, bn2_s, l0, l1, l2, l3, l4, l7, l8, l9, l16, l80, l88, l200, l300, pk_mul, nI_add, nI_sb, mx1, mn1, ax_nI, nI_cl, nI_lt', nI_le', nI_eq', if_pos, if_neg, if_true, if_false]
      exact ⟨_, rfl, s', rfl, a, b⟩) (nI 0, s1) (by omega) ⟨s1, rfl, a1, fun x hx => by
        rw [b1 x hx]
        exact isM_0 fun i _ q => by obtain ⟨j, _, hj, -⟩ := q; omega⟩ (by omega)
  have b2 : ∀ x, x < 8 → isM (s2 15 x) (wp A 0 x) := fun x hx => isM_congr (b2 x hx) fun y hy => by
    constructor
    · rintro ⟨i, r, -, q⟩
      exact ⟨i, r, q⟩
    · rintro ⟨i, r, q⟩
      exact ⟨i, r, (List.getElem?_eq_some_iff.mp q.1).1, q⟩
  -- the closure
  obtain ⟨e3, he3, s3, rfl, a3, b3⟩ := lp_rng (b := fun t : (Int32 × St) => bX1_ringOf_55 t.1 t.2)
    (fun j s => ∃ s', s = (nI j, s') ∧ (∀ c, c ≠ 15 → s' c = σ c) ∧ ∀ x, x < 8 → isM (s' 15 x) (wp A j x))
    (fun e => ∃ s', e = (nI 8, s') ∧ (∀ c, c ≠ 15 → s' c = σ c) ∧ ∀ x, x < 8 → isM (s' 15 x) (wp A 8 x)) 0 8
    (fun j s _ hj hs => by
      obtain ⟨s', rfl, a, b⟩ := hs
      show ∃ s'', bX1_ringOf_55 (nI j) s' = some (.inl s'') ∧ _
      obtain ⟨e, he, t, rfl, a', b'⟩ := lp_rng (b := fun t : (Int32 × St) => bX1_ringOf_63 (nI j) t.1 t.2)
        (fun m s => ∃ s', s = (nI m, s') ∧ (∀ c, c ≠ 15 → s' c = σ c) ∧ ∀ x, x < 8 → isM (s' 15 x) (if x < m then wp A (j + 1) x else wp A j x))
        (fun e => ∃ s', e = (nI 8, s') ∧ (∀ c, c ≠ 15 → s' c = σ c) ∧ ∀ x, x < 8 → isM (s' 15 x) (wp A (j + 1) x)) 0 8
        (fun m s _ hm hs => by
          obtain ⟨s', rfl, a, b⟩ := hs
          show ∃ s'', bX1_ringOf_63 (nI j) (nI m) s' = some (.inl s'') ∧ _
          have bm := b m hm
          rw [if_neg (by omega)] at bm
          have bj : isM (s' 15 j) (wp A j j) := by
            have bj := b j hj
            by_cases c : j < m
            · rw [if_pos c] at bj
              exact isM_congr bj fun y _ => ⟨fun q => q.elim id fun q => q.2, Or.inl⟩
            · rw [if_neg c] at bj; exact bj
          unfold bX1_ringOf_63
          simp (disch := omega) only [holds_eq hj, nm, bnd_s, bnd_n, bn2_s, l0, l1, l2, l3, l4, l7, l8, l9, l16, l80, l88, l200, l300, pk_mul, nI_add, nI_sb, mx1, mn1, ax_nI, nI_cl, nI_lt', nI_le', nI_eq', if_pos, if_neg, if_true, if_false]
          by_cases c : bt (s' 15 m) j = true
          · simp (disch := omega) only [c, nm, bnd_s, bnd_n, bn2_s, l0, l1, l2, l3, l4, l7, l8, l9, l16, l80, l88, l200, l300, pk_mul, nI_add, nI_sb, mx1, mn1, ax_nI, nI_cl, nI_lt', nI_le', nI_eq', if_pos, if_neg, if_true, if_false]
            refine ⟨_, rfl, _, rfl, fun c hc => by rw [put_n _ _ hc]; exact a c hc, fun x hx => ?_⟩
            rw [put_s]
            by_cases e : x = m
            · subst e
              rw [upd_s, if_pos (by omega)]
              refine isM_congr (isM_or bm bj) fun y _ => ⟨?_, ?_⟩
              · rintro (q | q)
                · exact Or.inl q
                · exact Or.inr ⟨(bm j (by omega)).mp c, q⟩
              · rintro (q | q)
                · exact Or.inl q
                · exact Or.inr q.2
            · rw [upd_n _ _ e]
              have := b x hx
              by_cases c2 : x < m
              · rw [if_pos c2] at this; rw [if_pos (by omega)]; exact this
              · rw [if_neg c2] at this; rw [if_neg (by omega)]; exact this
          · simp (disch := omega) only [c, nm, bnd_s, bnd_n, bn2_s, l0, l1, l2, l3, l4, l7, l8, l9, l16, l80, l88, l200, l300, pk_mul, nI_add, nI_sb, mx1, mn1, ax_nI, nI_cl, nI_lt', nI_le', nI_eq', if_pos, if_neg, if_true, if_false]
            refine ⟨_, rfl, s', rfl, a, fun x hx => ?_⟩
            by_cases e : x = m
            · subst e
              rw [if_pos (by omega)]
              refine isM_congr bm fun y _ => ⟨Or.inl, ?_⟩
              rintro (q | q)
              · exact q
              · exact absurd ((bm j (by omega)).mpr q.1) c
            · have := b x hx
              by_cases c2 : x < m
              · rw [if_pos c2] at this; rw [if_pos (by omega)]; exact this
              · rw [if_neg c2] at this; rw [if_neg (by omega)]; exact this)
        (fun s hs => by
          obtain ⟨s', rfl, a, b⟩ := hs
          show ∃ e, bX1_ringOf_63 (nI j) (nI 8) s' = some (.inr e) ∧ _
          unfold bX1_ringOf_63
          simp (disch := omega) only [nm, bnd_s, bnd_n, bn2_s, l0, l1, l2, l3, l4, l7, l8, l9, l16, l80, l88, l200, l300, pk_mul, nI_add, nI_sb, mx1, mn1, ax_nI, nI_cl, nI_lt', nI_le', nI_eq', if_pos, if_neg, if_true, if_false]
          exact ⟨_, rfl, s', rfl, a, fun x hx => by have := b x hx; rw [if_pos hx] at this; exact this⟩) (nI 0, s') (by omega) ⟨s', rfl, a, fun x hx => by rw [if_neg (by omega)]; exact b x hx⟩ (by omega)
      unfold bX1_ringOf_55
      simp (disch := omega) only [he, nm, bnd_s, bnd_n, bn2_s, l0, l1, l2, l3, l4, l7, l8, l9, l16, l80, l88, l200, l300, pk_mul, nI_add, nI_sb, mx1, mn1, ax_nI, nI_cl, nI_lt', nI_le', nI_eq', if_pos, if_neg, if_true, if_false]
      exact ⟨_, rfl, t, rfl, a', b'⟩)
    (fun s hs => by
      obtain ⟨s', rfl, a, b⟩ := hs
      show ∃ e, bX1_ringOf_55 (nI 8) s' = some (.inr e) ∧ _
      unfold bX1_ringOf_55
      simp (disch := omega) only [nm, bnd_s, bnd_n, bn2_s, l0, l1, l2, l3, l4, l7, l8, l9, l16, l80, l88, l200, l300, pk_mul, nI_add, nI_sb, mx1, mn1, ax_nI, nI_cl, nI_lt', nI_le', nI_eq', if_pos, if_neg, if_true, if_false]
      exact ⟨_, rfl, s', rfl, a, b⟩) (nI 0, s2) (by omega) ⟨s2, rfl, a2, b2⟩ (by omega)
  -- the ring
  have bo := b3 o ho
  obtain ⟨e4, he4, z, rfl, hz⟩ := lp_rng (b := fun t : (Int32 × Int32) => bX1_ringOf_113 (nI o) s3 t.1 t.2)
    (fun j s => ∃ z, s = (z, nI j) ∧ isM z (fun x => x < j ∧ rg A o x))
    (fun e => ∃ z, e = (z, nI 8) ∧ isM z (rg A o)) 0 8
    (fun j s _ hj hs => by
      obtain ⟨z, rfl, hz⟩ := hs
      show ∃ s'', bX1_ringOf_113 (nI o) s3 z (nI j) = some (.inl s'') ∧ _
      have bj := b3 j hj
      have h1 : bt (s3 15 o) j = true ↔ rch A o j := (bo j (by omega)).trans (wp_iff hw)
      have h2 : bt (s3 15 j) o = true ↔ rch A j o := (bj o (by omega)).trans (wp_iff hw)
      have no : ¬ rg A o j → isM z (fun x => x < j + 1 ∧ rg A o x) := fun q => isM_congr hz fun x _ => ⟨fun ⟨a, b⟩ => ⟨by omega, b⟩, fun ⟨a, b⟩ => ⟨by
        by_cases e : x = j
        · subst e; exact absurd b q
        · omega, b⟩⟩
      unfold bX1_ringOf_113
      simp (disch := omega) only [holds_eq hj, holds_eq ho, nm, bnd_s, bnd_n, bn2_s, l0, l1, l2, l3, l4, l7, l8, l9, l16, l80, l88, l200, l300, pk_mul, nI_add, nI_sb, mx1, mn1, ax_nI, nI_cl, nI_lt', nI_le', nI_eq', if_pos, if_neg, if_true, if_false]
      by_cases c : bt (s3 15 o) j = true
      · by_cases c2 : bt (s3 15 j) o = true
        · simp (disch := omega) only [c, c2, nm, bnd_s, bnd_n, bn2_s, l0, l1, l2, l3, l4, l7, l8, l9, l16, l80, l88, l200, l300, pk_mul, nI_add, nI_sb, mx1, mn1, ax_nI, nI_cl, nI_lt', nI_le', nI_eq', if_pos, if_neg, if_true, if_false]
          refine ⟨_, rfl, _, rfl, isM_congr (isM_or hz (isM_1 hj)) fun x _ => ⟨?_, ?_⟩⟩
          · rintro (⟨a, b⟩ | rfl)
            · exact ⟨by omega, b⟩
            · exact ⟨by omega, h1.mp c, h2.mp c2⟩
          · rintro ⟨a, b⟩
            by_cases e : x = j
            · exact Or.inr e
            · exact Or.inl ⟨by omega, b⟩
        · simp (disch := omega) only [c, c2, nm, bnd_s, bnd_n, bn2_s, l0, l1, l2, l3, l4, l7, l8, l9, l16, l80, l88, l200, l300, pk_mul, nI_add, nI_sb, mx1, mn1, ax_nI, nI_cl, nI_lt', nI_le', nI_eq', if_pos, if_neg, if_true, if_false]
          exact ⟨_, rfl, z, rfl, no fun q => c2 (h2.mpr q.2)⟩
      · simp (disch := omega) only [c, nm, bnd_s, bnd_n, bn2_s, l0, l1, l2, l3, l4, l7, l8, l9, l16, l80, l88, l200, l300, pk_mul, nI_add, nI_sb, mx1, mn1, ax_nI, nI_cl, nI_lt', nI_le', nI_eq', if_pos, if_neg, if_true, if_false]
        exact ⟨_, rfl, z, rfl, no fun q => c (h1.mpr q.1)⟩)
    (fun s hs => by
      obtain ⟨z, rfl, hz⟩ := hs
      show ∃ e, bX1_ringOf_113 (nI o) s3 z (nI 8) = some (.inr e) ∧ _
      unfold bX1_ringOf_113
      simp (disch := omega) only [nm, bnd_s, bnd_n, bn2_s, l0, l1, l2, l3, l4, l7, l8, l9, l16, l80, l88, l200, l300, pk_mul, nI_add, nI_sb, mx1, mn1, ax_nI, nI_cl, nI_lt', nI_le', nI_eq', if_pos, if_neg, if_true, if_false]
      exact ⟨_, rfl, z, rfl, isM_congr hz fun x _ => ⟨fun q => q.2, fun q => ⟨(rch_lt hw q.2).1, q⟩⟩⟩) (nI 0, nI 0) (by omega) ⟨_, rfl, isM_0 fun i _ q => by omega⟩ (by omega)
  refine ⟨z, s3, ?_, h.reach a3, hz⟩
  unfold fX1_ringOf
  simp (disch := omega) only [he1, he2, he3, he4, nm, bnd_s, bnd_n, bn2_s, l0, l1, l2, l3, l4, l7, l8, l9, l16, l80, l88, l200, l300, pk_mul, nI_add, nI_sb, mx1, mn1, ax_nI, nI_cl, nI_lt', nI_le', nI_eq', if_pos, if_neg, if_true, if_false]
end LR
