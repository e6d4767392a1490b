/-! Rows to compute the pure functions by -/
theorem bnd_s {α β : Type} (a : α) (k : α → Option β) : bnd (some a) k = k a := rfl
theorem bnd_n {α β : Type} (k : α → Option β) : bnd none k = none := rfl
theorem bn2_s {α γ β : Type} (a : α) (c : γ) (k : α → γ → Option β) : bn2 (some (a, c)) k = k a c := rfl
theorem l0 : (0 : Int32) = nI 0 := rfl
theorem l1 : (1 : Int32) = nI 1 := rfl
theorem l2 : (2 : Int32) = nI 2 := rfl
theorem l3 : (3 : Int32) = nI 3 := rfl
theorem l4 : (4 : Int32) = nI 4 := rfl
theorem l7 : (7 : Int32) = nI 7 := rfl
theorem l8 : (8 : Int32) = nI 8 := rfl
theorem l9 : (9 : Int32) = nI 9 := rfl
theorem l16 : (16 : Int32) = nI 16 := rfl
theorem l80 : (80 : Int32) = nI 80 := rfl
theorem l88 : (88 : Int32) = nI 88 := rfl
theorem l200 : (200 : Int32) = nI 200 := rfl
theorem l300 : (300 : Int32) = nI 300 := rfl
theorem ax_nI {β : Type} {j n : Nat} {k : Option β} (h : j < n) (hn : n < 2147483648) : ax (nI j) n k = k := ax_in (vp_in_nI h hn)
theorem nI_cl {n : Nat} (h : n < 2147483648) : (nI n).toNatClampNeg = n := nI_clamp h
theorem nI_lt' {a b : Nat} (ha : a < 2147483648) (hb : b < 2147483648) : (nI a < nI b) = (a < b) := propext (nI_ltI ha hb)
theorem nI_le' {a b : Nat} (ha : a < 2147483648) (hb : b < 2147483648) : (nI a ≤ nI b) = (a ≤ b) := propext (nI_leI ha hb)
theorem nI_eq' {a b : Nat} (ha : a < 2147483648) (hb : b < 2147483648) : (nI a = nI b) = (a = b) := propext (nI_eq ha hb)
theorem nI_sb {a b : Nat} (h : b ≤ a) : nI a - nI b = nI (a - b) := pk_sub h
theorem mx1 {a b : Nat} : (if a < b then nI b else nI a) = nI (max a b) := by
  by_cases h : a < b
  · rw [if_pos h, Nat.max_eq_right (by omega)]
  · rw [if_neg h, Nat.max_eq_left (by omega)]
theorem mn1 {a b : Nat} : (if a < b then nI a else nI b) = nI (min a b) := by
  by_cases h : a < b
  · rw [if_pos h, Nat.min_eq_left (by omega)]
  · rw [if_neg h, Nat.min_eq_right (by omega)]
theorem FU_v : FU = 5000 := rfl
theorem mem_take_s {α : Type} {l : List α} {n : Nat} {r : α} : r ∈ l.take (n + 1) ↔ r ∈ l.take n ∨ l[n]? = some r := by
  rw [List.take_add_one, List.mem_append, Option.mem_toList]
theorem tog_eq {k x : Nat} (hk : 1 ≤ k) (hk3 : k ≤ 3) (hx : x ≤ 3) : fX4_areTogether (nI k) (nI x) = some (if 4 ≤ k + x then nI 0 else nI 1) := by
  have h : ∀ k : Fin 4, ∀ x : Fin 4, 1 ≤ k.val → fX4_areTogether (nI k.val) (nI x.val) = some (if 4 ≤ k.val + x.val then nI 0 else nI 1) := by decide +kernel
  exact h ⟨k, by omega⟩ ⟨x, by omega⟩ hk
theorem inM_eq {v lo hi : Nat} (hv : v < 2147483648) (hl : lo < 2147483648) (hh : hi < 2147483648) : fX4_in (nI v) (nI lo) (nI hi) = some (if lo ≤ v ∧ v ≤ hi then nI 1 else nI 0) := by
  unfold fX4_in
  by_cases h1 : v < lo
  · simp (disch := omega) only [nm, bnd_s, bnd_n, bn2_s, l0, l1, l2, l3, l4, l7, l8, l9, l16, l80, l88, l200, l300, pk_mul, nI_add, nI_sb, mx1, mn1, ax_nI, nI_cl, nI_lt', nI_le', nI_eq', if_pos, if_neg]
  · by_cases h2 : hi < v
    · simp (disch := omega) only [nm, bnd_s, bnd_n, bn2_s, l0, l1, l2, l3, l4, l7, l8, l9, l16, l80, l88, l200, l300, pk_mul, nI_add, nI_sb, mx1, mn1, ax_nI, nI_cl, nI_lt', nI_le', nI_eq', if_pos, if_neg]
    · simp (disch := omega) only [nm, bnd_s, bnd_n, bn2_s, l0, l1, l2, l3, l4, l7, l8, l9, l16, l80, l88, l200, l300, pk_mul, nI_add, nI_sb, mx1, mn1, ax_nI, nI_cl, nI_lt', nI_le', nI_eq', if_pos, if_neg]
/-- a loop that ends at once -/
theorem lp_ex {L E : Type} {b : L → Option (L ⊕ E)} {s : L} {e : E} (h : b s = some (.inr e)) : lp b FU s = some e := by
  show lp b (4999 + 1) s = some e
  rw [lp, h]
/-- loops whose counter goes from i up to n -/
theorem lp_rng {L E : Type} {b : L → Option (L ⊕ E)} (I : Nat → L → Prop) (Z : E → Prop) (i n : Nat) (hs : ∀ j s, i ≤ j → j < n → I j s → ∃ s', b s = some (.inl s') ∧ I (j + 1) s') (hx : ∀ s, I n s → ∃ e, b s = some (.inr e) ∧ Z e) (s : L) (hin : i ≤ n) (hi : I i s) (hn : n - i < 5000) : ∃ e, lp b FU s = some e ∧ Z e :=
  lp_for (fun j s => i ≤ j ∧ I j s) Z (n := n) (fun j s hj h => by
    obtain ⟨s', a, b⟩ := hs j s h.1 hj h.2
    exact ⟨s', a, by omega, b⟩) (fun s h => hx s h.2) (n - i) i s (by omega) ⟨Nat.le_refl _, hi⟩ FU hn
theorem lp_rngB {L E : Type} {b : L → Option (L ⊕ E)} (I : Nat → L → Prop) (Z : E → Prop) (i n : Nat) (hs : ∀ j s, i ≤ j → j < n → I j s → (∃ s', b s = some (.inl s') ∧ I (j + 1) s') ∨ ∃ e, b s = some (.inr e) ∧ Z e) (hx : ∀ s, I n s → ∃ e, b s = some (.inr e) ∧ Z e) (s : L) (hin : i ≤ n) (hi : I i s) (hn : n - i < 5000) : ∃ e, lp b FU s = some e ∧ Z e :=
  lp_brk (fun j s => i ≤ j ∧ I j s) Z (n := n) (fun j s hj h => by
    rcases hs j s h.1 hj h.2 with ⟨s', a, b⟩ | q
    · exact Or.inl ⟨s', a, by omega, b⟩
    · exact Or.inr q) (fun s h => hx s h.2) (n - i) i s (by omega) ⟨Nat.le_refl _, hi⟩ FU hn
section MB
variable {σ : St} {A : AS}
theorem lockM_eq (h : RepM (σ 0) A) {o p : Nat} (ho : o < 8) (hp : p < 300) : fX4_lock (nI o) (nI p) σ = some (nI (aK A o p)) := by
  unfold fX4_lock
  simp (disch := omega) only [nm, bnd_s, bnd_n, bn2_s, l0, l1, l2, l3, l4, l7, l8, l9, l16, l80, l88, l200, l300, pk_mul, nI_add, nI_sb, mx1, mn1, ax_nI, nI_cl, nI_lt', nI_le', nI_eq', if_pos, if_neg]
  rw [h.2.2.2.2 o p ho hp]
theorem ofM_eq {o w : Nat} (ho : o < 8) (hw : w < 9) : fX4_of (nI o) (nI w) σ = some (σ 0 (16 + 9 * o + w)) := by
  unfold fX4_of
  simp (disch := omega) only [nm, bnd_s, bnd_n, bn2_s, l0, l1, l2, l3, l4, l7, l8, l9, l16, l80, l88, l200, l300, pk_mul, nI_add, nI_sb, mx1, mn1, ax_nI, nI_cl, nI_lt', nI_le', nI_eq', if_pos, if_neg]
theorem against_eq (h : RepM (σ 0) A) (hw : WF A) {o k p n : Nat} (ho : o < 8) (hk : 1 ≤ k) (hk3 : k ≤ 3) (hp : p < 300) (hn : n ≤ (aR A).length) : ∃ r, fX4_against (nI o) (nI k) (nI p) (nI n) σ = some r ∧ isM r (blk A o k p n) := by
  have hlen := hw.len
  have hFU := FU_v
  obtain ⟨e1, he1, s1, rfl, hs1⟩ := lp_for (b := fun t : (Int32 × Int32) => bX4_against_6 (nI o) (nI k) (nI p) σ t.1 t.2)
    (fun j s => ∃ z, s = (z, nI j) ∧ isM z (fun x => x < j ∧ x ≠ o ∧ 4 ≤ k + aK A x p))
    (fun e => ∃ z, e = (z, nI 8) ∧ isM z (fun x => x < 8 ∧ x ≠ o ∧ 4 ≤ k + aK A x p)) (n := 8)
    (fun j s hj hs => by
      obtain ⟨z, rfl, hz⟩ := hs
      show ∃ s', bX4_against_6 (nI o) (nI k) (nI p) σ z (nI j) = some (.inl s') ∧ _
      unfold bX4_against_6
      by_cases hjo : j = o
      · subst hjo
        simp (disch := omega) only [nm, bnd_s, bnd_n, bn2_s, l0, l1, l2, l3, l4, l7, l8, l9, l16, l80, l88, l200, l300, pk_mul, nI_add, nI_sb, mx1, mn1, ax_nI, nI_cl, nI_lt', nI_le', nI_eq', if_pos, if_neg]
        refine ⟨_, rfl, _, rfl, isM_congr (isM_or hz (isM_0 (P := fun _ => False) fun _ _ q => q)) fun i hi => ?_⟩
        constructor
        · rintro (⟨a, b, c⟩ | q)
          · exact ⟨by omega, b, c⟩
          · exact q.elim
        · rintro ⟨a, b, c⟩
          exact Or.inl ⟨by omega, b, c⟩
      · have hK := hw.1 j p hj hp
        simp (disch := omega) only [lockM_eq h hj hp, tog_eq hk hk3 hK, nm, bnd_s, bnd_n, bn2_s, l0, l1, l2, l3, l4, l7, l8, l9, l16, l80, l88, l200, l300, pk_mul, nI_add, nI_sb, mx1, mn1, ax_nI, nI_cl, nI_lt', nI_le', nI_eq', if_pos, if_neg]
        by_cases hc : 4 ≤ k + aK A j p
        · simp (disch := omega) only [nm, bnd_s, bnd_n, bn2_s, l0, l1, l2, l3, l4, l7, l8, l9, l16, l80, l88, l200, l300, pk_mul, nI_add, nI_sb, mx1, mn1, ax_nI, nI_cl, nI_lt', nI_le', nI_eq', if_pos, if_neg]
          refine ⟨_, rfl, _, rfl, isM_congr (isM_or hz (isM_1 hj)) fun i hi => ?_⟩
          constructor
          · rintro (⟨a, b, c⟩ | rfl)
            · exact ⟨by omega, b, c⟩
            · exact ⟨by omega, hjo, hc⟩
          · rintro ⟨a, b, c⟩
            by_cases e : i = j
            · exact Or.inr e
            · exact Or.inl ⟨by omega, b, c⟩
        · simp (disch := omega) only [nm, bnd_s, bnd_n, bn2_s, l0, l1, l2, l3, l4, l7, l8, l9, l16, l80, l88, l200, l300, pk_mul, nI_add, nI_sb, mx1, mn1, ax_nI, nI_cl, nI_lt', nI_le', nI_eq', if_pos, if_neg]
          refine ⟨_, rfl, _, rfl, isM_congr (isM_or hz (isM_0 (P := fun _ => False) fun _ _ q => q)) fun i hi => ?_⟩
          constructor
          · rintro (⟨a, b, c⟩ | q)
            · exact ⟨by omega, b, c⟩
            · exact q.elim
          · rintro ⟨a, b, c⟩
            refine Or.inl ⟨?_, b, c⟩
            by_cases e : i = j
            · subst e; exact absurd c hc
            · omega)
    (fun s hs => by
      obtain ⟨z, rfl, hz⟩ := hs
      show ∃ e, bX4_against_6 (nI o) (nI k) (nI p) σ z (nI 8) = some (.inr e) ∧ _
      unfold bX4_against_6
      simp (disch := omega) only [nm, bnd_s, bnd_n, bn2_s, l0, l1, l2, l3, l4, l7, l8, l9, l16, l80, l88, l200, l300, pk_mul, nI_add, nI_sb, mx1, mn1, ax_nI, nI_cl, nI_lt', nI_le', nI_eq', if_pos, if_neg]
      exact ⟨_, rfl, z, rfl, hz⟩)
    8 0 (nI 0, nI 0) rfl ⟨_, rfl, isM_0 fun i hi q => by omega⟩ FU (by omega)
  unfold fX4_against
  rw [show lp (fun t : (Int32 × Int32) => bX4_against_6 (nI o) (nI k) (nI p) σ t.1 t.2) FU ((0 : Int32), (0 : Int32)) = _ from he1]
  simp only [bnd_s, nm]
  rcases hw.2.2.2.1 with hF | hF
  · -- no order
    have hb : bX4_against_55 (nI o) (nI k) (nI p) (nI n) σ s1 (nI 0) = some (.inr (s1, nI 0)) := by
      unfold bX4_against_55
      by_cases hn0 : n = 0
      · subst hn0
        simp (disch := omega) only [nm, bnd_s, bnd_n, bn2_s, l0, l1, l2, l3, l4, l7, l8, l9, l16, l80, l88, l200, l300, pk_mul, nI_add, nI_sb, mx1, mn1, ax_nI, nI_cl, nI_lt', nI_le', nI_eq', if_pos, if_neg]
      · have e2 : σ 0 2 = nI 0 := h.1.2.2.2.1.trans hF
        simp (disch := omega) only [e2, nm, bnd_s, bnd_n, bn2_s, l0, l1, l2, l3, l4, l7, l8, l9, l16, l80, l88, l200, l300, pk_mul, nI_add, nI_sb, mx1, mn1, ax_nI, nI_cl, nI_lt', nI_le', nI_eq', if_pos, if_neg]
    rw [lp_ex (b := fun t : (Int32 × Int32) => bX4_against_55 (nI o) (nI k) (nI p) (nI n) σ t.1 t.2) (s := (s1, (0 : Int32))) hb]
    refine ⟨s1, rfl, isM_congr hs1 fun i hi => ?_⟩
    constructor
    · rintro ⟨a, b, c⟩
      exact ⟨a, b, Or.inl c⟩
    · rintro ⟨a, b, c | ⟨c, -⟩⟩
      · exact ⟨a, b, c⟩
      · rw [hF] at c; exact absurd c (by decide)
  · have e2 : σ 0 2 = nI 1 := h.1.2.2.2.1.trans hF
    obtain ⟨e3, he3, s3, rfl, hs3⟩ := lp_for (b := fun t : (Int32 × Int32) => bX4_against_55 (nI o) (nI k) (nI p) (nI n) σ t.1 t.2)
      (fun j s => ∃ z, s = (z, nI j) ∧ isM z (fun x => (x < 8 ∧ x ≠ o ∧ 4 ≤ k + aK A x p) ∨ (x < 8 ∧ x ≠ o ∧ ∃ r ∈ (aR A).take j, r.1 = x ∧ r.2.2.1 ≤ p ∧ p < r.2.2.2.1 ∧ 4 ≤ k + r.2.1)))
      (fun e => ∃ z, e = (z, nI n) ∧ isM z (fun x => (x < 8 ∧ x ≠ o ∧ 4 ≤ k + aK A x p) ∨ (x < 8 ∧ x ≠ o ∧ ∃ r ∈ (aR A).take n, r.1 = x ∧ r.2.2.1 ≤ p ∧ p < r.2.2.2.1 ∧ 4 ≤ k + r.2.1))) (n := n)
      (fun j s hj hs => by
        obtain ⟨z, rfl, hz⟩ := hs
        show ∃ s', bX4_against_55 (nI o) (nI k) (nI p) (nI n) σ z (nI j) = some (.inl s') ∧ _
        have hjl : j < (aR A).length := by omega
        obtain ⟨r, hr⟩ : ∃ r, (aR A)[j]? = some r := ⟨_, List.getElem?_eq_getElem hjl⟩
        obtain ⟨g1, g2, g3, g4, -⟩ := h.2.1 j r hr
        obtain ⟨w1, w2, w3, w4, w5⟩ := hw.2.2.1 r (List.mem_of_getElem? hr)
        have q1 : fX4_of (nI r.1) (nI 1) σ = some (nI r.2.2.1) := (ofM_eq w1 (by omega)).trans (by rw [g3])
        have q2 : fX4_of (nI r.1) (nI 2) σ = some (nI r.2.2.2.1) := (ofM_eq w1 (by omega)).trans (by rw [g4])
        have q0 : fX4_of (nI r.1) (nI 0) σ = some (nI r.2.1) := (ofM_eq w1 (by omega)).trans (by rw [Nat.add_zero, g2])
        have old : ∀ i, ((i < 8 ∧ i ≠ o ∧ 4 ≤ k + aK A i p) ∨ (i < 8 ∧ i ≠ o ∧ ∃ r ∈ (aR A).take j, r.1 = i ∧ r.2.2.1 ≤ p ∧ p < r.2.2.2.1 ∧ 4 ≤ k + r.2.1)) → ((i < 8 ∧ i ≠ o ∧ 4 ≤ k + aK A i p) ∨ (i < 8 ∧ i ≠ o ∧ ∃ r ∈ (aR A).take (j + 1), r.1 = i ∧ r.2.2.1 ≤ p ∧ p < r.2.2.2.1 ∧ 4 ≤ k + r.2.1)) := by
          rintro i (a | ⟨a, b, r', c, d⟩)
          · exact Or.inl a
          · exact Or.inr ⟨a, b, r', mem_take_s.mpr (Or.inl c), d⟩
        have new : ∀ i, ((i < 8 ∧ i ≠ o ∧ 4 ≤ k + aK A i p) ∨ (i < 8 ∧ i ≠ o ∧ ∃ r ∈ (aR A).take (j + 1), r.1 = i ∧ r.2.2.1 ≤ p ∧ p < r.2.2.2.1 ∧ 4 ≤ k + r.2.1)) → ((i < 8 ∧ i ≠ o ∧ 4 ≤ k + aK A i p) ∨ (i < 8 ∧ i ≠ o ∧ ∃ r ∈ (aR A).take j, r.1 = i ∧ r.2.2.1 ≤ p ∧ p < r.2.2.2.1 ∧ 4 ≤ k + r.2.1)) ∨ (i = r.1 ∧ i ≠ o ∧ r.2.2.1 ≤ p ∧ p < r.2.2.2.1 ∧ 4 ≤ k + r.2.1) := by
          rintro i (a | ⟨a, b, r', c, d, e⟩)
          · exact Or.inl (Or.inl a)
          · rcases mem_take_s.mp c with c | c
            · exact Or.inl (Or.inr ⟨a, b, r', c, d, e⟩)
            · rw [hr] at c
              cases c
              exact Or.inr ⟨d.symm, b, e⟩
        have stay : (¬ (r.1 ≠ o ∧ r.2.2.1 ≤ p ∧ p < r.2.2.2.1 ∧ 4 ≤ k + r.2.1)) → isM (z ||| nI 0) (fun x => (x < 8 ∧ x ≠ o ∧ 4 ≤ k + aK A x p) ∨ (x < 8 ∧ x ≠ o ∧ ∃ r ∈ (aR A).take (j + 1), r.1 = x ∧ r.2.2.1 ≤ p ∧ p < r.2.2.2.1 ∧ 4 ≤ k + r.2.1)) := fun hno => by
          refine isM_congr (isM_or hz (isM_0 (P := fun _ => False) fun _ _ q => q)) fun i hi => ⟨?_, fun q => ?_⟩
          · rintro (q | q)
            · exact old i q
            · exact q.elim
          · rcases new i q with q | ⟨rfl, q⟩
            · exact Or.inl q
            · exact absurd q hno
        unfold bX4_against_55
        simp (disch := omega) only [e2, g1, q1, q2, q0, tog_eq hk hk3 w3, nm, bnd_s, bnd_n, bn2_s, l0, l1, l2, l3, l4, l7, l8, l9, l16, l80, l88, l200, l300, pk_mul, nI_add, nI_sb, mx1, mn1, ax_nI, nI_cl, nI_lt', nI_le', nI_eq', if_pos, if_neg]
        by_cases c1 : p < r.2.2.1
        · by_cases c2 : r.1 = o
          · simp (disch := omega) only [nm, bnd_s, bnd_n, bn2_s, l0, l1, l2, l3, l4, l7, l8, l9, l16, l80, l88, l200, l300, pk_mul, nI_add, nI_sb, mx1, mn1, ax_nI, nI_cl, nI_lt', nI_le', nI_eq', if_pos, if_neg]
            exact ⟨_, rfl, _, rfl, stay (by omega)⟩
          · simp (disch := omega) only [nm, bnd_s, bnd_n, bn2_s, l0, l1, l2, l3, l4, l7, l8, l9, l16, l80, l88, l200, l300, pk_mul, nI_add, nI_sb, mx1, mn1, ax_nI, nI_cl, nI_lt', nI_le', nI_eq', if_pos, if_neg]
            exact ⟨_, rfl, _, rfl, stay (by omega)⟩
        · by_cases c3 : r.2.2.2.1 ≤ p
          · by_cases c2 : r.1 = o
            · simp (disch := omega) only [nm, bnd_s, bnd_n, bn2_s, l0, l1, l2, l3, l4, l7, l8, l9, l16, l80, l88, l200, l300, pk_mul, nI_add, nI_sb, mx1, mn1, ax_nI, nI_cl, nI_lt', nI_le', nI_eq', if_pos, if_neg]
              exact ⟨_, rfl, _, rfl, stay (by omega)⟩
            · simp (disch := omega) only [nm, bnd_s, bnd_n, bn2_s, l0, l1, l2, l3, l4, l7, l8, l9, l16, l80, l88, l200, l300, pk_mul, nI_add, nI_sb, mx1, mn1, ax_nI, nI_cl, nI_lt', nI_le', nI_eq', if_pos, if_neg]
              exact ⟨_, rfl, _, rfl, stay (by omega)⟩
          · by_cases c2 : r.1 = o
            · simp (disch := omega) only [nm, bnd_s, bnd_n, bn2_s, l0, l1, l2, l3, l4, l7, l8, l9, l16, l80, l88, l200, l300, pk_mul, nI_add, nI_sb, mx1, mn1, ax_nI, nI_cl, nI_lt', nI_le', nI_eq', if_pos, if_neg]
              exact ⟨_, rfl, _, rfl, stay (by omega)⟩
            · by_cases c4 : 4 ≤ k + r.2.1
              · simp (disch := omega) only [nm, bnd_s, bnd_n, bn2_s, l0, l1, l2, l3, l4, l7, l8, l9, l16, l80, l88, l200, l300, pk_mul, nI_add, nI_sb, mx1, mn1, ax_nI, nI_cl, nI_lt', nI_le', nI_eq', if_pos, if_neg]
                refine ⟨_, rfl, _, rfl, isM_congr (isM_or hz (isM_1 w1)) fun i hi => ⟨?_, fun q => ?_⟩⟩
                · rintro (q | rfl)
                  · exact old i q
                  · exact Or.inr ⟨w1, c2, r, mem_take_s.mpr (Or.inr hr), rfl, by omega, by omega, c4⟩
                · rcases new i q with q | ⟨rfl, q⟩
                  · exact Or.inl q
                  · exact Or.inr rfl
              · simp (disch := omega) only [nm, bnd_s, bnd_n, bn2_s, l0, l1, l2, l3, l4, l7, l8, l9, l16, l80, l88, l200, l300, pk_mul, nI_add, nI_sb, mx1, mn1, ax_nI, nI_cl, nI_lt', nI_le', nI_eq', if_pos, if_neg]
                exact ⟨_, rfl, _, rfl, stay (by omega)⟩)
      (fun s hs => by
        obtain ⟨z, rfl, hz⟩ := hs
        show ∃ e, bX4_against_55 (nI o) (nI k) (nI p) (nI n) σ z (nI n) = some (.inr e) ∧ _
        unfold bX4_against_55
        simp (disch := omega) only [nm, bnd_s, bnd_n, bn2_s, l0, l1, l2, l3, l4, l7, l8, l9, l16, l80, l88, l200, l300, pk_mul, nI_add, nI_sb, mx1, mn1, ax_nI, nI_cl, nI_lt', nI_le', nI_eq', if_pos, if_neg]
        exact ⟨_, rfl, z, rfl, hz⟩)
      n 0 (s1, nI 0) (by omega) ⟨_, rfl, isM_congr hs1 fun i hi => ⟨fun q => Or.inl q, fun q => by
        rcases q with q | ⟨-, -, r, hr, -⟩
        · exact q
        · simp at hr⟩⟩ FU (by omega)
    rw [show lp (fun t : (Int32 × Int32) => bX4_against_55 (nI o) (nI k) (nI p) (nI n) σ t.1 t.2) FU (s1, (0 : Int32)) = _ from he3]
    refine ⟨s3, rfl, isM_congr hs3 fun i hi => ?_⟩
    constructor
    · rintro (⟨a, b, c⟩ | ⟨a, b, c⟩)
      · exact ⟨a, b, Or.inl c⟩
      · exact ⟨a, b, Or.inr ⟨hF, c⟩⟩
    · rintro ⟨a, b, c | ⟨-, c⟩⟩
      · exact Or.inl ⟨a, b, c⟩
      · exact Or.inr ⟨a, b, c⟩
theorem stoppedBy_eq (h : RepM (σ 0) A) (hw : WF A) {o k p n : Nat} (ho : o < 8) (hk : 1 ≤ k) (hk3 : k ≤ 3) (hp : p < 300) (hn : n ≤ (aR A).length) : ∃ r, fX4_stoppedBy (nI o) (nI k) (nI p) (nI n) σ = some r ∧ isM r (fun x => aK A o p < k ∧ blk A o k p n x) := by
  have hK := hw.1 o p ho hp
  obtain ⟨r, hr, hm⟩ := against_eq h hw ho hk hk3 hp hn
  unfold fX4_stoppedBy
  rw [hr]
  simp (disch := omega) only [lockM_eq h ho hp, nm, bnd_s, bnd_n, bn2_s, l0, l1, l2, l3, l4, l7, l8, l9, l16, l80, l88, l200, l300, pk_mul, nI_add, nI_sb, mx1, mn1, ax_nI, nI_cl, nI_lt', nI_le', nI_eq', if_pos, if_neg]
  by_cases c : aK A o p < k
  · simp (disch := omega) only [nm, bnd_s, bnd_n, bn2_s, l0, l1, l2, l3, l4, l7, l8, l9, l16, l80, l88, l200, l300, pk_mul, nI_add, nI_sb, mx1, mn1, ax_nI, nI_cl, nI_lt', nI_le', nI_eq', if_pos, if_neg]
    exact ⟨r, rfl, isM_congr hm fun i hi => ⟨fun q => ⟨c, q⟩, fun q => q.2⟩⟩
  · simp (disch := omega) only [nm, bnd_s, bnd_n, bn2_s, l0, l1, l2, l3, l4, l7, l8, l9, l16, l80, l88, l200, l300, pk_mul, nI_add, nI_sb, mx1, mn1, ax_nI, nI_cl, nI_lt', nI_le', nI_eq', if_pos, if_neg]
    exact ⟨_, rfl, isM_0 fun i hi q => c q.1⟩
theorem stoppedIn_eq (h : RepM (σ 0) A) (hw : WF A) {o k f t n : Nat} (ho : o < 8) (hk : 1 ≤ k) (hk3 : k ≤ 3) (hft : f ≤ t) (ht : t ≤ 300) (hn : n ≤ (aR A).length) : ∃ r, fX4_stoppedIn (nI o) (nI k) (nI f) (nI t) (nI n) σ = some r ∧ isM r (stp A o k f t n) := by
  have hFU := FU_v
  have hlen := hw.len
  obtain ⟨e1, he1, s1, rfl, hs1⟩ := lp_rng (b := fun t' : (Int32 × Int32) => bX4_stoppedIn_6 (nI o) (nI k) (nI t) (nI n) σ t'.1 t'.2)
    (fun j s => ∃ z, s = (z, nI j) ∧ isM z (stp A o k f j n))
    (fun e => ∃ z, e = (z, nI t) ∧ isM z (stp A o k f t n)) f t
    (fun j s hfj hj hs => by
      obtain ⟨z, rfl, hz⟩ := hs
      show ∃ s', bX4_stoppedIn_6 (nI o) (nI k) (nI t) (nI n) σ z (nI j) = some (.inl s') ∧ _
      obtain ⟨r, hr, hm⟩ := stoppedBy_eq h hw ho hk hk3 (p := j) (by omega) hn
      unfold bX4_stoppedIn_6
      rw [hr]
      simp (disch := omega) only [nm, bnd_s, bnd_n, bn2_s, l0, l1, l2, l3, l4, l7, l8, l9, l16, l80, l88, l200, l300, pk_mul, nI_add, nI_sb, mx1, mn1, ax_nI, nI_cl, nI_lt', nI_le', nI_eq', if_pos, if_neg]
      refine ⟨_, rfl, _, rfl, isM_congr (isM_or hz hm) fun i hi => ⟨?_, ?_⟩⟩
      · rintro (⟨p, a, b, c⟩ | ⟨a, b⟩)
        · exact ⟨p, a, by omega, c⟩
        · exact ⟨j, hfj, by omega, a, b⟩
      · rintro ⟨p, a, b, c⟩
        by_cases e : p = j
        · subst e; exact Or.inr c
        · exact Or.inl ⟨p, a, by omega, c⟩)
    (fun s hs => by
      obtain ⟨z, rfl, hz⟩ := hs
      show ∃ e, bX4_stoppedIn_6 (nI o) (nI k) (nI t) (nI n) σ z (nI t) = some (.inr e) ∧ _
      unfold bX4_stoppedIn_6
      simp (disch := omega) only [nm, bnd_s, bnd_n, bn2_s, l0, l1, l2, l3, l4, l7, l8, l9, l16, l80, l88, l200, l300, pk_mul, nI_add, nI_sb, mx1, mn1, ax_nI, nI_cl, nI_lt', nI_le', nI_eq', if_pos, if_neg]
      exact ⟨_, rfl, z, rfl, hz⟩)
    (nI 0, nI f) hft ⟨_, rfl, isM_0 fun i hi q => by obtain ⟨p, a, b, -⟩ := q; omega⟩ (by omega)
  unfold fX4_stoppedIn
  rw [show lp (fun t' : (Int32 × Int32) => bX4_stoppedIn_6 (nI o) (nI k) (nI t) (nI n) σ t'.1 t'.2) FU ((0 : Int32), nI f) = _ from he1]
  exact ⟨s1, rfl, hs1⟩
end MB
