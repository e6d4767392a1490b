/-! Circles are broken -/
def dsp (A : AS) (o p : Nat) (g : Int32) : Prop := ∃ r ∈ aR A, r.1 ≠ o ∧ bt g r.1 = true ∧ r.2.2.1 ≤ p ∧ p < r.2.2.2.1 ∧ 4 ≤ aK A o p + r.2.1 ∧ aK A r.1 p < r.2.1
noncomputable def dcu (A : AS) (o : Nat) (g : Int32) (n : Nat) : Nat := @cnt (fun p => dsp A o p g) (fun _ => Classical.propDecidable _) n
/-- how many places an owner would give up -/
noncomputable def dcn (A : AS) (o : Nat) (g : Int32) : Nat := dcu A o g 300
theorem dcu_le (A : AS) (o : Nat) (g : Int32) (n : Nat) : dcu A o g n ≤ n := @cnt_le (fun p => dsp A o p g) (fun _ => Classical.propDecidable _) n
theorem dcu_s {A : AS} {o : Nat} {g : Int32} {n : Nat} (h : dsp A o n g) : dcu A o g (n + 1) = dcu A o g n + 1 := @cnt_s (fun p => dsp A o p g) (fun _ => Classical.propDecidable _) n h
theorem dcu_ns {A : AS} {o : Nat} {g : Int32} {n : Nat} (h : ¬ dsp A o n g) : dcu A o g (n + 1) = dcu A o g n := @cnt_ns (fun p => dsp A o p g) (fun _ => Classical.propDecidable _) n h
/-- who gives up its places -/
def lh (A : AS) (g : Int32) (b : Nat) : Prop := b < 8 ∧ bt g b = true ∧ 0 < dcn A b g ∧ ∀ x, x < 8 → bt g x = true → 0 < dcn A x g → dcn A b g < dcn A x g ∨ (dcn A b g = dcn A x g ∧ x ≤ b)
theorem lh_inj {A : AS} {g : Int32} {b b' : Nat} (h : lh A g b) (h' : lh A g b') : b = b' := by
  have h1 := h.2.2.2 b' h'.1 h'.2.1 h'.2.2.1
  have h2 := h'.2.2.2 b h.1 h.2.1 h.2.2.1
  omega
noncomputable def dropU (A : AS) (b : Nat) (g : Int32) (n : Nat) : AS := (fun x p => @ite _ (x = b ∧ p < n ∧ dsp A b p g) (Classical.propDecidable _) 0 (aK A x p), aR A, aC A, aG A)
noncomputable def brk (A : AS) (b : Nat) (g : Int32) : AS := glbA (cntA (dropU A b g 300) b 2 (nI (dcn A b g))) 2 (aG A 2 + 1)
theorem or00 : nI 0 ||| nI 0 = nI 0 := by decide
theorem or10 : nI 1 ||| nI 0 = nI 1 := by decide
theorem or01 : nI 0 ||| nI 1 = nI 1 := by decide
theorem or11 : nI 1 ||| nI 1 = nI 1 := by decide
theorem dropU_K (A : AS) (b : Nat) (g : Int32) (n x p : Nat) : aK (dropU A b g n) x p = 0 ∧ (x = b ∧ p < n ∧ dsp A b p g) ∨ aK (dropU A b g n) x p = aK A x p ∧ ¬ (x = b ∧ p < n ∧ dsp A b p g) := by
  show (@ite _ (x = b ∧ p < n ∧ dsp A b p g) (Classical.propDecidable _) 0 (aK A x p)) = 0 ∧ _ ∨ (@ite _ (x = b ∧ p < n ∧ dsp A b p g) (Classical.propDecidable _) 0 (aK A x p)) = aK A x p ∧ _
  by_cases c : x = b ∧ p < n ∧ dsp A b p g
  · rw [if_pos c]; exact Or.inl ⟨rfl, c⟩
  · rw [if_neg c]; exact Or.inr ⟨rfl, c⟩
theorem WF.dropU {A : AS} (h : WF A) {b : Nat} {g : Int32} {n : Nat} : WF (dropU A b g n) := by
  refine ⟨fun x p hx hp => ?_, h.2⟩
  rcases dropU_K A b g n x p with ⟨e, -⟩ | ⟨e, -⟩
  · rw [e]; omega
  · rw [e]; exact h.1 x p hx hp
theorem WF.brk {A : AS} (h : WF A) {b : Nat} {g : Int32} : WF (brk A b g) := h.dropU (b := b) (g := g) (n := 300)
theorem dropU_0 (A : AS) (b : Nat) (g : Int32) : dropU A b g 0 = A := by
  unfold dropU
  refine Prod.ext ?_ rfl
  funext x p
  show (@ite _ (x = b ∧ p < 0 ∧ dsp A b p g) (Classical.propDecidable _) 0 (aK A x p)) = _
  rw [if_neg (by omega)]
theorem dropU_dsp {A : AS} {b : Nat} {g : Int32} {j : Nat} : dsp (dropU A b g j) b j g ↔ dsp A b j g := by
  have h1 : aK (dropU A b g j) b j = aK A b j := by
    rcases dropU_K A b g j b j with ⟨-, q⟩ | ⟨e, -⟩
    · omega
    · exact e
  have h2 : ∀ x, x ≠ b → aK (dropU A b g j) x j = aK A x j := fun x hx => by
    rcases dropU_K A b g j x j with ⟨-, q⟩ | ⟨e, -⟩
    · exact absurd q.1 hx
    · exact e
  constructor
  · rintro ⟨r, hr, a, c, d, e, f, i⟩
    rw [h1] at f
    rw [h2 _ a] at i
    exact ⟨r, hr, a, c, d, e, f, i⟩
  · rintro ⟨r, hr, a, c, d, e, f, i⟩
    refine ⟨r, hr, a, c, d, e, ?_, ?_⟩
    · rw [h1]; exact f
    · rw [h2 _ a]; exact i
theorem dropU_s {A : AS} {b : Nat} {g : Int32} {j : Nat} (h : dsp A b j g) : setK (dropU A b g j) b j (j + 1) 0 = dropU A b g (j + 1) := by
  refine Prod.ext ?_ rfl
  funext x p
  show (if x = b ∧ j ≤ p ∧ p < j + 1 then 0 else aK (dropU A b g j) x p) = aK (dropU A b g (j + 1)) x p
  by_cases c : x = b ∧ j ≤ p ∧ p < j + 1
  · rw [if_pos c]
    obtain ⟨rfl, c1, c2⟩ := c
    obtain rfl : p = j := by omega
    rcases dropU_K A x g (p + 1) x p with ⟨e, -⟩ | ⟨-, q⟩
    · rw [e]
    · exact absurd ⟨rfl, by omega, h⟩ q
  · rw [if_neg c]
    rcases dropU_K A b g j x p with ⟨e, q⟩ | ⟨e, q⟩
    · rcases dropU_K A b g (j + 1) x p with ⟨e', -⟩ | ⟨-, q'⟩
      · rw [e, e']
      · exact absurd ⟨q.1, by omega, q.2.2⟩ q'
    · rcases dropU_K A b g (j + 1) x p with ⟨-, q'⟩ | ⟨e', -⟩
      · exact absurd ⟨q'.1, by omega, q'.2.2⟩ q
      · rw [e, e']
theorem dropU_ns {A : AS} {b : Nat} {g : Int32} {j : Nat} (h : ¬ dsp A b j g) : dropU A b g (j + 1) = dropU A b g j := by
  refine Prod.ext ?_ rfl
  funext x p
  show aK (dropU A b g (j + 1)) x p = aK (dropU A b g j) x p
  rcases dropU_K A b g j x p with ⟨e, q⟩ | ⟨e, q⟩
  · rcases dropU_K A b g (j + 1) x p with ⟨e', -⟩ | ⟨-, q'⟩
    · rw [e, e']
    · exact absurd ⟨q.1, by omega, q.2.2⟩ q'
  · rcases dropU_K A b g (j + 1) x p with ⟨-, q'⟩ | ⟨e', -⟩
    · refine absurd ⟨q'.1, ?_, q'.2.2⟩ q
      by_cases c : p = j
      · subst c; exact absurd q'.2.2 h
      · omega
    · rw [e, e']
section LK
variable {σ : St} {A : AS}
theorem isInDispute_eq (h : RepL σ A) (hw : WF A) {o p : Nat} (g : Int32) (ho : o < 8) (hp : p < 300) : (dsp A o p g ∧ fX1_isInDispute (nI o) (nI p) g σ = some (nI 1)) ∨ (¬ dsp A o p g ∧ fX1_isInDispute (nI o) (nI p) g σ = some (nI 0)) := by
  have hlen := hw.len
  have h1 := h.1.2.2.2.2.2.2
  have hk := kindAt_eq h hw ho hp
  have hK := hw.1 o p ho hp
  by_cases c0 : aK A o p = 0
  · right
    refine ⟨fun ⟨r, hr, _, _, _, _, q, _⟩ => ?_, ?_⟩
    · have := (hw.2.2.1 r hr).2.2.1
      omega
    · unfold fX1_isInDispute
      rw [hk, c0]
      rfl
  · obtain ⟨e, he, hz⟩ := lp_rngB (b := fun x : Int32 => bX1_isInDispute_18 (nI o) (nI p) g σ (nI (aK A o p)) x)
      (fun j s => s = nI j ∧ ∀ i, i < j → ∀ r : Rq, (aR A)[i]? = some r → ¬ (r.1 ≠ o ∧ bt g r.1 = true ∧ r.2.2.1 ≤ p ∧ p < r.2.2.2.1 ∧ 4 ≤ aK A o p + r.2.1 ∧ aK A r.1 p < r.2.1))
      (fun e => (e = .inr (nI 1) ∧ dsp A o p g) ∨ (e = .inl (nI (aR A).length) ∧ ¬ dsp A o p g)) 0 (aR A).length
      (fun j s _ hj hs => by
        obtain ⟨rfl, hno⟩ := hs
        obtain ⟨r, hr⟩ : ∃ r, (aR A)[j]? = some r := ⟨_, List.getElem?_eq_getElem hj⟩
        obtain ⟨g1, g2, g3, g4, -⟩ := h.2.1 j r hr
        obtain ⟨w1, w2, w3, w4, w5⟩ := hw.2.2.1 r (List.mem_of_getElem? hr)
        have hk2 := kindAt_eq h hw w1 hp
        have hK2 := hw.1 r.1 p w1 hp
        have next : ¬ (r.1 ≠ o ∧ bt g r.1 = true ∧ r.2.2.1 ≤ p ∧ p < r.2.2.2.1 ∧ 4 ≤ aK A o p + r.2.1 ∧ aK A r.1 p < r.2.1) → ∀ i, i < j + 1 → ∀ r : Rq, (aR A)[i]? = some r → ¬ (r.1 ≠ o ∧ bt g r.1 = true ∧ r.2.2.1 ≤ p ∧ p < r.2.2.2.1 ∧ 4 ≤ aK A o p + r.2.1 ∧ aK A r.1 p < r.2.1) := fun q i hi r' hr' => by
          by_cases e : i = j
          · subst e; rw [hr] at hr'; cases hr'; exact q
          · exact hno i (by omega) r' hr'
        unfold bX1_isInDispute_18
        simp (disch := omega) only [h1, g1, g2, g3, g4, holds_eq w1, hk2, nm, bnd_s, bnd_n, bn2_s, l0, l1, l2, l3, l4, l7, l8, l9, l16, l80, l88, l200, l300, pk_mul, nI_add, nI_sb, mx1, mn1, ax_nI, nI_cl, nI_lt', nI_le', nI_eq', if_pos, if_neg, if_true, if_false]
        by_cases c1 : r.1 = o
        · left
          simp (disch := omega) only [nm, bnd_s, bnd_n, bn2_s, l0, l1, l2, l3, l4, l7, l8, l9, l16, l80, l88, l200, l300, pk_mul, nI_add, nI_sb, mx1, mn1, ax_nI, nI_cl, nI_lt', nI_le', nI_eq', if_pos, if_neg, if_true, if_false]
          exact ⟨_, rfl, rfl, next (by omega)⟩
        · by_cases c2 : bt g r.1 = true
          · by_cases c3 : p < r.2.2.1
            · left
              simp (disch := omega) only [eq_true c2, nm, bnd_s, bnd_n, bn2_s, l0, l1, l2, l3, l4, l7, l8, l9, l16, l80, l88, l200, l300, pk_mul, nI_add, nI_sb, mx1, mn1, ax_nI, nI_cl, nI_lt', nI_le', nI_eq', if_pos, if_neg, if_true, if_false]
              exact ⟨_, rfl, rfl, next (by omega)⟩
            · by_cases c4 : r.2.2.2.1 ≤ p
              · left
                simp (disch := omega) only [eq_true c2, nm, bnd_s, bnd_n, bn2_s, l0, l1, l2, l3, l4, l7, l8, l9, l16, l80, l88, l200, l300, pk_mul, nI_add, nI_sb, mx1, mn1, ax_nI, nI_cl, nI_lt', nI_le', nI_eq', if_pos, if_neg, if_true, if_false]
                exact ⟨_, rfl, rfl, next (by omega)⟩
              · by_cases c5 : aK A o p + r.2.1 < 4
                · left
                  simp (disch := omega) only [eq_true c2, nm, bnd_s, bnd_n, bn2_s, l0, l1, l2, l3, l4, l7, l8, l9, l16, l80, l88, l200, l300, pk_mul, nI_add, nI_sb, mx1, mn1, ax_nI, nI_cl, nI_lt', nI_le', nI_eq', if_pos, if_neg, if_true, if_false]
                  exact ⟨_, rfl, rfl, next (by omega)⟩
                · by_cases c6 : r.2.1 ≤ aK A r.1 p
                  · left
                    simp (disch := omega) only [eq_true c2, nm, bnd_s, bnd_n, bn2_s, l0, l1, l2, l3, l4, l7, l8, l9, l16, l80, l88, l200, l300, pk_mul, nI_add, nI_sb, mx1, mn1, ax_nI, nI_cl, nI_lt', nI_le', nI_eq', if_pos, if_neg, if_true, if_false]
                    exact ⟨_, rfl, rfl, next (by omega)⟩
                  · right
                    simp (disch := omega) only [eq_true c2, nm, bnd_s, bnd_n, bn2_s, l0, l1, l2, l3, l4, l7, l8, l9, l16, l80, l88, l200, l300, pk_mul, nI_add, nI_sb, mx1, mn1, ax_nI, nI_cl, nI_lt', nI_le', nI_eq', if_pos, if_neg, if_true, if_false]
                    exact ⟨_, rfl, Or.inl ⟨rfl, r, List.mem_of_getElem? hr, c1, c2, by omega, by omega, by omega, by omega⟩⟩
          · left
            simp (disch := omega) only [eq_false c2, nm, bnd_s, bnd_n, bn2_s, l0, l1, l2, l3, l4, l7, l8, l9, l16, l80, l88, l200, l300, pk_mul, nI_add, nI_sb, mx1, mn1, ax_nI, nI_cl, nI_lt', nI_le', nI_eq', if_pos, if_neg, if_true, if_false]
            exact ⟨_, rfl, rfl, next fun q => c2 q.2.1⟩)
      (fun s hs => by
        obtain ⟨rfl, hno⟩ := hs
        unfold bX1_isInDispute_18
        simp (disch := omega) only [h1, nm, bnd_s, bnd_n, bn2_s, l0, l1, l2, l3, l4, l7, l8, l9, l16, l80, l88, l200, l300, pk_mul, nI_add, nI_sb, mx1, mn1, ax_nI, nI_cl, nI_lt', nI_le', nI_eq', if_pos, if_neg, if_true, if_false]
        refine ⟨_, rfl, Or.inr ⟨rfl, fun ⟨r, hr, q⟩ => ?_⟩⟩
        obtain ⟨i, hi⟩ := List.getElem?_of_mem hr
        exact hno i (List.getElem?_eq_some_iff.mp hi).1 r hi q) (nI 0) (by omega) ⟨rfl, fun i hi => by omega⟩ (by omega)
    unfold fX1_isInDispute
    rw [hk]
    rcases hz with ⟨rfl, hz⟩ | ⟨rfl, hz⟩
    · left
      refine ⟨hz, ?_⟩
      simp (disch := omega) only [he, nm, bnd_s, bnd_n, bn2_s, l0, l1, l2, l3, l4, l7, l8, l9, l16, l80, l88, l200, l300, pk_mul, nI_add, nI_sb, mx1, mn1, ax_nI, nI_cl, nI_lt', nI_le', nI_eq', if_pos, if_neg, if_true, if_false]
      rfl
    · right
      refine ⟨hz, ?_⟩
      simp (disch := omega) only [he, nm, bnd_s, bnd_n, bn2_s, l0, l1, l2, l3, l4, l7, l8, l9, l16, l80, l88, l200, l300, pk_mul, nI_add, nI_sb, mx1, mn1, ax_nI, nI_cl, nI_lt', nI_le', nI_eq', if_pos, if_neg, if_true, if_false]
      rfl
theorem placesInDispute_eq (h : RepL σ A) (hw : WF A) {o : Nat} (g : Int32) (ho : o < 8) : fX1_placesInDispute (nI o) g σ = some (nI (dcn A o g)) := by
  obtain ⟨e, he, rfl⟩ := lp_rng (b := fun t : (Int32 × Int32) => bX1_placesInDispute_5 (nI o) g σ t.1 t.2)
    (fun j s => s = (nI (dcu A o g j), nI j)) (fun e => e = (nI (dcu A o g 300), nI 300)) 0 300
    (fun j s _ hj hs => by
      subst hs
      show ∃ s', bX1_placesInDispute_5 (nI o) g σ (nI (dcu A o g j)) (nI j) = some (.inl s') ∧ _
      have hn := dcu_le A o g j
      unfold bX1_placesInDispute_5
      rcases isInDispute_eq h hw g ho hj with ⟨c, e⟩ | ⟨c, e⟩
      · simp (disch := omega) only [e, nm, bnd_s, bnd_n, bn2_s, l0, l1, l2, l3, l4, l7, l8, l9, l16, l80, l88, l200, l300, pk_mul, nI_add, nI_sb, mx1, mn1, ax_nI, nI_cl, nI_lt', nI_le', nI_eq', if_pos, if_neg, if_true, if_false]
        exact ⟨_, rfl, by rw [dcu_s c]⟩
      · simp (disch := omega) only [e, nm, bnd_s, bnd_n, bn2_s, l0, l1, l2, l3, l4, l7, l8, l9, l16, l80, l88, l200, l300, pk_mul, nI_add, nI_sb, mx1, mn1, ax_nI, nI_cl, nI_lt', nI_le', nI_eq', if_pos, if_neg, if_true, if_false]
        exact ⟨_, rfl, by rw [dcu_ns c]⟩)
    (fun s hs => by
      subst hs
      show ∃ e, bX1_placesInDispute_5 (nI o) g σ (nI (dcu A o g 300)) (nI 300) = some (.inr e) ∧ _
      unfold bX1_placesInDispute_5
      simp (disch := omega) only [nm, bnd_s, bnd_n, bn2_s, l0, l1, l2, l3, l4, l7, l8, l9, l16, l80, l88, l200, l300, pk_mul, nI_add, nI_sb, mx1, mn1, ax_nI, nI_cl, nI_lt', nI_le', nI_eq', if_pos, if_neg, if_true, if_false]
      exact ⟨_, rfl, rfl⟩) (nI 0, nI 0) (by omega) rfl (by omega)
  unfold fX1_placesInDispute dcn
  simp (disch := omega) only [he, nm, bnd_s, bnd_n, bn2_s, l0, l1, l2, l3, l4, l7, l8, l9, l16, l80, l88, l200, l300, pk_mul, nI_add, nI_sb, mx1, mn1, ax_nI, nI_cl, nI_lt', nI_le', nI_eq', if_pos, if_neg, if_true, if_false]
theorem leastL_eq (h : RepL σ A) (hw : WF A) (g : Int32) (hex : ∃ x, x < 8 ∧ bt g x = true ∧ 0 < dcn A x g) : ∃ b, lh A g b ∧ fX1_leastHarmed g σ = some (nI b) := by
  obtain ⟨e, he, b, w, hb, rfl⟩ := lp_rng (b := fun t : (Int32 × Int32 × Int32) => bX1_leastHarmed_9 g σ t.1 t.2.1 t.2.2)
    (fun j s => (s = (nI 301, -1, nI j) ∧ ∀ x, x < j → bt g x = true → ¬ 0 < dcn A x g) ∨ ∃ b, b < j ∧ s = (nI (dcn A b g), nI b, nI j) ∧ bt g b = true ∧ 0 < dcn A b g ∧ ∀ x, x < j → bt g x = true → 0 < dcn A x g → dcn A b g < dcn A x g ∨ (dcn A b g = dcn A x g ∧ x ≤ b))
    (fun e => ∃ b w, lh A g b ∧ e = (w, nI b, nI 8)) 0 8
    (fun j s _ hj hs => by
      have hn := dcu_le A j g 300
      have hd : dcn A j g ≤ 300 := hn
      have hq := placesInDispute_eq h hw g hj
      rcases hs with ⟨rfl, hno⟩ | ⟨b, hbj, rfl, hb1, hb2, hb3⟩
      · show ∃ s', bX1_leastHarmed_9 g σ (nI 301) (-1) (nI j) = some (.inl s') ∧ _
        unfold bX1_leastHarmed_9
        by_cases c : bt g j = true
        · by_cases c2 : dcn A j g ≤ 0
          · simp (disch := omega) only [holds_eq hj, eq_true c, hq, nm, bnd_s, bnd_n, bn2_s, l0, l1, l2, l3, l4, l7, l8, l9, l16, l80, l88, l200, l300, pk_mul, nI_add, nI_sb, mx1, mn1, ax_nI, nI_cl, nI_lt', nI_le', nI_eq', if_pos, if_neg, if_true, if_false]
            exact ⟨_, rfl, Or.inl ⟨rfl, fun x hx hbx => by
              by_cases e : x = j
              · subst e; omega
              · exact hno x (by omega) hbx⟩⟩
          · simp (disch := omega) only [holds_eq hj, eq_true c, hq, nm, bnd_s, bnd_n, bn2_s, l0, l1, l2, l3, l4, l7, l8, l9, l16, l80, l88, l200, l300, pk_mul, nI_add, nI_sb, mx1, mn1, ax_nI, nI_cl, nI_lt', nI_le', nI_eq', if_pos, if_neg, if_true, if_false]
            exact ⟨_, rfl, Or.inr ⟨j, by omega, rfl, c, by omega, fun x hx hbx hdx => by
              by_cases e : x = j
              · subst e; exact Or.inr ⟨rfl, Nat.le_refl _⟩
              · exact absurd hdx (hno x (by omega) hbx)⟩⟩
        · simp (disch := omega) only [nm, l0, l1, l8, nI_le', if_neg, holds_eq hj, eq_false c, if_false, bnd_s, if_true, nI_add]
          exact ⟨_, rfl, Or.inl ⟨rfl, fun x hx hbx => by
            by_cases e : x = j
            · subst e; exact absurd hbx c
            · exact hno x (by omega) hbx⟩⟩
      · show ∃ s', bX1_leastHarmed_9 g σ (nI (dcn A b g)) (nI b) (nI j) = some (.inl s') ∧ _
        have hn2 : dcn A b g ≤ 300 := dcu_le A b g 300
        unfold bX1_leastHarmed_9
        by_cases c : bt g j = true
        · by_cases c2 : dcn A j g ≤ 0
          · simp (disch := omega) only [holds_eq hj, eq_true c, hq, nm, bnd_s, bnd_n, bn2_s, l0, l1, l2, l3, l4, l7, l8, l9, l16, l80, l88, l200, l300, pk_mul, nI_add, nI_sb, mx1, mn1, ax_nI, nI_cl, nI_lt', nI_le', nI_eq', if_pos, if_neg, if_true, if_false]
            exact ⟨_, rfl, Or.inr ⟨b, by omega, rfl, hb1, hb2, fun x hx hbx hdx => by
              by_cases e : x = j
              · subst e; omega
              · exact hb3 x (by omega) hbx hdx⟩⟩
          · by_cases c3 : dcn A b g < dcn A j g
            · simp (disch := omega) only [holds_eq hj, eq_true c, hq, nm, bnd_s, bnd_n, bn2_s, l0, l1, l2, l3, l4, l7, l8, l9, l16, l80, l88, l200, l300, pk_mul, nI_add, nI_sb, mx1, mn1, ax_nI, nI_cl, nI_lt', nI_le', nI_eq', if_pos, if_neg, if_true, if_false]
              exact ⟨_, rfl, Or.inr ⟨b, by omega, rfl, hb1, hb2, fun x hx hbx hdx => by
                by_cases e : x = j
                · subst e; exact Or.inl c3
                · exact hb3 x (by omega) hbx hdx⟩⟩
            · simp (disch := omega) only [holds_eq hj, eq_true c, hq, nm, bnd_s, bnd_n, bn2_s, l0, l1, l2, l3, l4, l7, l8, l9, l16, l80, l88, l200, l300, pk_mul, nI_add, nI_sb, mx1, mn1, ax_nI, nI_cl, nI_lt', nI_le', nI_eq', if_pos, if_neg, if_true, if_false]
              exact ⟨_, rfl, Or.inr ⟨j, by omega, rfl, c, by omega, fun x hx hbx hdx => by
                by_cases e : x = j
                · subst e; exact Or.inr ⟨rfl, Nat.le_refl _⟩
                · have := hb3 x (by omega) hbx hdx
                  omega⟩⟩
        · simp (disch := omega) only [holds_eq hj, eq_false c, nm, bnd_s, bnd_n, bn2_s, l0, l1, l2, l3, l4, l7, l8, l9, l16, l80, l88, l200, l300, pk_mul, nI_add, nI_sb, mx1, mn1, ax_nI, nI_cl, nI_lt', nI_le', nI_eq', if_pos, if_neg, if_true, if_false]
          exact ⟨_, rfl, Or.inr ⟨b, by omega, rfl, hb1, hb2, fun x hx hbx hdx => by
            by_cases e : x = j
            · subst e; exact absurd hbx c
            · exact hb3 x (by omega) hbx hdx⟩⟩)
    (fun s hs => by
      rcases hs with ⟨rfl, hno⟩ | ⟨b, hbj, rfl, hb1, hb2, hb3⟩
      · obtain ⟨x, hx, hbx, hdx⟩ := hex
        exact absurd hdx (hno x hx hbx)
      · show ∃ e, bX1_leastHarmed_9 g σ (nI (dcn A b g)) (nI b) (nI 8) = some (.inr e) ∧ _
        unfold bX1_leastHarmed_9
        simp (disch := omega) only [nm, bnd_s, bnd_n, bn2_s, l0, l1, l2, l3, l4, l7, l8, l9, l16, l80, l88, l200, l300, pk_mul, nI_add, nI_sb, mx1, mn1, ax_nI, nI_cl, nI_lt', nI_le', nI_eq', if_pos, if_neg, if_true, if_false]
        exact ⟨_, rfl, b, _, ⟨hbj, hb1, hb2, hb3⟩, rfl⟩) ((301 : Int32), (-1 : Int32), nI 0) (by omega) (Or.inl ⟨rfl, fun x hx => by omega⟩) (by omega)
  refine ⟨b, hb, ?_⟩
  unfold fX1_leastHarmed
  rw [show lp (fun t : (Int32 × Int32 × Int32) => bX1_leastHarmed_9 g σ t.1 t.2.1 t.2.2) FU ((301 : Int32), (-1 : Int32), (0 : Int32)) = _ from he]
  rfl
theorem RepL.sc (h : RepL σ A) {c j : Nat} (hc : (c = 1 ∧ j = 0) ∨ (c = 13 ∧ j = 1) ∨ (c = 14 ∧ j = 2)) (v : Int32) : RepL (put σ c (fun _ => v)) (glbA A j v) := by
  obtain ⟨g0, g1, g2, g3, g4, g5, g6⟩ := h.1
  refine ⟨?_, ?_, ?_, ?_, ?_⟩
  · rcases hc with ⟨rfl, rfl⟩ | ⟨rfl, rfl⟩ | ⟨rfl, rfl⟩
    · exact ⟨rfl, g1, g2, g3, g4, g5, g6⟩
    · exact ⟨g0, rfl, g2, g3, g4, g5, g6⟩
    · exact ⟨g0, g1, rfl, g3, g4, g5, g6⟩
  · intro i r hr
    rw [put_n _ _ (by omega), put_n _ _ (by omega), put_n _ _ (by omega), put_n _ _ (by omega), put_n _ _ (by omega)]
    exact h.2.1 i r hr
  · intro x hx hno
    rw [put_n _ _ (by omega)]
    exact h.2.2.1 x hx hno
  · intro x hx
    rw [put_n _ _ (by omega), put_n _ _ (by omega), put_n _ _ (by omega), put_n _ _ (by omega)]
    exact h.2.2.2.1 x hx
  · intro k p hk hk3 hp
    rw [put_n _ _ (by omega)]
    exact h.2.2.2.2 k p hk hk3 hp
theorem cntA_s (A : AS) (o j n : Nat) : cntA (cntA A o j (nI n)) o j 1 = cntA A o j (nI (n + 1)) := by
  unfold cntA
  refine Prod.ext rfl (Prod.ext rfl (Prod.ext ?_ rfl))
  funext x w
  show (if x = o ∧ w = j then (if x = o ∧ w = j then aC A x w + nI n else aC A x w) + 1 else if x = o ∧ w = j then aC A x w + nI n else aC A x w) = if x = o ∧ w = j then aC A x w + nI (n + 1) else aC A x w
  by_cases c : x = o ∧ w = j
  · rw [if_pos c, if_pos c, if_pos c, nI_succ, Int32.add_assoc]
  · rw [if_neg c, if_neg c, if_neg c]
theorem cntA_0 (A : AS) (o j : Nat) : cntA A o j (nI 0) = A := by
  unfold cntA
  refine Prod.ext rfl (Prod.ext rfl (Prod.ext ?_ rfl))
  funext x w
  show (if x = o ∧ w = j then aC A x w + nI 0 else aC A x w) = aC A x w
  by_cases c : x = o ∧ w = j
  · rw [if_pos c, show nI 0 = 0 from rfl, Int32.add_zero]
  · rw [if_neg c]
theorem giveUp_eq (h : RepL σ A) (hw : WF A) {b : Nat} (g : Int32) (hb : b < 8) : ∃ σ', fX1_giveUp (nI b) g σ = some σ' ∧ RepL σ' (brk A b g) := by
  have hown : fX3_isOwner (nI b) = some (nI 1) := by
    unfold fX3_isOwner
    simp (disch := omega) only [nm, bnd_s, bnd_n, bn2_s, l0, l1, l2, l3, l4, l7, l8, l9, l16, l80, l88, l200, l300, pk_mul, nI_add, nI_sb, mx1, mn1, ax_nI, nI_cl, nI_lt', nI_le', nI_eq', if_pos, if_neg, if_true, if_false]
  obtain ⟨e, he, s1, rfl, r1⟩ := lp_rng (b := fun t : (Int32 × St) => bX1_giveUp_10 (nI b) g t.1 t.2)
    (fun j s => ∃ s', s = (nI j, s') ∧ RepL s' (cntA (dropU A b g j) b 2 (nI (dcu A b g j))))
    (fun e => ∃ s', e = (nI 300, s') ∧ RepL s' (cntA (dropU A b g 300) b 2 (nI (dcu A b g 300)))) 0 300
    (fun j s _ hj hs => by
      obtain ⟨s', rfl, r1⟩ := hs
      show ∃ s'', bX1_giveUp_10 (nI b) g (nI j) s' = some (.inl s'') ∧ _
      unfold bX1_giveUp_10
      have hd0 : dsp (dropU A b g j) b j g ↔ dsp A b j g := dropU_dsp
      have hd : dsp (cntA (dropU A b g j) b 2 (nI (dcu A b g j))) b j g ↔ dsp A b j g := hd0
      rcases isInDispute_eq r1 (hw.dropU (b := b) (g := g) (n := j)) g hb hj with ⟨c, e⟩ | ⟨c, e⟩
      · obtain ⟨s2, e2, r2⟩ := lockL_eq r1 (p := j) (k := 0) hb hj (by omega)
        have r3 := r2.cnt hb (j := 2) (by omega) 1
        have e3 : cntA (setK (cntA (dropU A b g j) b 2 (nI (dcu A b g j))) b j (j + 1) 0) b 2 1 = cntA (dropU A b g (j + 1)) b 2 (nI (dcu A b g (j + 1))) := by
          show cntA (cntA (setK (dropU A b g j) b j (j + 1) 0) b 2 (nI (dcu A b g j))) b 2 1 = _
          rw [dropU_s (hd.mp c), cntA_s, dcu_s (hd.mp c)]
        rw [e3] at r3
        simp (disch := omega) only [e, e2, nm, bnd_s, bnd_n, bn2_s, l0, l1, l2, l3, l4, l7, l8, l9, l16, l80, l88, l200, l300, pk_mul, nI_add, nI_sb, mx1, mn1, ax_nI, nI_cl, nI_lt', nI_le', nI_eq', if_pos, if_neg, if_true, if_false]
        exact ⟨_, rfl, _, rfl, r3⟩
      · simp (disch := omega) only [e, nm, bnd_s, bnd_n, bn2_s, l0, l1, l2, l3, l4, l7, l8, l9, l16, l80, l88, l200, l300, pk_mul, nI_add, nI_sb, mx1, mn1, ax_nI, nI_cl, nI_lt', nI_le', nI_eq', if_pos, if_neg, if_true, if_false]
        refine ⟨_, rfl, s', rfl, ?_⟩
        rw [dropU_ns fun q => c (hd.mpr q), dcu_ns fun q => c (hd.mpr q)]
        exact r1)
    (fun s hs => by
      obtain ⟨s', rfl, r1⟩ := hs
      show ∃ e, bX1_giveUp_10 (nI b) g (nI 300) s' = some (.inr e) ∧ _
      unfold bX1_giveUp_10
      simp (disch := omega) only [nm, bnd_s, bnd_n, bn2_s, l0, l1, l2, l3, l4, l7, l8, l9, l16, l80, l88, l200, l300, pk_mul, nI_add, nI_sb, mx1, mn1, ax_nI, nI_cl, nI_lt', nI_le', nI_eq', if_pos, if_neg, if_true, if_false]
      exact ⟨_, rfl, s', rfl, r1⟩) (nI 0, σ) (by omega) ⟨σ, rfl, by
        rw [dropU_0, show dcu A b g 0 = 0 from rfl, cntA_0]
        exact h⟩ (by omega)
  have r2 := r1.sc (c := 14) (j := 2) (Or.inr (Or.inr ⟨rfl, rfl⟩)) (aG A 2 + 1)
  refine ⟨_, ?_, r2⟩
  have g2 : s1 14 0 = aG A 2 := r1.1.2.2.1
  unfold fX1_giveUp
  simp (disch := omega) only [hown, he, g2, nm, bnd_s, bnd_n, bn2_s, l0, l1, l2, l3, l4, l7, l8, l9, l16, l80, l88, l200, l300, pk_mul, nI_add, nI_sb, mx1, mn1, ax_nI, nI_cl, nI_lt', nI_le', nI_eq', if_pos, if_neg, if_true, if_false]
end LK
