/-! The class: who is in the way -/
theorem holds_eq {x : Nat} (hx : x < 8) (z : Int32) : fX3_holds z (nI x) = some (if bt z x = true then nI 1 else nI 0) := by
  unfold fX3_holds
  by_cases h : bt z x = true
  · rw [if_neg (fun q => by rw [(bt_has0 hx z).mp q] at h; cases h), if_pos h]; rfl
  · rw [if_pos ((bt_has0 hx z).mpr (Bool.eq_false_iff.mpr h)), if_neg h]; rfl
section LB
variable {σ : St} {A : AS}
theorem bitL (h : RepL σ A) {o k p : Nat} (ho : o < 8) (hk : 1 ≤ k) (hk3 : k ≤ 3) (hp : p < 300) : (σ (16 + k) p &&& (nI 1 <<< (nI o &&& 31)) = nI 0) = (aK A o p < k) := by
  have h1 := (h.2.2.2.2 k p hk hk3 hp) o (by omega)
  apply propext
  rw [show (σ (16 + k) p &&& (nI 1 <<< (nI o &&& 31)) = nI 0) ↔ bt (σ (16 + k) p) o = false from bt_one0 ho _]
  constructor
  · intro q
    rcases Nat.lt_or_ge (aK A o p) k with c | c
    · exact c
    · rw [h1.mpr ⟨ho, c⟩] at q; cases q
  · intro q
    rw [Bool.eq_false_iff]
    intro c
    have := (h1.mp c).2
    omega
theorem isWeaker_eq (h : RepL σ A) {o k f t : Nat} (ho : o < 8) (hk : 1 ≤ k) (hk3 : k ≤ 3) (ht : t ≤ 300) (hf : f ≤ 300) : ((∃ p, f ≤ p ∧ p < t ∧ aK A o p < k) ∧ fX1_isWeaker (nI o) (nI k) (nI f) (nI t) σ = some (nI 1)) ∨ ((¬ ∃ p, f ≤ p ∧ p < t ∧ aK A o p < k) ∧ fX1_isWeaker (nI o) (nI k) (nI f) (nI t) σ = some (nI 0)) := by
  have hFU := FU_v
  rcases Nat.lt_or_ge t f with hft | hft
  · refine Or.inr ⟨fun ⟨p, a, b, _⟩ => by omega, ?_⟩
    unfold fX1_isWeaker
    have hb : bX1_isWeaker_16 (nI k) (nI t) σ (nI 1 <<< (nI o &&& 31)) (nI f) = some (.inr (.inl (nI f))) := by
      unfold bX1_isWeaker_16
      simp (disch := omega) only [nm, bnd_s, bnd_n, bn2_s, l0, l1, l2, l3, l4, l7, l8, l9, l16, l80, l88, l200, l300, pk_mul, nI_add, nI_sb, mx1, mn1, ax_nI, nI_cl, nI_lt', nI_le', nI_eq', if_pos, if_neg]
    have := lp_ex (b := fun x : Int32 => bX1_isWeaker_16 (nI k) (nI t) σ (nI 1 <<< (nI o &&& 31)) x) (s := nI f) hb
    simp (disch := omega) only [this, nm, bnd_s, bnd_n, bn2_s, l0, l1, l2, l3, l4, l7, l8, l9, l16, l80, l88, l200, l300, pk_mul, nI_add, nI_sb, mx1, mn1, ax_nI, nI_cl, nI_lt', nI_le', nI_eq', if_pos, if_neg]
    rfl
  · obtain ⟨e, he, hz⟩ := lp_rngB (b := fun x : Int32 => bX1_isWeaker_16 (nI k) (nI t) σ (nI 1 <<< (nI o &&& 31)) x)
      (fun j s => s = nI j ∧ ¬ ∃ p, f ≤ p ∧ p < j ∧ aK A o p < k)
      (fun e => (e = .inr (nI 1) ∧ ∃ p, f ≤ p ∧ p < t ∧ aK A o p < k) ∨ (e = .inl (nI t) ∧ ¬ ∃ p, f ≤ p ∧ p < t ∧ aK A o p < k)) f t
      (fun j s hfj hj hs => by
        obtain ⟨rfl, hno⟩ := hs
        have hb := bitL h ho hk hk3 (p := j) (by omega)
        unfold bX1_isWeaker_16
        by_cases c : aK A o j < k
        · right
          simp (disch := omega) only [hb, nm, bnd_s, bnd_n, bn2_s, l0, l1, l2, l3, l4, l7, l8, l9, l16, l80, l88, l200, l300, pk_mul, nI_add, nI_sb, mx1, mn1, ax_nI, nI_cl, nI_lt', nI_le', nI_eq', if_pos, if_neg]
          exact ⟨_, rfl, Or.inl ⟨rfl, j, hfj, hj, c⟩⟩
        · left
          simp (disch := omega) only [hb, nm, bnd_s, bnd_n, bn2_s, l0, l1, l2, l3, l4, l7, l8, l9, l16, l80, l88, l200, l300, pk_mul, nI_add, nI_sb, mx1, mn1, ax_nI, nI_cl, nI_lt', nI_le', nI_eq', if_pos, if_neg]
          refine ⟨_, rfl, rfl, fun ⟨p, a, b, d⟩ => ?_⟩
          by_cases e : p = j
          · subst e; exact c d
          · exact hno ⟨p, a, by omega, d⟩)
      (fun s hs => by
        obtain ⟨rfl, hno⟩ := hs
        unfold bX1_isWeaker_16
        simp (disch := omega) only [nm, bnd_s, bnd_n, bn2_s, l0, l1, l2, l3, l4, l7, l8, l9, l16, l80, l88, l200, l300, pk_mul, nI_add, nI_sb, mx1, mn1, ax_nI, nI_cl, nI_lt', nI_le', nI_eq', if_pos, if_neg]
        exact ⟨_, rfl, Or.inr ⟨rfl, hno⟩⟩)
      (nI f) hft ⟨rfl, fun ⟨p, a, b, _⟩ => by omega⟩ (by omega)
    unfold fX1_isWeaker
    rcases hz with ⟨rfl, hz⟩ | ⟨rfl, hz⟩
    · left
      refine ⟨hz, ?_⟩
      simp (disch := omega) only [he, nm, bnd_s, bnd_n, bn2_s, l0, l1, l2, l3, l4, l7, l8, l9, l16, l80, l88, l200, l300, pk_mul, nI_add, nI_sb, mx1, mn1, ax_nI, nI_cl, nI_lt', nI_le', nI_eq', if_pos, if_neg]
      rfl
    · right
      refine ⟨hz, ?_⟩
      simp (disch := omega) only [he, nm, bnd_s, bnd_n, bn2_s, l0, l1, l2, l3, l4, l7, l8, l9, l16, l80, l88, l200, l300, pk_mul, nI_add, nI_sb, mx1, mn1, ax_nI, nI_cl, nI_lt', nI_le', nI_eq', if_pos, if_neg]
      rfl
theorem inWay_eq (h : RepL σ A) (hw : WF A) {o k f t n : Nat} (ho : o < 8) (hk : 1 ≤ k) (hk3 : k ≤ 3) (hft : f ≤ t) (ht : t ≤ 300) (hn : n ≤ (aR A).length) : ∃ r, fX1_inWay (nI o) (nI k) (nI f) (nI t) (nI n) σ = some r ∧ isM r (stp A o k f t n) := by
  have hFU := FU_v
  have hlen := hw.len
  obtain ⟨e1, he1, s1, rfl, hs1⟩ := lp_rng (b := fun t' : (Int32 × Int32) => bX1_inWay_29 (nI k) (nI t) σ (nI 1 <<< (nI o &&& 31)) t'.1 t'.2)
    (fun j s => ∃ z, s = (z, nI j) ∧ isM z (fun x => ∃ p, f ≤ p ∧ p < j ∧ aK A o p < k ∧ x < 8 ∧ 4 ≤ k + aK A x p))
    (fun e => ∃ z, e = (z, nI t) ∧ isM z (fun x => ∃ p, f ≤ p ∧ p < t ∧ aK A o p < k ∧ x < 8 ∧ 4 ≤ k + aK A x p)) f t
    (fun j s hfj hj hs => by
      obtain ⟨z, rfl, hz⟩ := hs
      show ∃ s', bX1_inWay_29 (nI k) (nI t) σ (nI 1 <<< (nI o &&& 31)) z (nI j) = some (.inl s') ∧ _
      have hb := bitL h ho hk hk3 (p := j) (by omega)
      have hm := h.2.2.2.2 (4 - k) j (by omega) (by omega) (by omega)
      unfold bX1_inWay_29
      by_cases c : aK A o j < k
      · simp (disch := omega) only [hb, nm, bnd_s, bnd_n, bn2_s, l0, l1, l2, l3, l4, l7, l8, l9, l16, l80, l88, l200, l300, pk_mul, nI_add, nI_sb, mx1, mn1, ax_nI, nI_cl, nI_lt', nI_le', nI_eq', if_pos, if_neg]
        refine ⟨_, rfl, _, rfl, isM_congr (isM_or hz hm) fun i hi => ⟨?_, ?_⟩⟩
        · rintro (⟨p, a, b, d⟩ | ⟨a, b⟩)
          · exact ⟨p, a, by omega, d⟩
          · exact ⟨j, hfj, by omega, c, a, by omega⟩
        · rintro ⟨p, a, b, d, e, g⟩
          by_cases q : p = j
          · subst q; exact Or.inr ⟨e, by omega⟩
          · exact Or.inl ⟨p, a, by omega, d, e, g⟩
      · simp (disch := omega) only [hb, nm, bnd_s, bnd_n, bn2_s, l0, l1, l2, l3, l4, l7, l8, l9, l16, l80, l88, l200, l300, pk_mul, nI_add, nI_sb, mx1, mn1, ax_nI, nI_cl, nI_lt', nI_le', nI_eq', if_pos, if_neg]
        refine ⟨_, rfl, _, rfl, isM_congr hz fun i hi => ⟨?_, ?_⟩⟩
        · rintro ⟨p, a, b, d⟩
          exact ⟨p, a, by omega, d⟩
        · rintro ⟨p, a, b, d, e, g⟩
          by_cases q : p = j
          · subst q; exact absurd d c
          · exact ⟨p, a, by omega, d, e, g⟩)
    (fun s hs => by
      obtain ⟨z, rfl, hz⟩ := hs
      show ∃ e, bX1_inWay_29 (nI k) (nI t) σ (nI 1 <<< (nI o &&& 31)) z (nI t) = some (.inr e) ∧ _
      unfold bX1_inWay_29
      simp (disch := omega) only [nm, bnd_s, bnd_n, bn2_s, l0, l1, l2, l3, l4, l7, l8, l9, l16, l80, l88, l200, l300, pk_mul, nI_add, nI_sb, mx1, mn1, ax_nI, nI_cl, nI_lt', nI_le', nI_eq', if_pos, if_neg]
      exact ⟨_, rfl, z, rfl, hz⟩)
    (nI 0, nI f) hft ⟨_, rfl, isM_0 fun i hi q => by obtain ⟨p, a, b, -⟩ := q; omega⟩ (by omega)
  have fin : ∀ z, isM z (fun x => x < 8 ∧ ∃ p, f ≤ p ∧ p < t ∧ aK A o p < k ∧ (4 ≤ k + aK A x p ∨ (aG A 3 = 1 ∧ ∃ r ∈ (aR A).take n, r.1 = x ∧ r.2.2.1 ≤ p ∧ p < r.2.2.2.1 ∧ 4 ≤ k + r.2.1))) → isM (z &&& ((nI 1 <<< (nI o &&& 31)) ^^^ (-1 : Int32))) (stp A o k f t n) := by
    intro z hz
    refine isM_congr (isM_andnot ho hz) fun i hi => ⟨?_, ?_⟩
    · rintro ⟨⟨a, p, b, c, d, e⟩, g⟩
      exact ⟨p, b, c, d, a, g, e⟩
    · rintro ⟨p, b, c, d, a, g, e⟩
      exact ⟨⟨a, p, b, c, d, e⟩, g⟩
  have two : ∃ z x, lp (fun t' : (Int32 × Int32) => bX1_inWay_66 (nI o) (nI k) (nI f) (nI t) (nI n) σ t'.1 t'.2) FU (s1, nI 0) = some (z, x) ∧ isM z (fun x => x < 8 ∧ ∃ p, f ≤ p ∧ p < t ∧ aK A o p < k ∧ (4 ≤ k + aK A x p ∨ (aG A 3 = 1 ∧ ∃ r ∈ (aR A).take n, r.1 = x ∧ r.2.2.1 ≤ p ∧ p < r.2.2.2.1 ∧ 4 ≤ k + r.2.1))) := by
    rcases hw.2.2.2.1 with hF | hF
    · have hb : bX1_inWay_66 (nI o) (nI k) (nI f) (nI t) (nI n) σ s1 (nI 0) = some (.inr (s1, nI 0)) := by
        unfold bX1_inWay_66
        by_cases hn0 : n = 0
        · subst hn0
          simp (disch := omega) only [nm, bnd_s, bnd_n, bn2_s, l0, l1, l2, l3, l4, l7, l8, l9, l16, l80, l88, l200, l300, pk_mul, nI_add, nI_sb, mx1, mn1, ax_nI, nI_cl, nI_lt', nI_le', nI_eq', if_pos, if_neg]
        · have e2 : σ 0 0 = nI 0 := h.1.2.2.2.1.trans hF
          simp (disch := omega) only [e2, nm, bnd_s, bnd_n, bn2_s, l0, l1, l2, l3, l4, l7, l8, l9, l16, l80, l88, l200, l300, pk_mul, nI_add, nI_sb, mx1, mn1, ax_nI, nI_cl, nI_lt', nI_le', nI_eq', if_pos, if_neg]
      refine ⟨s1, nI 0, lp_ex (b := fun t' : (Int32 × Int32) => bX1_inWay_66 (nI o) (nI k) (nI f) (nI t) (nI n) σ t'.1 t'.2) (s := (s1, nI 0)) hb, isM_congr hs1 fun i hi => ⟨?_, ?_⟩⟩
      · rintro ⟨p, a, b, c, d, e⟩
        exact ⟨d, p, a, b, c, Or.inl e⟩
      · rintro ⟨d, p, a, b, c, e | ⟨e, -⟩⟩
        · exact ⟨p, a, b, c, d, e⟩
        · rw [hF] at e; exact absurd e (by decide)
    · have e2 : σ 0 0 = nI 1 := h.1.2.2.2.1.trans hF
      have init : isM s1 (fun x => x < 8 ∧ ∃ p, f ≤ p ∧ p < t ∧ aK A o p < k ∧ (4 ≤ k + aK A x p ∨ ∃ r ∈ (aR A).take 0, r.1 = x ∧ r.2.2.1 ≤ p ∧ p < r.2.2.2.1 ∧ 4 ≤ k + r.2.1)) := isM_congr hs1 fun i hi => by
        constructor
        · rintro ⟨p, a, b, c, d, e⟩
          exact ⟨d, p, a, b, c, Or.inl e⟩
        · rintro ⟨d, p, a, b, c, e | ⟨r, e, -⟩⟩
          · exact ⟨p, a, b, c, d, e⟩
          · simp at e
      obtain ⟨e3, he3, s3, rfl, hs3⟩ := lp_rng (b := fun t' : (Int32 × Int32) => bX1_inWay_66 (nI o) (nI k) (nI f) (nI t) (nI n) σ t'.1 t'.2)
        (fun j s => ∃ z, s = (z, nI j) ∧ isM z (fun x => x < 8 ∧ ∃ p, f ≤ p ∧ p < t ∧ aK A o p < k ∧ (4 ≤ k + aK A x p ∨ ∃ r ∈ (aR A).take j, r.1 = x ∧ r.2.2.1 ≤ p ∧ p < r.2.2.2.1 ∧ 4 ≤ k + r.2.1)))
        (fun e => ∃ z, e = (z, nI n) ∧ isM z (fun x => x < 8 ∧ ∃ p, f ≤ p ∧ p < t ∧ aK A o p < k ∧ (4 ≤ k + aK A x p ∨ ∃ r ∈ (aR A).take n, r.1 = x ∧ r.2.2.1 ≤ p ∧ p < r.2.2.2.1 ∧ 4 ≤ k + r.2.1))) 0 n
        (fun j s _ hj hs => by
          obtain ⟨z, rfl, hz⟩ := hs
          show ∃ s', bX1_inWay_66 (nI o) (nI k) (nI f) (nI t) (nI n) σ z (nI j) = some (.inl s') ∧ _
          have hjl : j < (aR A).length := by omega
          obtain ⟨r, hr⟩ : ∃ r, (aR A)[j]? = some r := ⟨_, List.getElem?_eq_getElem hjl⟩
          obtain ⟨g1, g2, g3, g4, -⟩ := h.2.1 j r hr
          obtain ⟨w1, w2, w3, w4, w5⟩ := hw.2.2.1 r (List.mem_of_getElem? hr)
          have grow : ∀ i, (i < 8 ∧ ∃ p, f ≤ p ∧ p < t ∧ aK A o p < k ∧ (4 ≤ k + aK A i p ∨ ∃ r ∈ (aR A).take (j + 1), r.1 = i ∧ r.2.2.1 ≤ p ∧ p < r.2.2.2.1 ∧ 4 ≤ k + r.2.1)) ↔ (i < 8 ∧ ∃ p, f ≤ p ∧ p < t ∧ aK A o p < k ∧ (4 ≤ k + aK A i p ∨ ∃ r ∈ (aR A).take j, r.1 = i ∧ r.2.2.1 ≤ p ∧ p < r.2.2.2.1 ∧ 4 ≤ k + r.2.1)) ∨ (i = r.1 ∧ 4 ≤ k + r.2.1 ∧ ∃ p, max f r.2.2.1 ≤ p ∧ p < min t r.2.2.2.1 ∧ aK A o p < k) := by
            intro i
            constructor
            · rintro ⟨a, p, b, c, d, e | ⟨r', e, g⟩⟩
              · exact Or.inl ⟨a, p, b, c, d, Or.inl e⟩
              · rcases mem_take_s.mp e with e | e
                · exact Or.inl ⟨a, p, b, c, d, Or.inr ⟨r', e, g⟩⟩
                · rw [hr] at e
                  cases e
                  exact Or.inr ⟨g.1.symm, g.2.2.2, p, by omega, by omega, d⟩
            · rintro (⟨a, p, b, c, d, e | ⟨r', e, g⟩⟩ | ⟨rfl, a, p, b, c, d⟩)
              · exact ⟨a, p, b, c, d, Or.inl e⟩
              · exact ⟨a, p, b, c, d, Or.inr ⟨r', mem_take_s.mpr (Or.inl e), g⟩⟩
              · exact ⟨w1, p, by omega, by omega, d, Or.inr ⟨r, mem_take_s.mpr (Or.inr hr), rfl, by omega, by omega, a⟩⟩
          unfold bX1_inWay_66
          simp (disch := omega) only [e2, g1, g2, g3, g4, holds_eq w1, nm, bnd_s, bnd_n, bn2_s, l0, l1, l2, l3, l4, l7, l8, l9, l16, l80, l88, l200, l300, pk_mul, nI_add, nI_sb, mx1, mn1, ax_nI, nI_cl, nI_lt', nI_le', nI_eq', if_pos, if_neg]
          by_cases c1 : r.2.1 + k < 4
          · simp (disch := omega) only [nm, bnd_s, bnd_n, bn2_s, l0, l1, l2, l3, l4, l7, l8, l9, l16, l80, l88, l200, l300, pk_mul, nI_add, nI_sb, mx1, mn1, ax_nI, nI_cl, nI_lt', nI_le', nI_eq', if_pos, if_neg]
            refine ⟨_, rfl, _, rfl, isM_congr hz fun i hi => ?_⟩
            rw [grow]
            exact ⟨Or.inl, fun q => q.elim id fun q => by omega⟩
          · by_cases c2 : bt z r.1 = true
            · simp (disch := omega) only [c2, nm, bnd_s, bnd_n, bn2_s, l0, l1, l2, l3, l4, l7, l8, l9, l16, l80, l88, l200, l300, pk_mul, nI_add, nI_sb, mx1, mn1, ax_nI, nI_cl, nI_lt', nI_le', nI_eq', if_pos, if_neg]
              refine ⟨_, rfl, _, rfl, isM_congr hz fun i hi => ?_⟩
              rw [grow]
              refine ⟨Or.inl, fun q => q.elim id fun q => ?_⟩
              obtain ⟨rfl, -⟩ := q
              exact (hz r.1 (by omega)).mp c2
            · rcases isWeaker_eq h ho hk hk3 (f := max f r.2.2.1) (t := min r.2.2.2.1 t) (by omega) (by omega) with ⟨q1, q2⟩ | ⟨q1, q2⟩
              · simp (disch := omega) only [c2, q2, nm, bnd_s, bnd_n, bn2_s, l0, l1, l2, l3, l4, l7, l8, l9, l16, l80, l88, l200, l300, pk_mul, nI_add, nI_sb, mx1, mn1, ax_nI, nI_cl, nI_lt', nI_le', nI_eq', if_pos, if_neg]
                refine ⟨_, rfl, _, rfl, isM_congr (isM_or hz (isM_1 w1)) fun i hi => ?_⟩
                rw [grow]
                refine or_congr Iff.rfl ⟨fun q => ⟨q, by omega, ?_⟩, fun q => q.1⟩
                obtain ⟨p, a, b, c⟩ := q1
                exact ⟨p, a, by omega, c⟩
              · simp (disch := omega) only [c2, q2, nm, bnd_s, bnd_n, bn2_s, l0, l1, l2, l3, l4, l7, l8, l9, l16, l80, l88, l200, l300, pk_mul, nI_add, nI_sb, mx1, mn1, ax_nI, nI_cl, nI_lt', nI_le', nI_eq', if_pos, if_neg]
                refine ⟨_, rfl, _, rfl, isM_congr hz fun i hi => ?_⟩
                rw [grow]
                refine ⟨Or.inl, fun q => q.elim id fun q => ?_⟩
                obtain ⟨-, -, p, a, b, c⟩ := q
                exact absurd ⟨p, a, by omega, c⟩ q1)
        (fun s hs => by
          obtain ⟨z, rfl, hz⟩ := hs
          show ∃ e, bX1_inWay_66 (nI o) (nI k) (nI f) (nI t) (nI n) σ z (nI n) = some (.inr e) ∧ _
          unfold bX1_inWay_66
          simp (disch := omega) only [nm, bnd_s, bnd_n, bn2_s, l0, l1, l2, l3, l4, l7, l8, l9, l16, l80, l88, l200, l300, pk_mul, nI_add, nI_sb, mx1, mn1, ax_nI, nI_cl, nI_lt', nI_le', nI_eq', if_pos, if_neg]
          exact ⟨_, rfl, z, rfl, hz⟩)
        (s1, nI 0) (by omega) ⟨_, rfl, init⟩ (by omega)
      · refine ⟨s3, nI n, he3, isM_congr hs3 fun i hi => ?_⟩
        constructor
        · rintro ⟨a, p, b, c, d, e | e⟩
          · exact ⟨a, p, b, c, d, Or.inl e⟩
          · exact ⟨a, p, b, c, d, Or.inr ⟨hF, e⟩⟩
        · rintro ⟨a, p, b, c, d, e | ⟨-, e⟩⟩
          · exact ⟨a, p, b, c, d, Or.inl e⟩
          · exact ⟨a, p, b, c, d, Or.inr e⟩
  obtain ⟨z, x, hz, hm⟩ := two
  refine ⟨_, ?_, fin z hm⟩
  unfold fX1_inWay
  simp (disch := omega) only [he1, hz, nm, bnd_s, bnd_n, bn2_s, l0, l1, l2, l3, l4, l7, l8, l9, l16, l80, l88, l200, l300, pk_mul, nI_add, nI_sb, mx1, mn1, ax_nI, nI_cl, nI_lt', nI_le', nI_eq', if_pos, if_neg]
end LB
