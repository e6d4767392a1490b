/-! The reference: rings -/
section MR
variable {σ : St} {A : AS}
theorem ringM_eq (h : RepM (σ 0) A) (hw : WF A) {o : Nat} (ho : o < 8) : ∃ z σ', fX4_ringNow (nI o) σ = some (z, σ') ∧ frM σ σ' ∧ σ' 0 = σ 0 ∧ isM z (rg A o) := by
  have hlen := hw.len
  obtain ⟨e1, he1, s1, rfl, a1, b1⟩ := lp_rng (b := fun t : (Int32 × St) => bX4_layWaits_2 t.1 t.2)
    (fun j s => ∃ s', s = (nI j, s') ∧ (∀ c, c ≠ 9 → s' c = σ c) ∧ ∀ x, x < j → isM (s' 9 x) (edg A x))
    (fun e => ∃ s', e = (nI 8, s') ∧ (∀ c, c ≠ 9 → s' c = σ c) ∧ ∀ x, x < 8 → isM (s' 9 x) (edg A x)) 0 8
    (fun j s _ hj hs => by
      obtain ⟨s', rfl, a, b⟩ := hs
      show ∃ s'', bX4_layWaits_2 (nI j) s' = some (.inl s'') ∧ _
      have r1 : RepM (s' 0) A := by rw [a 0 (by omega)]; exact h
      have nx : ∃ z, fX4_waitsForNow (nI j) s' = some z ∧ isM z (edg A j) := by
        rcases row_cases A j with ⟨i, r, hr, he, -⟩ | hno
        · obtain ⟨z, hz, hm⟩ := (waitsM_eq r1 hw hj).1 i r hr he
          refine ⟨z, hz, isM_congr hm fun y _ => ⟨fun q => ⟨i, r, hr, he, q⟩, ?_⟩⟩
          rintro ⟨i', r', hr', he', q⟩
          have := row_inj hw hr hr' (he.trans he'.symm)
          subst this
          exact q
        · refine ⟨_, (waitsM_eq r1 hw hj).2 hno, isM_0 fun y _ q => ?_⟩
          obtain ⟨i, r, hr, he, -⟩ := q
          exact hno r (List.mem_of_getElem? hr) he
      obtain ⟨z, hz, hm⟩ := nx
      unfold bX4_layWaits_2
      simp (disch := omega) only [hz, nm, bnd_s, bnd_n, bn2_s, l0, l1, l2, l3, l4, l7, l8, l9, l16, l80, l88, l200, l300, pk_mul, nI_add, nI_sb, mx1, mn1, ax_nI, nI_cl, nI_lt', nI_le', nI_eq', if_pos, if_neg, if_true, if_false]
      refine ⟨_, rfl, _, rfl, fun c hc => by rw [put_n _ _ hc]; exact a c hc, fun x hx => ?_⟩
      rw [put_s]
      by_cases e : x = j
      · subst e; rw [upd_s]; exact hm
      · rw [upd_n _ _ e]; exact b x (by omega))
    (fun s hs => by
      obtain ⟨s', rfl, a, b⟩ := hs
      show ∃ e, bX4_layWaits_2 (nI 8) s' = some (.inr e) ∧ _
      unfold bX4_layWaits_2
      simp (disch := omega) only [nm, bnd_s, bnd_n, bn2_s, l0, l1, l2, l3, l4, l7, l8, l9, l16, l80, l88, l200, l300, pk_mul, nI_add, nI_sb, mx1, mn1, ax_nI, nI_cl, nI_lt', nI_le', nI_eq', if_pos, if_neg, if_true, if_false]
      exact ⟨_, rfl, s', rfl, a, b⟩) (nI 0, σ) (by omega) ⟨σ, rfl, fun _ _ => rfl, fun x hx => by omega⟩ (by omega)
  obtain ⟨e2, he2, s2, rfl, a2, b2⟩ := lp_rng (b := fun t : (Int32 × St) => bX4_layReach_2 t.1 t.2)
    (fun j s => ∃ s', s = (nI j, s') ∧ (∀ c, c ≠ 10 → s' c = s1 c) ∧ ∀ x, x < j → isM (s' 10 x) (edg A x))
    (fun e => ∃ s', e = (nI 8, s') ∧ (∀ c, c ≠ 10 → s' c = s1 c) ∧ ∀ x, x < 8 → isM (s' 10 x) (edg A x)) 0 8
    (fun j s _ hj hs => by
      obtain ⟨s', rfl, a, b⟩ := hs
      show ∃ s'', bX4_layReach_2 (nI j) s' = some (.inl s'') ∧ _
      unfold bX4_layReach_2
      simp (disch := omega) only [nm, bnd_s, bnd_n, bn2_s, l0, l1, l2, l3, l4, l7, l8, l9, l16, l80, l88, l200, l300, pk_mul, nI_add, nI_sb, mx1, mn1, ax_nI, nI_cl, nI_lt', nI_le', nI_eq', if_pos, if_neg, if_true, if_false]
      refine ⟨_, rfl, _, rfl, fun c hc => by rw [put_n _ _ hc]; exact a c hc, fun x hx => ?_⟩
      rw [put_s]
      by_cases e : x = j
      · subst e; rw [upd_s, a 9 (by omega)]; exact b1 x hj
      · rw [upd_n _ _ e]; exact b x (by omega))
    (fun s hs => by
      obtain ⟨s', rfl, a, b⟩ := hs
      show ∃ e, bX4_layReach_2 (nI 8) s' = some (.inr e) ∧ _
      unfold bX4_layReach_2
      simp (disch := omega) only [nm, bnd_s, bnd_n, bn2_s, l0, l1, l2, l3, l4, l7, l8, l9, l16, l80, l88, l200, l300, pk_mul, nI_add, nI_sb, mx1, mn1, ax_nI, nI_cl, nI_lt', nI_le', nI_eq', if_pos, if_neg, if_true, if_false]
      exact ⟨_, rfl, s', rfl, a, b⟩) (nI 0, s1) (by omega) ⟨s1, rfl, fun _ _ => rfl, fun x hx => by omega⟩ (by omega)
  -- between: what is there is reached, and what is within so many steps is there
  obtain ⟨e3, he3, s3, rfl, a3, b3⟩ := lp_rng (b := fun t : (Int32 × St) => bX4_layReach_28 t.1 t.2)
    (fun j s => ∃ s', s = (nI j, s') ∧ (∀ c, c ≠ 10 → s' c = s1 c) ∧ ∀ x, x < 8 → ∀ y, y < 32 → (bt (s' 10 x) y = true → rch A x y) ∧ (pw A j x y → bt (s' 10 x) y = true))
    (fun e => ∃ s', e = (nI 8, s') ∧ (∀ c, c ≠ 10 → s' c = s1 c) ∧ ∀ x, x < 8 → ∀ y, y < 32 → (bt (s' 10 x) y = true → rch A x y) ∧ (pw A 8 x y → bt (s' 10 x) y = true)) 0 8
    (fun j s _ hj hs => by
      obtain ⟨s', rfl, a, b⟩ := hs
      show ∃ s'', bX4_layReach_28 (nI j) s' = some (.inl s'') ∧ _
      obtain ⟨e, he, t, rfl, a', b'⟩ := lp_rng (b := fun t : (Int32 × St) => bX4_layReach_36 t.1 t.2)
        (fun m s => ∃ s', s = (nI m, s') ∧ (∀ c, c ≠ 10 → s' c = s1 c) ∧ ∀ x, x < 8 → ∀ y, y < 32 → (bt (s' 10 x) y = true → rch A x y) ∧ (pw A j x y → bt (s' 10 x) y = true) ∧ (x < m → pw A (j + 1) x y → bt (s' 10 x) y = true))
        (fun e => ∃ s', e = (nI 8, s') ∧ (∀ c, c ≠ 10 → s' c = s1 c) ∧ ∀ x, x < 8 → ∀ y, y < 32 → (bt (s' 10 x) y = true → rch A x y) ∧ (pw A (j + 1) x y → bt (s' 10 x) y = true)) 0 8
        (fun m s _ hm hs => by
          obtain ⟨s', rfl, a, b⟩ := hs
          show ∃ s'', bX4_layReach_36 (nI m) s' = some (.inl s'') ∧ _
          obtain ⟨e, he, t, rfl, a', c', b'⟩ := lp_rng (b := fun t : (Int32 × St) => bX4_layReach_44 (nI m) t.1 t.2)
            (fun n s => ∃ s'', s = (nI n, s'') ∧ (∀ c, c ≠ 10 → s'' c = s1 c) ∧ (∀ x, x ≠ m → s'' 10 x = s' 10 x) ∧ ∀ y, y < 32 → (bt (s'' 10 m) y = true → rch A m y) ∧ (pw A j m y → bt (s'' 10 m) y = true) ∧ (∀ z, z < n → pw A j m z → edg A z y → bt (s'' 10 m) y = true))
            (fun e => ∃ s'', e = (nI 8, s'') ∧ (∀ c, c ≠ 10 → s'' c = s1 c) ∧ (∀ x, x ≠ m → s'' 10 x = s' 10 x) ∧ ∀ y, y < 32 → (bt (s'' 10 m) y = true → rch A m y) ∧ (pw A j m y → bt (s'' 10 m) y = true) ∧ (∀ z, z < 8 → pw A j m z → edg A z y → bt (s'' 10 m) y = true)) 0 8
            (fun n s _ hn hs => by
              obtain ⟨s'', rfl, a, d, b⟩ := hs
              show ∃ t, bX4_layReach_44 (nI m) (nI n) s'' = some (.inl t) ∧ _
              unfold bX4_layReach_44
              simp (disch := omega) only [hasM_eq hn, nm, bnd_s, bnd_n, bn2_s, l0, l1, l2, l3, l4, l7, l8, l9, l16, l80, l88, l200, l300, pk_mul, nI_add, nI_sb, mx1, mn1, ax_nI, nI_cl, nI_lt', nI_le', nI_eq', if_pos, if_neg, if_true, if_false]
              have hw9 : isM (s'' 9 n) (edg A n) := by rw [a 9 (by omega)]; exact b1 n hn
              by_cases c : bt (s'' 10 m) n = true
              · simp (disch := omega) only [c, nm, bnd_s, bnd_n, bn2_s, l0, l1, l2, l3, l4, l7, l8, l9, l16, l80, l88, l200, l300, pk_mul, nI_add, nI_sb, mx1, mn1, ax_nI, nI_cl, nI_lt', nI_le', nI_eq', if_pos, if_neg, if_true, if_false]
                refine ⟨_, rfl, _, rfl, fun c hc => by rw [put_n _ _ hc]; exact a c hc, fun x hx => by rw [put_s, upd_n _ _ hx]; exact d x hx, fun y hy => ?_⟩
                rw [put_s, upd_s, bt_or, Bool.or_eq_true]
                refine ⟨?_, fun q => Or.inl ((b y hy).2.1 q), fun z hz q1 q2 => ?_⟩
                · rintro (q | q)
                  · exact (b y hy).1 q
                  · exact Relation.TransGen.tail ((b n (by omega)).1 c) ((hw9 y hy).mp q)
                · by_cases e : z = n
                  · subst e; exact Or.inr ((hw9 y hy).mpr q2)
                  · exact Or.inl ((b y hy).2.2 z (by omega) q1 q2)
              · simp (disch := omega) only [c, nm, bnd_s, bnd_n, bn2_s, l0, l1, l2, l3, l4, l7, l8, l9, l16, l80, l88, l200, l300, pk_mul, nI_add, nI_sb, mx1, mn1, ax_nI, nI_cl, nI_lt', nI_le', nI_eq', if_pos, if_neg, if_true, if_false]
                refine ⟨_, rfl, _, rfl, fun c hc => by rw [put_n _ _ hc]; exact a c hc, fun x hx => by rw [put_s, upd_n _ _ hx]; exact d x hx, fun y hy => ?_⟩
                rw [put_s, upd_s, bt_or, Bool.or_eq_true, show bt (nI 0) y = false from bt_0 y]
                refine ⟨fun q => (b y hy).1 (q.elim id fun q => by cases q), fun q => Or.inl ((b y hy).2.1 q), fun z hz q1 q2 => ?_⟩
                by_cases e : z = n
                · subst e; exact absurd ((b z (by omega)).2.1 q1) c
                · exact Or.inl ((b y hy).2.2 z (by omega) q1 q2))
            (fun s hs => by
              obtain ⟨s'', rfl, a, d, b⟩ := hs
              show ∃ e, bX4_layReach_44 (nI m) (nI 8) s'' = some (.inr e) ∧ _
              unfold bX4_layReach_44
              simp (disch := omega) only [nm, bnd_s, bnd_n, bn2_s, l0, l1, l2, l3, l4, l7, l8, l9, l16, l80, l88, l200, l300, pk_mul, nI_add, nI_sb, mx1, mn1, ax_nI, nI_cl, nI_lt', nI_le', nI_eq', if_pos, if_neg, if_true, if_false]
              exact ⟨_, rfl, s'', rfl, a, d, b⟩) (nI 0, s') (by omega) ⟨s', rfl, a, fun _ _ => rfl, fun y hy => ⟨(b m hm y hy).1, (b m hm y hy).2.1, fun z hz => by omega⟩⟩ (by omega)
          unfold bX4_layReach_36
          simp (disch := omega) only [he, nm, bnd_s, bnd_n, bn2_s, l0, l1, l2, l3, l4, l7, l8, l9, l16, l80, l88, l200, l300, pk_mul, nI_add, nI_sb, mx1, mn1, ax_nI, nI_cl, nI_lt', nI_le', nI_eq', if_pos, if_neg, if_true, if_false]
          refine ⟨_, rfl, t, rfl, a', fun x hx y hy => ?_⟩
          by_cases e : x = m
          · subst e
            refine ⟨(b' y hy).1, (b' y hy).2.1, fun _ q => ?_⟩
            rcases q with q | ⟨z, q1, q2⟩
            · exact (b' y hy).2.1 q
            · exact (b' y hy).2.2 z (pw_lt hw j z q1) q1 q2
          · rw [c' x e]
            exact ⟨(b x hx y hy).1, (b x hx y hy).2.1, fun q => (b x hx y hy).2.2 (by omega)⟩)
        (fun s hs => by
          obtain ⟨s', rfl, a, b⟩ := hs
          show ∃ e, bX4_layReach_36 (nI 8) s' = some (.inr e) ∧ _
          unfold bX4_layReach_36
          simp (disch := omega) only [nm, bnd_s, bnd_n, bn2_s, l0, l1, l2, l3, l4, l7, l8, l9, l16, l80, l88, l200, l300, pk_mul, nI_add, nI_sb, mx1, mn1, ax_nI, nI_cl, nI_lt', nI_le', nI_eq', if_pos, if_neg, if_true, if_false]
          exact ⟨_, rfl, s', rfl, a, fun x hx y hy => ⟨(b x hx y hy).1, (b x hx y hy).2.2 hx⟩⟩) (nI 0, s') (by omega) ⟨s', rfl, a, fun x hx y hy => ⟨(b x hx y hy).1, (b x hx y hy).2, fun q => by omega⟩⟩ (by omega)
      unfold bX4_layReach_28
      simp (disch := omega) only [he, nm, bnd_s, bnd_n, bn2_s, l0, l1, l2, l3, l4, l7, l8, l9, l16, l80, l88, l200, l300, pk_mul, nI_add, nI_sb, mx1, mn1, ax_nI, nI_cl, nI_lt', nI_le', nI_eq', if_pos, if_neg, if_true, if_false]
      exact ⟨_, rfl, t, rfl, a', b'⟩)
    (fun s hs => by
      obtain ⟨s', rfl, a, b⟩ := hs
      show ∃ e, bX4_layReach_28 (nI 8) s' = some (.inr e) ∧ _
      unfold bX4_layReach_28
      simp (disch := omega) only [nm, bnd_s, bnd_n, bn2_s, l0, l1, l2, l3, l4, l7, l8, l9, l16, l80, l88, l200, l300, pk_mul, nI_add, nI_sb, mx1, mn1, ax_nI, nI_cl, nI_lt', nI_le', nI_eq', if_pos, if_neg, if_true, if_false]
      exact ⟨_, rfl, s', rfl, a, b⟩) (nI 0, s2) (by omega) ⟨s2, rfl, a2, fun x hx y hy => ⟨fun q => Relation.TransGen.single ((b2 x hx y hy).mp q), fun q => (b2 x hx y hy).mpr q⟩⟩ (by omega)
  have b3 : ∀ x, x < 8 → ∀ y, y < 32 → (bt (s3 10 x) y = true ↔ rch A x y) := fun x hx y hy => ⟨(b3 x hx y hy).1, fun q => (b3 x hx y hy).2 (pw_iff hw q)⟩
  -- the ring
  have fin : ∃ z v, lp (fun t : (Int32 × Int32) => bX4_ringOf_4 (nI o) s3 t.1 t.2) FU (nI 0, nI 0) = some (z, v) ∧ isM z (rg A o) := by
    by_cases c : rch A o o
    · have co : bt (s3 10 o) o = true := (b3 o ho o (by omega)).mpr c
      obtain ⟨e4, he4, z, rfl, hz⟩ := lp_rng (b := fun t : (Int32 × Int32) => bX4_ringOf_4 (nI o) s3 t.1 t.2)
        (fun j s => ∃ z, s = (z, nI j) ∧ isM z (fun x => x < j ∧ rg A o x))
        (fun e => ∃ z, e = (z, nI 8) ∧ isM z (rg A o)) 0 8
        (fun j s _ hj hs => by
          obtain ⟨z, rfl, hz⟩ := hs
          show ∃ s'', bX4_ringOf_4 (nI o) s3 z (nI j) = some (.inl s'') ∧ _
          have h1 : bt (s3 10 o) j = true ↔ rch A o j := b3 o ho j (by omega)
          have h2 : bt (s3 10 j) o = true ↔ rch A j o := b3 j hj o (by omega)
          have no : ¬ rg A o j → isM (z ||| nI 0) (fun x => x < j + 1 ∧ rg A o x) := fun q => isM_congr (isM_or hz (isM_0 (P := fun _ => False) fun _ _ q => q)) fun x _ => ⟨fun p => p.elim (fun ⟨a, b⟩ => ⟨by omega, b⟩) False.elim, fun ⟨a, b⟩ => Or.inl ⟨by
            by_cases e : x = j
            · subst e; exact absurd b q
            · omega, b⟩⟩
          have yes : rg A o j → isM (z ||| (nI 1 <<< (nI j &&& 31))) (fun x => x < j + 1 ∧ rg A o x) := fun q => isM_congr (isM_or hz (isM_1 hj)) fun x _ => ⟨fun p => p.elim (fun ⟨a, b⟩ => ⟨by omega, b⟩) fun e => by subst e; exact ⟨by omega, q⟩, fun ⟨a, b⟩ => by
            by_cases e : x = j
            · exact Or.inr e
            · exact Or.inl ⟨by omega, b⟩⟩
          unfold bX4_ringOf_4
          simp (disch := omega) only [hasM_eq hj, hasM_eq ho, co, nm, bnd_s, bnd_n, bn2_s, l0, l1, l2, l3, l4, l7, l8, l9, l16, l80, l88, l200, l300, pk_mul, nI_add, nI_sb, mx1, mn1, ax_nI, nI_cl, nI_lt', nI_le', nI_eq', if_pos, if_neg, if_true, if_false]
          by_cases e : j = o
          · subst e
            simp (disch := omega) only [nm, bnd_s, bnd_n, bn2_s, l0, l1, l2, l3, l4, l7, l8, l9, l16, l80, l88, l200, l300, pk_mul, nI_add, nI_sb, mx1, mn1, ax_nI, nI_cl, nI_lt', nI_le', nI_eq', if_pos, if_neg, if_true, if_false]
            exact ⟨_, rfl, _, rfl, yes ⟨c, c⟩⟩
          · by_cases c1 : bt (s3 10 o) j = true
            · by_cases c2 : bt (s3 10 j) o = true
              · simp (disch := omega) only [c1, c2, nm, bnd_s, bnd_n, bn2_s, l0, l1, l2, l3, l4, l7, l8, l9, l16, l80, l88, l200, l300, pk_mul, nI_add, nI_sb, mx1, mn1, ax_nI, nI_cl, nI_lt', nI_le', nI_eq', if_pos, if_neg, if_true, if_false]
                exact ⟨_, rfl, _, rfl, yes ⟨h1.mp c1, h2.mp c2⟩⟩
              · simp (disch := omega) only [c1, c2, nm, bnd_s, bnd_n, bn2_s, l0, l1, l2, l3, l4, l7, l8, l9, l16, l80, l88, l200, l300, pk_mul, nI_add, nI_sb, mx1, mn1, ax_nI, nI_cl, nI_lt', nI_le', nI_eq', if_pos, if_neg, if_true, if_false]
                exact ⟨_, rfl, _, rfl, no fun q => c2 (h2.mpr q.2)⟩
            · simp (disch := omega) only [c1, nm, bnd_s, bnd_n, bn2_s, l0, l1, l2, l3, l4, l7, l8, l9, l16, l80, l88, l200, l300, pk_mul, nI_add, nI_sb, mx1, mn1, ax_nI, nI_cl, nI_lt', nI_le', nI_eq', if_pos, if_neg, if_true, if_false]
              exact ⟨_, rfl, _, rfl, no fun q => c1 (h1.mpr q.1)⟩)
        (fun s hs => by
          obtain ⟨z, rfl, hz⟩ := hs
          show ∃ e, bX4_ringOf_4 (nI o) s3 z (nI 8) = some (.inr e) ∧ _
          unfold bX4_ringOf_4
          simp (disch := omega) only [nm, bnd_s, bnd_n, bn2_s, l0, l1, l2, l3, l4, l7, l8, l9, l16, l80, l88, l200, l300, pk_mul, nI_add, nI_sb, mx1, mn1, ax_nI, nI_cl, nI_lt', nI_le', nI_eq', if_pos, if_neg, if_true, if_false]
          exact ⟨_, rfl, z, rfl, isM_congr hz fun x _ => ⟨fun q => q.2, fun q => ⟨(rch_lt hw q.2).1, q⟩⟩⟩) (nI 0, nI 0) (by omega) ⟨_, rfl, isM_0 fun i _ q => by omega⟩ (by omega)
      exact ⟨z, nI 8, he4, hz⟩
    · have co : ¬ bt (s3 10 o) o = true := fun q => c ((b3 o ho o (by omega)).mp q)
      refine ⟨nI 0, nI 0, lp_ex (b := fun t : (Int32 × Int32) => bX4_ringOf_4 (nI o) s3 t.1 t.2) ?_, isM_0 fun x _ q => c (rch_tr q.1 q.2)⟩
      show bX4_ringOf_4 (nI o) s3 (nI 0) (nI 0) = _
      unfold bX4_ringOf_4
      simp (disch := omega) only [hasM_eq ho, eq_false co, nm, bnd_s, bnd_n, bn2_s, l0, l1, l2, l3, l4, l7, l8, l9, l16, l80, l88, l200, l300, pk_mul, nI_add, nI_sb, mx1, mn1, ax_nI, nI_cl, nI_lt', nI_le', nI_eq', if_pos, if_neg, if_true, if_false]
  obtain ⟨z, v, hz, hm⟩ := fin
  refine ⟨z, s3, ?_, fun c h0 h9 h10 => (a3 c h10).trans (a1 c h9), (a3 0 (by omega)).trans (a1 0 (by omega)), hm⟩
  unfold fX4_ringNow fX4_layWaits fX4_layReach fX4_ringOf
  simp (disch := omega) only [he1, he2, he3, hz, nm, bnd_s, bnd_n, bn2_s, l0, l1, l2, l3, l4, l7, l8, l9, l16, l80, l88, l200, l300, pk_mul, nI_add, nI_sb, mx1, mn1, ax_nI, nI_cl, nI_lt', nI_le', nI_eq', if_pos, if_neg, if_true, if_false]
end MR
