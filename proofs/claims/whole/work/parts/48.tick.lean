/-! Ticks, on both sides -/
def rq4 (r : Rq) : Nat × Nat × Nat × Nat := (r.1, r.2.1, r.2.2.1, r.2.2.2.1)
theorem rq4_get {R R' : List Rq} (h : R'.map rq4 = R.map rq4) {i : Nat} {r' : Rq} (hr : R'[i]? = some r') : ∃ r, R[i]? = some r ∧ rq4 r = rq4 r' := by
  have q : (R'.map rq4)[i]? = (R.map rq4)[i]? := by rw [h]
  rw [List.getElem?_map, List.getElem?_map, hr] at q
  cases hR : R[i]? with
  | none => rw [hR] at q; cases q
  | some r => rw [hR] at q; exact ⟨r, rfl, (Option.some.inj q).symm⟩
theorem rq4_mem {R R' : List Rq} (h : (R'.map rq4).Sublist (R.map rq4)) {r' : Rq} (hr : r' ∈ R') : ∃ r ∈ R, rq4 r = rq4 r' := by
  obtain ⟨r, a, b⟩ := List.mem_map.mp (h.subset (List.mem_map.mpr ⟨r', hr, rfl⟩))
  exact ⟨r, a, b⟩
theorem rq4_1 {r r' : Rq} (h : rq4 r = rq4 r') : r.1 = r'.1 ∧ r.2.1 = r'.2.1 ∧ r.2.2.1 = r'.2.2.1 ∧ r.2.2.2.1 = r'.2.2.2.1 := by
  unfold rq4 at h
  injection h with a b
  injection b with b c
  injection c with c d
  exact ⟨a, b, c, d⟩
theorem map_rq4 (R : List Rq) : (R.map rq4).map (fun x => x.1) = R.map (fun r : Rq => r.1) := by rw [List.map_map]; rfl
theorem WF.sub {A : AS} (h : WF A) {R' : List Rq} (hs : (R'.map rq4).Sublist ((aR A).map rq4)) : WF (aK A, R', aC A, aG A) := by
  refine ⟨h.1, ?_, fun r' hr' => ?_, h.2.2.2⟩
  · have := hs.map (fun x => x.1)
    rw [map_rq4, map_rq4] at this
    exact List.Pairwise.sublist this h.2.1
  · obtain ⟨r, a, b⟩ := rq4_mem hs hr'
    obtain ⟨b1, b2, b3, b4⟩ := rq4_1 b
    rw [← b1, ← b2, ← b3, ← b4]
    exact h.2.2.1 r a
theorem RepL.wt {σ σ' : St} {A : AS} (h : RepL σ A) {R' : List Rq} (hR : R'.map rq4 = (aR A).map rq4) (e : ∀ c, c ≠ 8 → σ' c = σ c) (e8 : ∀ r ∈ R', σ' 8 r.1 = r.2.2.2.2) : RepL σ' (aK A, R', aC A, aG A) := by
  have hl : R'.length = (aR A).length := by simpa using congrArg List.length hR
  obtain ⟨g0, g1, g2, g3, g4, g5, g6⟩ := h.1
  refine ⟨⟨?_, ?_, ?_, ?_, ?_, ?_, ?_⟩, ?_, ?_, ?_, ?_⟩
  · rw [e _ (by omega)]; exact g0
  · rw [e _ (by omega)]; exact g1
  · rw [e _ (by omega)]; exact g2
  · rw [e _ (by omega)]; exact g3
  · rw [e _ (by omega)]; exact g4
  · rw [e _ (by omega)]; exact g5
  · rw [e _ (by omega)]; exact g6.trans (congrArg nI hl.symm)
  · intro i r' hr'
    obtain ⟨r, hr, er⟩ := rq4_get hR hr'
    obtain ⟨b1, b2, b3, b4⟩ := rq4_1 er
    obtain ⟨a1, a2, a3, a4, -⟩ := h.2.1 i r hr
    rw [e 3 (by omega), e 5 (by omega), e 6 (by omega), e 7 (by omega), ← b1, ← b2, ← b3, ← b4, a1, a2, a3, a4, b1]
    exact ⟨rfl, rfl, rfl, rfl, e8 r' (List.mem_of_getElem? hr')⟩
  · intro x hx hno
    rw [e _ (by omega)]
    refine h.2.2.1 x hx fun r hr q => ?_
    obtain ⟨i, hi⟩ := List.getElem?_of_mem hr
    obtain ⟨r', hr', er⟩ := rq4_get hR.symm hi
    exact hno r' (List.mem_of_getElem? hr') ((rq4_1 er).1.trans q)
  · intro x hx
    rw [e _ (by omega), e _ (by omega), e _ (by omega), e _ (by omega)]
    exact h.2.2.2.1 x hx
  · intro k p hk hk3 hp
    rw [e _ (by omega)]
    exact h.2.2.2.2 k p hk hk3 hp
theorem RepM.wt {a a' : Nat → Int32} {A : AS} (h : RepM a A) (hw : WF A) {R' : List Rq} (hR : R'.map rq4 = (aR A).map rq4) (e : ∀ m, (∀ o, o < 8 → m ≠ 16 + 9 * o + 3) → a' m = a m) (e8 : ∀ r ∈ R', a' (16 + 9 * r.1 + 3) = r.2.2.2.2) : RepM a' (aK A, R', aC A, aG A) := by
  have hl : R'.length = (aR A).length := by simpa using congrArg List.length hR
  have hlen := hw.len
  obtain ⟨g0, g1, g2, g3, g4, g5, g6⟩ := h.1
  refine ⟨⟨?_, ?_, ?_, ?_, ?_, ?_, ?_⟩, ?_, ?_, ?_, ?_⟩
  · rw [e _ fun o ho => by omega]; exact g0
  · rw [e _ fun o ho => by omega]; exact g1
  · rw [e _ fun o ho => by omega]; exact g2
  · rw [e _ fun o ho => by omega]; exact g3
  · rw [e _ fun o ho => by omega]; exact g4
  · rw [e _ fun o ho => by omega]; exact g5
  · rw [e _ fun o ho => by omega]; exact g6.trans (congrArg nI hl.symm)
  · intro i r' hr'
    obtain ⟨r, hr, er⟩ := rq4_get hR hr'
    have hi : i < (aR A).length := (List.getElem?_eq_some_iff.mp hr).1
    obtain ⟨b1, b2, b3, b4⟩ := rq4_1 er
    obtain ⟨a1, a2, a3, a4, -⟩ := h.2.1 i r hr
    have w1 := (hw.2.2.1 r (List.mem_of_getElem? hr)).1
    rw [b1] at w1 a1 a2 a3 a4
    rw [e (8 + i) fun o ho => by omega, e (16 + 9 * r'.1) fun o ho => by omega, e (16 + 9 * r'.1 + 1) fun o ho => by omega, e (16 + 9 * r'.1 + 2) fun o ho => by omega, ← b2, ← b3, ← b4]
    exact ⟨a1, a2, a3, a4, e8 r' (List.mem_of_getElem? hr')⟩
  · intro x hx hno
    rw [e _ fun o ho => by omega]
    refine h.2.2.1 x hx fun r hr q => ?_
    obtain ⟨i, hi⟩ := List.getElem?_of_mem hr
    obtain ⟨r', hr', er⟩ := rq4_get hR.symm hi
    exact hno r' (List.mem_of_getElem? hr') ((rq4_1 er).1.trans q)
  · intro x hx
    rw [e _ fun o ho => by omega, e _ fun o ho => by omega, e _ fun o ho => by omega, e _ fun o ho => by omega]
    exact h.2.2.2.1 x hx
  · intro x p hx hp
    rw [e _ fun o ho => by omega]
    exact h.2.2.2.2 x p hx hp
/-- a request has waited one tick more -/
def inc (r : Rq) : Rq := (r.1, r.2.1, r.2.2.1, r.2.2.2.1, r.2.2.2.2 + 1)
/-- it stays, at a patience -/
def kpB (P : Int32) (r : Rq) : Bool := decide (P ≤ 0 ∨ r.2.2.2.2 < P)
def incR (A : AS) : AS := (aK A, (aR A).map inc, aC A, aG A)
def ageA (A : AS) : AS := (aK A, ((aR A).map inc).filter (kpB (aG A 5)), aC A, aG A)
def ddA (A : AS) : Nat := (aR A).length - (aR (ageA A)).length
def agg (A : AS) : AS := glbA (ageA A) 1 (aG A 1 + nI (ddA A))
noncomputable def tk1 (A : AS) : AS := glbA (goA (agg A)) 0 (aG (goA (agg A)) 0 + 1)
noncomputable def tkN : Nat → AS → AS
  | 0, A => A
  | n + 1, A => tk1 (tkN n A)
noncomputable def dN : Nat → AS → Nat
  | 0, _ => 0
  | n + 1, A => dN n A + ddA (tkN n A)
theorem inc4 (R : List Rq) : (R.map inc).map rq4 = R.map rq4 := by rw [List.map_map]; rfl
theorem age_sub (A : AS) : ((aR (ageA A)).map rq4).Sublist ((aR A).map rq4) := by
  rw [← inc4 (aR A)]
  exact List.Sublist.map _ List.filter_sublist
theorem age_len (A : AS) : (aR (ageA A)).length ≤ (aR A).length := by
  have := (age_sub A).length_le
  rwa [List.length_map, List.length_map] at this
theorem WF.age {A : AS} (h : WF A) : WF (ageA A) := h.sub (age_sub A)
theorem WF.agg {A : AS} (h : WF A) : WF (agg A) := h.age
theorem age_all {A : AS} (h : (aR A).length ≤ (aR (ageA A)).length) : ageA A = incR A := by
  have e : ((aR A).map inc).filter (kpB (aG A 5)) = (aR A).map inc := by
    apply List.filter_eq_self.mpr
    apply List.length_filter_eq_length_iff.mp
    rw [List.length_map]
    exact Nat.le_antisymm (age_len A) h
  unfold ageA incR
  rw [e]
theorem inc_Q {A : AS} (hq : Qt A) : Qt (incR A) := by
  intro i hi hf
  have hi : i < ((aR A).map inc).length := hi
  rw [List.length_map] at hi
  refine hq i hi fun x ⟨r, hr, p, a, b, c, d1, d2, d3⟩ => hf x ⟨inc r, ?_, p, a, b, c, d1, d2, d3.imp id fun ⟨q, r0, h0, h1⟩ => ⟨q, inc r0, ?_, h1⟩⟩
  · show ((aR A).map inc)[i]? = _
    rw [List.getElem?_map, hr]; rfl
  · show inc r0 ∈ ((aR A).map inc).take i
    rw [← List.map_take]
    exact List.mem_map.mpr ⟨r0, h0, rfl⟩
theorem glb_Q {A : AS} (hq : Qt A) {j : Nat} {v : Int32} (hj : j ≠ 3) : Qt (glbA A j v) := fun i hi hf =>
  hq i hi fun x ⟨r, hr, p, a, b, c, d1, d2, d3⟩ => hf x ⟨r, hr, p, a, b, c, d1, d2, d3.imp id fun ⟨q, q2⟩ => ⟨by
      show (if 3 = j then v else aG A 3) = 1
      rw [if_neg (by omega)]
      exact q, q2⟩⟩
theorem tk1_ok {A : AS} (h : OK A) : OK (tk1 A) ∧ aG (tk1 A) 0 = aG A 0 + 1 ∧ aG (tk1 A) 1 = aG A 1 + nI (ddA A) ∧ (∀ r ∈ aR (tk1 A), ∃ r0 ∈ aR A, r = inc r0) ∧ (aR (tk1 A)).length + ddA A ≤ (aR A).length := by
  obtain ⟨a, b, c⟩ := goA_ok h.1.agg
  refine ⟨⟨a, glb_Q b (by omega)⟩, ?_, ?_, ?_, ?_⟩
  · show aG (goA (agg A)) 0 + 1 = _
    rw [goA_glb]; rfl
  · show aG (goA (agg A)) 1 = _
    rw [goA_glb]; rfl
  · intro r hr
    have := c r hr
    obtain ⟨r0, h0, e⟩ := List.mem_map.mp (List.mem_filter.mp this).1
    exact ⟨r0, h0, e.symm⟩
  · have hl : (aR (tk1 A)).length ≤ (aR (ageA A)).length := by
      have hn : ((aR (tk1 A)).map (fun r : Rq => r.1)).Nodup := a.2.1
      have := List.Nodup.length_le_of_subset hn (l₂ := (aR (ageA A)).map (fun r : Rq => r.1)) fun x hx => by
        obtain ⟨r, hr, e⟩ := List.mem_map.mp hx
        exact List.mem_map.mpr ⟨r, c r hr, e⟩
      rwa [List.length_map, List.length_map] at this
    have := age_len A
    unfold ddA
    omega
theorem tkN_ok {A : AS} (h : OK A) : ∀ n, OK (tkN n A) ∧ aG (tkN n A) 1 = aG A 1 + nI (dN n A) ∧ (aR (tkN n A)).length + dN n A ≤ (aR A).length
  | 0 => ⟨h, by show _ = aG A 1 + 0; rw [Int32.add_zero]; rfl, Nat.le_refl _⟩
  | n + 1 => by
    obtain ⟨a, b, c⟩ := tkN_ok h n
    obtain ⟨d, -, e, -, g⟩ := tk1_ok a
    refine ⟨d, ?_, ?_⟩
    · show aG (tk1 (tkN n A)) 1 = aG A 1 + nI (dN n A + ddA (tkN n A))
      rw [e, b, Int32.add_assoc, nI_add]
    · show (aR (tk1 (tkN n A))).length + (dN n A + ddA (tkN n A)) ≤ _
      omega
theorem BD.tk {A : AS} {N : Nat} (h : OK A) (hb : BD N A) : BD (N + 1) (tk1 A) := by
  obtain ⟨-, a, -, b, -⟩ := tk1_ok h
  obtain ⟨⟨n, hn, en⟩, c⟩ := hb
  refine ⟨⟨n + 1, by omega, by rw [a, en, nI_succ]⟩, fun r hr => ?_⟩
  obtain ⟨r0, h0, rfl⟩ := b r hr
  obtain ⟨m, hm, em⟩ := c r0 h0
  exact ⟨m + 1, by omega, by show r0.2.2.2.2 + 1 = _; rw [em, nI_succ]⟩
theorem BD.tkN {A : AS} {N : Nat} (h : OK A) (hb : BD N A) : ∀ n, BD (N + n) (tkN n A)
  | 0 => hb
  | n + 1 => (BD.tkN h hb n).tk (tkN_ok h n).1
section TL
variable {σ : St} {A : AS}
theorem sub_n1 (n : Nat) : nI n + (-1) = nI n - 1 := (Int32.sub_eq_add_neg _ _).symm
theorem endL_eq (h : RepL σ A) (hw : WF A) : ∃ σ', fX1_endPatience σ = some (if (aR A).length ≤ (aR (ageA A)).length then nI 0 else nI 1, σ') ∧ RepL σ' (agg A) := by
  have hFU := FU_v
  have hlen := hw.len
  have h4 := h.1.2.2.2.2.2.2
  have h5 := h.1.2.2.2.2.2.1
  obtain ⟨e, he, s14, hs14, r14⟩ := lp_mu (b := fun t : (Int32 × St) => bX1_endPatience_16 (aG A 5) t.1 t.2)
    (fun i x => ∃ s', x = (nI i - 1, s') ∧ i ≤ (aR A).length ∧ RepL s' (aK A, (aR A).take i ++ (((aR A).drop i).map inc).filter (kpB (aG A 5)), aC A, aG A))
    (fun e => ∃ s', e.2 = s' ∧ RepL s' (ageA A))
    (fun i x hx => by
      obtain ⟨s', rfl, hi, hr⟩ := hx
      show (∃ k' s'', k' < i ∧ bX1_endPatience_16 (aG A 5) (nI i - 1) s' = some (.inl s'') ∧ _) ∨ ∃ e, bX1_endPatience_16 (aG A 5) (nI i - 1) s' = some (.inr e) ∧ _
      cases i with
      | zero =>
        right
        refine ⟨_, by unfold bX1_endPatience_16; rw [if_pos (by decide)], s', rfl, ?_⟩
        rw [List.take_zero, List.drop_zero, List.nil_append] at hr
        exact hr
      | succ i =>
        left
        rw [nI_pred]
        obtain ⟨X, hX⟩ : ∃ X, X = (aR A).take i := ⟨_, rfl⟩
        obtain ⟨D, hD⟩ : ∃ D, D = (aR A).drop (i + 1) := ⟨_, rfl⟩
        obtain ⟨Y, hY⟩ : ∃ Y, Y = (D.map inc).filter (kpB (aG A 5)) := ⟨_, rfl⟩
        obtain ⟨r, hrr⟩ : ∃ r, r = (aR A)[i]'hi := ⟨_, rfl⟩
        have hXl : X.length = i := by rw [hX, List.length_take]; omega
        have hR : aR A = X ++ r :: D := by
          rw [hX, hD, hrr, ← List.drop_eq_getElem_cons hi, List.take_append_drop]
        have ht : (aR A).take (i + 1) = X ++ [r] := by
          rw [hR, List.take_append, hXl, List.take_of_length_le (by omega), show i + 1 - i = 1 by omega]
          rfl
        have hd : (aR A).drop i = r :: D := by
          rw [hD, hrr, ← List.drop_eq_getElem_cons hi]
        rw [ht, ← hD, ← hY, List.append_assoc] at hr
        have hr : RepL s' (aK A, X ++ r :: Y, aC A, aG A) := hr
        have hYs : (Y.map rq4).Sublist (D.map rq4) := by
          rw [← inc4 D, hY]
          exact List.Sublist.map _ List.filter_sublist
        have hk := hw.2.2.1 r (by rw [hR]; simp)
        have wB : WF (aK A, X ++ inc r :: Y, aC A, aG A) := hw.sub (by
          rw [hR, List.map_append, List.map_append, List.map_cons, List.map_cons]
          exact List.Sublist.append (List.Sublist.refl _) (List.Sublist.cons₂ _ hYs))
        obtain ⟨g1, g2, g3, g4, g5⟩ := hr.2.1 i r (by show (X ++ r :: Y)[i]? = _; rw [List.getElem?_append_right (by omega), hXl, Nat.sub_self]; rfl)
        obtain ⟨s7, hs7⟩ : ∃ s7, s7 = put s' 8 (upd (s' 8) r.1 (s' 8 r.1 + 1)) := ⟨_, rfl⟩
        have v7 : s7 8 r.1 = r.2.2.2.2 + 1 := by rw [hs7, put_s, upd_s, g5]
        have nd : ∀ r' ∈ X ++ Y, r'.1 ≠ r.1 := by
          have hn : ((X ++ inc r :: Y).map (fun r : Rq => r.1)).Nodup := wB.2.1
          rw [List.map_append, List.map_cons, List.nodup_append, List.nodup_cons] at hn
          obtain ⟨n1, ⟨n2, n3⟩, n4⟩ := hn
          intro r' hr' q
          rcases List.mem_append.mp hr' with c | c
          · exact n4 r'.1 (List.mem_map.mpr ⟨r', c, rfl⟩) (inc r).1 (List.mem_cons_self) q
          · exact n2 (List.mem_map.mpr ⟨r', c, q⟩)
        have r7 : RepL s7 (aK A, X ++ inc r :: Y, aC A, aG A) := hr.wt (by
            show (X ++ inc r :: Y).map rq4 = (X ++ r :: Y).map rq4
            rw [List.map_append, List.map_append, List.map_cons, List.map_cons]; rfl) (fun c hc => by rw [hs7, put_n _ _ hc]) (fun r' hr' => by
          rcases List.mem_append.mp hr' with c | c
          · rw [hs7, put_s, upd_n _ _ (nd r' (List.mem_append.mpr (Or.inl c)))]
            obtain ⟨j, hj⟩ := List.getElem?_of_mem (show r' ∈ X ++ r :: Y from List.mem_append.mpr (Or.inl c))
            exact (hr.2.1 j r' hj).2.2.2.2
          · rcases List.mem_cons.mp c with rfl | c
            · exact v7
            · rw [hs7, put_s, upd_n _ _ (nd r' (List.mem_append.mpr (Or.inr c)))]
              obtain ⟨j, hj⟩ := List.getElem?_of_mem (show r' ∈ X ++ r :: Y from List.mem_append.mpr (Or.inr (List.mem_cons_of_mem _ c)))
              exact (hr.2.1 j r' hj).2.2.2.2)
        have hkp : kpB (aG A 5) (inc r) = decide (aG A 5 ≤ 0 ∨ r.2.2.2.2 + 1 < aG A 5) := rfl
        have n0 : ¬ nI i < 0 := nI_pos (by omega)
        have w0 := hk.1
        by_cases c1 : aG A 5 ≤ 0
        · refine ⟨i, (nI i - 1, s7), by omega, ?_, s7, rfl, by omega, ?_⟩
          · unfold bX1_endPatience_16
            rw [if_neg n0, ax_nI (by omega) (by omega), nI_cl (by omega), g1, nm, ax_nI w0 (by omega), ax_nI w0 (by omega), nI_cl (by omega), ← hs7, nm, if_pos c1, nm, sub_n1]
          · rw [hd, List.map_cons, List.filter_cons_of_pos (by rw [hkp]; exact decide_eq_true (Or.inl c1)), ← hY, ← hX]
            exact r7
        · by_cases c2 : r.2.2.2.2 + 1 < aG A 5
          · refine ⟨i, (nI i - 1, s7), by omega, ?_, s7, rfl, by omega, ?_⟩
            · unfold bX1_endPatience_16
              rw [if_neg n0, ax_nI (by omega) (by omega), nI_cl (by omega), g1, nm, ax_nI w0 (by omega), ax_nI w0 (by omega), nI_cl (by omega), ← hs7, nm, if_neg c1, ax_nI w0 (by omega), v7, if_pos c2, nm, sub_n1]
            · rw [hd, List.map_cons, List.filter_cons_of_pos (by rw [hkp]; exact decide_eq_true (Or.inr c2)), ← hY, ← hX]
              exact r7
          · obtain ⟨s11, e11, r11, -⟩ := quitL_eq r7 wB w0
            refine ⟨i, (nI i - 1, s11), by omega, ?_, s11, rfl, by omega, ?_⟩
            · unfold bX1_endPatience_16
              rw [if_neg n0, ax_nI (by omega) (by omega), nI_cl (by omega), g1, nm, ax_nI w0 (by omega), ax_nI w0 (by omega), nI_cl (by omega), ← hs7, nm, if_neg c1, ax_nI w0 (by omega), v7, if_neg c2, e11, bnd_s, nm, sub_n1]
            · rw [hd, List.map_cons, List.filter_cons_of_neg (by rw [hkp, decide_eq_false (fun q => q.elim c1 c2)]; decide), ← hY, ← hX]
              have : quitA (aK A, X ++ inc r :: Y, aC A, aG A) r.1 = (aK A, X ++ Y, aC A, aG A) := by
                unfold quitA
                show (aK A, (X ++ inc r :: Y).filter (fun r' : Rq => r'.1 != r.1), aC A, aG A) = _
                rw [List.filter_append, List.filter_cons_of_neg (by simp [inc]), ← List.filter_append, filter_no nd]
              rw [← this]
              exact r11) FU (aR A).length (nI (aR A).length - 1, σ) ⟨σ, rfl, Nat.le_refl _, by
        rw [List.take_length, List.drop_length, List.map_nil, List.filter_nil, List.append_nil]
        exact h⟩ (by omega)
  have hal := age_len A
  have r14' := r14.sc (c := 13) (j := 1) (by omega) (aG A 1 + nI (ddA A))
  have g13 : s14 13 0 = aG A 1 := r14.1.2.1
  have g4 : s14 4 0 = nI (aR (ageA A)).length := r14.1.2.2.2.2.2.2
  refine ⟨_, ?_, r14'⟩
  unfold fX1_endPatience
  rw [show ax (2 : Int32) 3 _ = _ from ax_nI (j := 2) (by omega) (by omega)]
  simp only [nm]
  rw [show σ 0 (Int32.toNatClampNeg 2) = aG A 5 from h5, h4, he, bnd_s, hs14, g13, g4, nI_sb hal]
  show (if nI (aR A).length ≤ put s14 13 _ 4 0 then _ else _) = _
  rw [put_n _ _ (by omega), g4]
  by_cases c : (aR A).length ≤ (aR (ageA A)).length
  · rw [if_pos ((nI_leI (by omega) (by omega)).mpr c), if_pos c]; rfl
  · rw [if_neg (fun q => c ((nI_leI (by omega) (by omega)).mp q)), if_neg c]; rfl
end TL
