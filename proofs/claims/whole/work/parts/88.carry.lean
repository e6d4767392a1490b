/-! Carrying the orders out: both sides -/
/-- what an order does: the class, the reference -/
def cOp (d : Od) : St → Option (Int32 × St) :=
  if d.1 = 114 then fX1_ask (nI d.2.1) 1 (nI d.2.2.1) (nI d.2.2.2.1) (nI d.2.2.2.2)
  else if d.1 = 109 then fX1_ask (nI d.2.1) 2 (nI d.2.2.1) (nI d.2.2.2.1) (nI d.2.2.2.2)
  else if d.1 = 119 then fX1_ask (nI d.2.1) 3 (nI d.2.2.1) (nI d.2.2.2.1) (nI d.2.2.2.2)
  else if d.1 = 102 then fX1_release (nI d.2.1) (nI d.2.2.1) (nI d.2.2.2.1)
  else if d.1 = 99 then fX1_withdraw (nI d.2.1)
  else if d.1 = 120 then fX1_depart (nI d.2.1)
  else fX1_pass (nI d.2.1)
def rOp (d : Od) : St → Option (Int32 × St) :=
  if d.1 = 114 then fX4_tryRequest (nI d.2.1) 1 (nI d.2.2.1) (nI d.2.2.2.1) (nI d.2.2.2.2) (kpI false)
  else if d.1 = 109 then fX4_tryRequest (nI d.2.1) 2 (nI d.2.2.1) (nI d.2.2.2.1) (nI d.2.2.2.2) (kpI false)
  else if d.1 = 119 then fX4_tryRequest (nI d.2.1) 3 (nI d.2.2.1) (nI d.2.2.2.1) (nI d.2.2.2.2) (kpI false)
  else if d.1 = 102 then fX4_tryFree (nI d.2.1) (nI d.2.2.1) (nI d.2.2.2.1) (kpI false)
  else if d.1 = 99 then fX4_tryCancel (nI d.2.1) (kpI false)
  else if d.1 = 120 then fX4_tryLeave (nI d.2.1) (kpI false)
  else fX4_tryTicks (nI d.2.1) (kpI false)
theorem chg.mono {N M : Nat} {kp : Bool} {cl rf : St → Option (Int32 × St)} {A : AS} (h : chg N kp cl rf A) (hm : N ≤ M) : chg M kp cl rf A := by
  obtain ⟨v, A', a, b, c, d, e⟩ := h
  exact ⟨v, A', a, b, c, d.mono hm, e⟩
theorem op_b {A : AS} {N : Nat} (hw : OK A) (hb : BD N A) (hN : N < 2147483648) (d : Od) : chg (N + 300) false (cOp d) (rOp d) A := by
  unfold cOp rOp
  by_cases c1 : d.1 = 114
  · rw [if_pos c1, if_pos c1]; exact (ask_b hw hb _ _ _ _ _).mono (by omega)
  rw [if_neg c1, if_neg c1]
  by_cases c2 : d.1 = 109
  · rw [if_pos c2, if_pos c2]; exact (ask_b hw hb _ _ _ _ _).mono (by omega)
  rw [if_neg c2, if_neg c2]
  by_cases c3 : d.1 = 119
  · rw [if_pos c3, if_pos c3]; exact (ask_b hw hb _ _ _ _ _).mono (by omega)
  rw [if_neg c3, if_neg c3]
  by_cases c4 : d.1 = 102
  · rw [if_pos c4, if_pos c4]; exact (free_b hw hb _ _ _).mono (by omega)
  rw [if_neg c4, if_neg c4]
  by_cases c5 : d.1 = 99
  · rw [if_pos c5, if_pos c5]; exact (cancel_b hw hb hN _).mono (by omega)
  rw [if_neg c5, if_neg c5]
  by_cases c6 : d.1 = 120
  · rw [if_pos c6, if_pos c6]; exact (leave_b hw hb _).mono (by omega)
  rw [if_neg c6, if_neg c6]
  exact ticks_b hw hb _
theorem bn2_id (o : Option (Int32 × St)) : (bn2 o fun a b => some (a, b)) = o := by
  cases o <;> rfl
theorem obey_eq {σN σW σP κ : St} {d : Od} (h : ordL σP d) : fX3_obey σN σW σP κ = cOp d σN := by
  obtain ⟨h3, hl, h4, h5, h6, h7⟩ := h
  obtain ⟨c, a, f, t, w⟩ := d
  have h3 : σP 3 0 = nI c := h3
  have hl : isLt c := hl
  have h4 : c ≠ 116 → σP 4 0 = nI a := h4
  have h5 : c = 116 → σP 5 0 = nI a := h5
  have h6 : c = 102 ∨ isRM c → σP 5 0 = nI f ∧ σP 6 0 = nI t := h6
  have h7 : isRM c → σP 7 0 = nI w ∧ w ≤ 1 := h7
  have hc : c = 99 ∨ c = 120 ∨ c = 102 ∨ c = 109 ∨ c = 114 ∨ c = 119 ∨ c = 116 := by omega
  unfold fX3_obey
  rw [h3, show fJ0_indexOf_0f7a4 1 (nI c) = _ from ix1 ⟨c, by omega⟩, bnd_s]
  simp only [nm]
  rcases hc with rfl | rfl | rfl | rfl | rfl | rfl | rfl
  · rw [h4 (by omega)]
    exact bn2_id _
  · rw [h4 (by omega)]
    exact bn2_id _
  · rw [h4 (by omega), (h6 (by omega)).1, (h6 (by omega)).2]
    exact bn2_id _
  · rw [h4 (by omega), (h6 (by omega)).1, (h6 (by omega)).2, (h7 (by omega)).1]
    exact bn2_id _
  · rw [h4 (by omega), (h6 (by omega)).1, (h6 (by omega)).2, (h7 (by omega)).1]
    exact bn2_id _
  · rw [h4 (by omega), (h6 (by omega)).1, (h6 (by omega)).2, (h7 (by omega)).1]
    exact bn2_id _
  · rw [h5 rfl]
    exact bn2_id _
theorem carry_eq {τ : St} {n : Nat} (hn : n < 29) {d : Od} (hl : isLt d.1) (h : ordM τ n d) : fX4_carry (nI n) τ = rOp d τ := by
  obtain ⟨h1, h2, h3, h4⟩ := h
  obtain ⟨c, a, f, t, w⟩ := d
  have hl : isLt c := hl
  have h1 : τ 14 n = nI c := h1
  have h2 : τ 15 (4 * n) = nI a := h2
  have h3 : c = 102 ∨ isRM c → τ 15 (4 * n + 1) = nI f ∧ τ 15 (4 * n + 2) = nI t := h3
  have h4 : isRM c → τ 15 (4 * n + 3) = nI w := h4
  have hc : c = 99 ∨ c = 120 ∨ c = 102 ∨ c = 109 ∨ c = 114 ∨ c = 119 ∨ c = 116 := by omega
  unfold fX4_carry
  simp only [nm]
  rw [ax_nI hn (by omega), nI_cl (by omega), h1, show (4 : Int32) * nI n = nI (4 * n) by rw [l4, pk_mul], show nI (4 * n) + (1 : Int32) = nI (4 * n + 1) by rw [l1, nI_add], show nI (4 * n) + (2 : Int32) = nI (4 * n + 2) by rw [l2, nI_add], show nI (4 * n) + (3 : Int32) = nI (4 * n + 3) by rw [l3, nI_add], nI_cl (n := 4 * n) (by omega), nI_cl (n := 4 * n + 1) (by omega), nI_cl (n := 4 * n + 2) (by omega), nI_cl (n := 4 * n + 3) (by omega)]
  simp only [ax_nI (show 4 * n < 116 by omega) (show (116 : Nat) < 2147483648 by omega), ax_nI (show 4 * n + 1 < 116 by omega) (show (116 : Nat) < 2147483648 by omega), ax_nI (show 4 * n + 2 < 116 by omega) (show (116 : Nat) < 2147483648 by omega), ax_nI (show 4 * n + 3 < 116 by omega) (show (116 : Nat) < 2147483648 by omega)]
  rcases hc with rfl | rfl | rfl | rfl | rfl | rfl | rfl
  · rw [if_pos (show nI 99 = 99 from rfl), h2]
    exact bn2_id _
  · rw [if_neg (show ¬ nI 120 = 99 by decide), if_neg (show ¬ nI 120 = 102 by decide), if_neg (show ¬ nI 120 = 109 by decide), if_neg (show ¬ nI 120 = 114 by decide), if_neg (show ¬ nI 120 = 119 by decide), if_pos (show nI 120 = 120 from rfl), h2]
    exact bn2_id _
  · rw [if_neg (show ¬ nI 102 = 99 by decide), if_pos (show nI 102 = 102 from rfl), h2, (h3 (by omega)).1, (h3 (by omega)).2]
    exact bn2_id _
  · rw [if_neg (show ¬ nI 109 = 99 by decide), if_neg (show ¬ nI 109 = 102 by decide), if_pos (show nI 109 = 109 from rfl), h2, (h3 (by omega)).1, (h3 (by omega)).2, h4 (by omega)]
    exact bn2_id _
  · rw [if_neg (show ¬ nI 114 = 99 by decide), if_neg (show ¬ nI 114 = 102 by decide), if_neg (show ¬ nI 114 = 109 by decide), if_pos (show nI 114 = 114 from rfl), h2, (h3 (by omega)).1, (h3 (by omega)).2, h4 (by omega)]
    exact bn2_id _
  · rw [if_neg (show ¬ nI 119 = 99 by decide), if_neg (show ¬ nI 119 = 102 by decide), if_neg (show ¬ nI 119 = 109 by decide), if_neg (show ¬ nI 119 = 114 by decide), if_pos (show nI 119 = 119 from rfl), h2, (h3 (by omega)).1, (h3 (by omega)).2, h4 (by omega)]
    exact bn2_id _
  · rw [if_neg (show ¬ nI 116 = 99 by decide), if_neg (show ¬ nI 116 = 102 by decide), if_neg (show ¬ nI 116 = 109 by decide), if_neg (show ¬ nI 116 = 114 by decide), if_neg (show ¬ nI 116 = 119 by decide), if_neg (show ¬ nI 116 = 120 by decide), h2]
    exact bn2_id _
theorem ordL.lt {σP : St} {d : Od} (h : ordL σP d) : isLt d.1 := h.2.1
theorem orR_lt {T : List Nat} {p : Nat} {d : Od} (h : (orR T p).1 = some d) : isLt d.1 := by
  by_cases c1 : isCX (cd T p)
  · by_cases c2 : 48 ≤ cd T (p + 1) ∧ cd T (p + 1) ≤ 55
    · rw [or_cy c1 c2] at h; cases h; exact Or.inl c1
    · rw [or_cn c1 c2] at h; cases h
  by_cases c2 : cd T p = 102
  · rcases hr : (rgR T (p + 1)).1 with _ | ⟨o, f, t⟩
    · rw [or_fn c2 hr] at h; cases h
    · rw [or_fy c2 hr] at h; cases h; exact Or.inr (Or.inl rfl)
  by_cases c3 : isRM (cd T p)
  · rcases hr : (rgR T (p + 1)).1 with _ | ⟨o, f, t⟩
    · rw [or_rn c3 hr] at h; cases h
    · by_cases c4 : cd T (rgR T (p + 1)).2 = 33
      · rw [or_r1 c3 hr c4] at h; cases h; exact Or.inr (Or.inr (Or.inl c3))
      · rw [or_r0 c3 hr c4] at h; cases h; exact Or.inr (Or.inr (Or.inl c3))
  by_cases c4 : cd T p = 116
  · by_cases c5 : dg T (p + 1)
    · by_cases c6 : ovr T (p + 1)
      · rw [or_to c4 c5 c6] at h; cases h
      · rw [or_ty c4 c5 c6] at h; cases h; exact Or.inr (Or.inr (Or.inr rfl))
    · rw [or_tn c4 c5] at h; cases h
  rw [or_no c1 c2 c3 c4] at h; cases h
section CY
variable {σW κ : St}
theorem cy_st {x1 x2 x3 : Int32} {a b : St} {z : Int32 × Int32 × Int32 × St × St} {n : Nat} (h : cyB σW κ x1 x2 x3 a b = some (.inl z)) : lp (fun t : (Int32 × Int32 × Int32 × St × St) => cyB σW κ t.1 t.2.1 t.2.2.1 t.2.2.2.1 t.2.2.2.2) (n + 1) (x1, x2, x3, a, b) = lp (fun t : (Int32 × Int32 × Int32 × St × St) => cyB σW κ t.1 t.2.1 t.2.2.1 t.2.2.2.1 t.2.2.2.2) n z := lp_st (b := fun t : (Int32 × Int32 × Int32 × St × St) => cyB σW κ t.1 t.2.1 t.2.2.1 t.2.2.2.1 t.2.2.2.2) (s := (x1, x2, x3, a, b)) h
theorem cy_en {x1 x2 x3 : Int32} {a b : St} {z : Int32 × Int32 × Int32 × St × St} {n : Nat} (h : cyB σW κ x1 x2 x3 a b = some (.inr z)) : lp (fun t : (Int32 × Int32 × Int32 × St × St) => cyB σW κ t.1 t.2.1 t.2.2.1 t.2.2.2.1 t.2.2.2.2) (n + 1) (x1, x2, x3, a, b) = some z := lp_en (b := fun t : (Int32 × Int32 × Int32 × St × St) => cyB σW κ t.1 t.2.1 t.2.2.1 t.2.2.2.1 t.2.2.2.2) (s := (x1, x2, x3, a, b)) h
theorem cy_off (x1 x3 : Int32) (a b : St) : cyB σW κ x1 0 x3 a b = some (.inr (x1, 0, x3, a, b)) := by
  unfold cyB
  split
  · rfl
  · rw [if_pos rfl]
theorem co_st {x : Int32} {s : St} {z : Int32 × St} {n : Nat} (h : bX4_carryOut_16 x s = some (.inl z)) : lp (fun t : (Int32 × St) => bX4_carryOut_16 t.1 t.2) (n + 1) (x, s) = lp (fun t : (Int32 × St) => bX4_carryOut_16 t.1 t.2) n z := lp_st (b := fun t : (Int32 × St) => bX4_carryOut_16 t.1 t.2) (s := (x, s)) h
theorem co_en {x : Int32} {s : St} {z : Int32 × St} {n : Nat} (h : bX4_carryOut_16 x s = some (.inr z)) : lp (fun t : (Int32 × St) => bX4_carryOut_16 t.1 t.2) (n + 1) (x, s) = some z := lp_en (b := fun t : (Int32 × St) => bX4_carryOut_16 t.1 t.2) (s := (x, s)) h
variable {T : List Nat}
/-- the class's part of carrying l out from p on: v orders -/
def cyC (σW κ : St) (T : List Nat) (k p j v : Nat) (A A' : AS) : Prop := ∀ (d0 : Nat) (σN σP : St), RepL σN A → RepPL σP T → σP 2 0 = nI p → ∀ fu, k + 1 < fu → ∃ x2 x3 σN2 σP2, lp (fun t : (Int32 × Int32 × Int32 × St × St) => cyB σW κ t.1 t.2.1 t.2.2.1 t.2.2.2.1 t.2.2.2.2) fu (nI d0, (1 : Int32), nI j, σN, σP) = some (nI (d0 + v), x2, x3, σN2, σP2) ∧ RepL σN2 A' ∧ RepPL σP2 T
/-- the reference's part -/
def cyR (l : List Od) (v : Nat) (A A' : AS) : Prop := ∀ (τ : St) (L : List AS) (m0 : Nat), RepM (τ 0) A → HM τ L → (∀ i d, l[i]? = some d → ordM τ (m0 + i) d) → τ 13 0 = nI (m0 + l.length) → m0 + l.length ≤ 27 → ∀ fu, l.length + 1 < fu → ∃ τ2, lp (fun t : (Int32 × St) => bX4_carryOut_16 t.1 t.2) fu (nI m0, τ) = some (nI (m0 + v), τ2) ∧ RepM (τ2 0) A' ∧ frK τ τ2 ∧ HM τ2 L
theorem frK.ord {τ τ' : St} (h : frK τ τ') {i : Nat} {d : Od} (o : ordM τ i d) : ordM τ' i d := by
  unfold ordM
  rw [h 14 (by omega) (by omega) (by omega) (by omega) (by omega) (by omega), h 15 (by omega) (by omega) (by omega) (by omega) (by omega) (by omega)]
  exact o
theorem cy_loop (hT : TW T) : ∀ (k : Nat) {p j N : Nat} {l : List Od} {A : AS}, (flR T k p).1 = some l → p ≤ T.length → T.length < p + 3 * k → 3 * j ≤ p → OK A → BD N A → N + 300 * l.length < 2147483648 → ∃ (v : Nat) (A' : AS), OK A' ∧ BD (N + 300 * l.length) A' ∧ v ≤ l.length ∧ cyC σW κ T k p j v A A' ∧ cyR l v A A'
  | 0, p, j, N, l, A, h, _, _, _, _, _, _ => by rw [flR] at h; cases h
  | k + 1, p, j, N, l, A, h, hp, hk, hj, hw, hb, hN => by
    have hT8 := hT.1
    rcases hd : (orR T p).1 with _ | d
    · rw [fl_n hd] at h; cases h
    have hlt := orR_lt hd
    have hq := orR_len hd
    -- the parts of l
    have hl : ∃ l', l = d :: l' ∧ ((cd T (orR T p).2 ≠ 59 ∧ l' = []) ∨ (cd T (orR T p).2 = 59 ∧ (flR T k ((orR T p).2 + 1)).1 = some l')) := by
      by_cases c : (orR T p).2 < T.length
      · by_cases c2 : cd T (orR T p).2 = 59
        · rcases he : (flR T k ((orR T p).2 + 1)).1 with _ | l'
          · rw [fl_sn hd c c2 he] at h; cases h
          · rw [fl_ss hd c c2 he] at h; cases h
            exact ⟨l', rfl, Or.inr ⟨c2, rfl⟩⟩
        · rw [fl_b hd c c2] at h; cases h
      · rw [fl_e hd c] at h; cases h
        exact ⟨[], rfl, Or.inl ⟨by rw [cd_out (by omega)]; omega, rfl⟩⟩
    obtain ⟨l', rfl, hl⟩ := hl
    have hlen : (d :: l').length = l'.length + 1 := List.length_cons
    obtain ⟨v, A1, hL, hM, hw1, hb1, hneg⟩ := op_b hw hb (by omega) d
    -- one step of the class
    have step : ∀ (d0 : Nat) (σN σP : St), RepL σN A → RepPL σP T → σP 2 0 = nI p → ∃ n1 s1, RepL n1 A1 ∧ RepPL s1 T ∧ s1 2 0 = nI (orR T p).2 ∧ (v < 0 → cyB σW κ (nI d0) 1 (nI j) σN σP = some (.inl (nI d0, 0, nI (j + 1), n1, s1))) ∧ (¬ v < 0 → cyB σW κ (nI d0) 1 (nI j) σN σP = bn2 (fX2_skip 59 s1) fun r3 s2 => some (.inl (nI (d0 + 1), r3, nI (j + 1), n1, s2))) := fun d0 σN σP hR hP hp2 => by
      obtain ⟨r, s1, e1, g1, p1, -, y1⟩ := orderL_rd hP hT hp2 (by omega)
      obtain ⟨rfl, o1⟩ := y1 d hd
      obtain ⟨n1, e2, r2⟩ := hL σN hR
      refine ⟨n1, s1, r2, g1, p1, fun hv => ?_, fun hv => ?_⟩
      · unfold cyB
        rw [if_neg (show ¬ (80 : Int32) ≤ nI j from fun w => absurd ((nI_leI (a := 80) (by omega) (by omega)).mp w) (by omega)), if_neg (by decide), e1, bn2_s, if_neg (by decide), obey_eq o1, e2, bn2_s, if_pos hv, l1, nI_add]
      · unfold cyB
        rw [if_neg (show ¬ (80 : Int32) ≤ nI j from fun w => absurd ((nI_leI (a := 80) (by omega) (by omega)).mp w) (by omega)), if_neg (by decide), e1, bn2_s, if_neg (by decide), obey_eq o1, e2, bn2_s, if_neg hv, l1, nI_add, nI_add]
    -- one step of the reference
    have stepM : ∀ (τ : St) (L : List AS) (m0 : Nat), RepM (τ 0) A → HM τ L → ordM τ m0 d → τ 13 0 = nI (m0 + (l'.length + 1)) → m0 + (l'.length + 1) ≤ 27 → ∃ τ1, RepM (τ1 0) A1 ∧ frK τ τ1 ∧ HM τ1 L ∧ bX4_carryOut_16 (nI m0) τ = if v < 0 then some (.inr (nI m0, τ1)) else some (.inl (nI (m0 + 1), τ1)) := fun τ L m0 hR hH ho h13 hm => by
      obtain ⟨τ1, e1, r1, f1, hH1⟩ := hM τ L hR hH
      have hH1 : HM τ1 L := by
        by_cases hv : v < 0
        · rwa [if_pos hv] at hH1
        · rwa [if_neg hv] at hH1
      refine ⟨τ1, r1, f1, hH1, ?_⟩
      unfold bX4_carryOut_16
      rw [h13, if_neg (show ¬ nI (m0 + (l'.length + 1)) ≤ nI m0 from fun w => absurd ((nI_leI (by omega) (by omega)).mp w) (by omega)), carry_eq (by omega) hlt ho, e1, bn2_s]
      simp only [nm]
      rw [l1, nI_add]
    by_cases hv : v < 0
    · -- an error: the order is left
      refine ⟨0, A1, hw1, hb1.mono (by omega), by omega, fun d0 σN σP hR hP hp2 fu hf => ?_, fun τ L m0 hR hH ho h13 hm fu hf => ?_⟩
      · obtain ⟨fu, rfl⟩ : ∃ z, fu = z + 1 + 1 := ⟨fu - 2, by omega⟩
        obtain ⟨n1, s1, a1, a2, a3, a4, -⟩ := step d0 σN σP hR hP hp2
        exact ⟨_, _, n1, s1, (cy_st (a4 hv)).trans (cy_en (cy_off _ _ _ _)), a1, a2⟩
      · obtain ⟨fu, rfl⟩ : ∃ z, fu = z + 1 := ⟨fu - 1, by omega⟩
        obtain ⟨τ1, a1, a2, a3, a4⟩ := stepM τ L m0 hR hH (ho 0 d rfl) (by rw [h13, hlen]) (by omega)
        rw [if_pos hv] at a4
        exact ⟨τ1, co_en a4, a1, a2, a3⟩
    · rcases hl with ⟨c2, rfl⟩ | ⟨c2, he⟩
      · -- the last order
        refine ⟨1, A1, hw1, hb1.mono (by simp only [List.length_cons, List.length_nil]; omega), by simp only [List.length_cons, List.length_nil]; omega, fun d0 σN σP hR hP hp2 fu hf => ?_, fun τ L m0 hR hH ho h13 hm fu hf => ?_⟩
        · obtain ⟨fu, rfl⟩ : ∃ z, fu = z + 1 + 1 := ⟨fu - 2, by omega⟩
          obtain ⟨n1, s1, a1, a2, a3, -, a5⟩ := step d0 σN σP hR hP hp2
          have a5 := a5 hv
          rw [show fX2_skip 59 s1 = _ from (skipL_eq a2 hT a3 (by omega) (a := 59) (by omega)).2 c2, bn2_s] at a5
          exact ⟨_, _, n1, s1, (cy_st a5).trans (cy_en (cy_off _ _ _ _)), a1, a2⟩
        · obtain ⟨fu, rfl⟩ : ∃ z, fu = z + 1 + 1 := ⟨fu - 2, by omega⟩
          obtain ⟨τ1, a1, a2, a3, a4⟩ := stepM τ L m0 hR hH (ho 0 d rfl) h13 (by simpa using hm)
          rw [if_neg hv] at a4
          have h13' : τ1 13 0 = nI (m0 + 1) := by rw [a2 13 (by omega) (by omega) (by omega) (by omega) (by omega) (by omega)]; exact h13
          have b : bX4_carryOut_16 (nI (m0 + 1)) τ1 = some (.inr (nI (m0 + 1), τ1)) := by
            unfold bX4_carryOut_16
            rw [h13', if_pos (show nI (m0 + 1) ≤ nI (m0 + 1) from (nI_leI (by simp at hm; omega) (by simp at hm; omega)).mpr (by omega))]
          exact ⟨τ1, (co_st a4).trans (co_en b), a1, a2, a3⟩
      · -- and further orders
        have c := cd_pos (T := T) (q := (orR T p).2) (by omega)
        obtain ⟨v2, A2, hw2, hb2, hv2, ihC, ihR⟩ := cy_loop hT k (p := (orR T p).2 + 1) (j := j + 1) (N := N + 300) (l := l') (A := A1) he (by omega) (by omega) (by omega) hw1 hb1 (by rw [hlen] at hN; omega)
        refine ⟨v2 + 1, A2, hw2, hb2.mono (by rw [hlen]; omega), by rw [hlen]; omega, fun d0 σN σP hR hP hp2 fu hf => ?_, fun τ L m0 hR hH ho h13 hm fu hf => ?_⟩
        · obtain ⟨fu, rfl⟩ : ∃ z, fu = z + 1 := ⟨fu - 1, by omega⟩
          obtain ⟨n1, s1, a1, a2, a3, -, a5⟩ := step d0 σN σP hR hP hp2
          have a5 := a5 hv
          rw [show fX2_skip 59 s1 = _ from (skipL_eq a2 hT a3 (by omega) (a := 59) (by omega)).1 c2, bn2_s] at a5
          obtain ⟨x2, x3, n2, s2, b1, b2, b3⟩ := ihC (d0 + 1) n1 (put s1 2 (fun _ => nI ((orR T p).2 + 1))) a1 (a2.pt (by omega) (by omega) _) (by rw [put_s]) fu (by omega)
          refine ⟨x2, x3, n2, s2, (cy_st a5).trans ?_, b2, b3⟩
          rw [show d0 + (v2 + 1) = d0 + 1 + v2 by omega]
          exact b1
        · rw [hlen] at hf hm h13
          obtain ⟨fu, rfl⟩ : ∃ z, fu = z + 1 := ⟨fu - 1, by omega⟩
          obtain ⟨τ1, a1, a2, a3, a4⟩ := stepM τ L m0 hR hH (ho 0 d rfl) h13 (by omega)
          rw [if_neg hv] at a4
          have h13' : τ1 13 0 = nI (m0 + 1 + l'.length) := by rw [a2 13 (by omega) (by omega) (by omega) (by omega) (by omega) (by omega), h13, show m0 + (l'.length + 1) = m0 + 1 + l'.length by omega]
          obtain ⟨τ2, b1, b2, b3, b4⟩ := ihR τ1 L (m0 + 1) a1 a3 (fun i d' hi => a2.ord (by have := ho (i + 1) d' (by rw [List.getElem?_cons_succ]; exact hi); rwa [show m0 + (i + 1) = m0 + 1 + i by omega] at this)) h13' (by omega) fu (by omega)
          refine ⟨τ2, (co_st a4).trans ?_, b2, a2.tr b3, b4⟩
          rw [show m0 + (v2 + 1) = m0 + 1 + v2 by omega]
          exact b1
end CY
