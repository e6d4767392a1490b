/-! The whole text, order by order -/
/-- the orders from p on, or none; and where they end or fail -/
def flR (T : List Nat) : Nat → Nat → Option (List Od) × Nat
  | 0, p => (none, p)
  | k + 1, p =>
    match (orR T p).1 with
    | none => (none, (orR T p).2)
    | some d =>
      if (orR T p).2 < T.length then
        (if cd T (orR T p).2 = 59 then
          (match (flR T k ((orR T p).2 + 1)).1 with
          | none => (none, (flR T k ((orR T p).2 + 1)).2)
          | some l => (some (d :: l), (flR T k ((orR T p).2 + 1)).2))
        else (none, (orR T p).2))
      else (some [d], (orR T p).2)
section FL
variable {T : List Nat} {p k : Nat}
theorem fl_n (h : (orR T p).1 = none) : flR T (k + 1) p = (none, (orR T p).2) := by rw [flR, h]
theorem fl_e {d : Od} (h : (orR T p).1 = some d) (h2 : ¬ (orR T p).2 < T.length) : flR T (k + 1) p = (some [d], (orR T p).2) := by
  rw [flR, h]; exact if_neg h2
theorem fl_b {d : Od} (h : (orR T p).1 = some d) (h2 : (orR T p).2 < T.length) (h3 : cd T (orR T p).2 ≠ 59) : flR T (k + 1) p = (none, (orR T p).2) := by
  rw [flR, h]; exact (if_pos h2).trans (if_neg h3)
theorem fl_sn {d : Od} (h : (orR T p).1 = some d) (h2 : (orR T p).2 < T.length) (h3 : cd T (orR T p).2 = 59) (h4 : (flR T k ((orR T p).2 + 1)).1 = none) : flR T (k + 1) p = (none, (flR T k ((orR T p).2 + 1)).2) := by
  rw [flR, h]; refine (if_pos h2).trans ((if_pos h3).trans ?_); rw [h4]
theorem fl_ss {d : Od} {l : List Od} (h : (orR T p).1 = some d) (h2 : (orR T p).2 < T.length) (h3 : cd T (orR T p).2 = 59) (h4 : (flR T k ((orR T p).2 + 1)).1 = some l) : flR T (k + 1) p = (some (d :: l), (flR T k ((orR T p).2 + 1)).2) := by
  rw [flR, h]; refine (if_pos h2).trans ((if_pos h3).trans ?_); rw [h4]
theorem cd_pos {q : Nat} (h : cd T q ≠ 0) : q < T.length := Classical.byContradiction fun w => h (cd_out (by omega))
theorem nmV_len (h : dg T p) : (nmV T p).2 ≤ T.length := by
  have h0 := cd_pos (T := T) (q := p) (by omega)
  unfold nmV
  split
  · rename_i g1
    have h1 := cd_pos (T := T) (q := p + 1) (by have := g1.2.1.1; omega)
    split
    · rename_i g2
      have h2 := cd_pos (T := T) (q := p + 2) (by have := g2.2.1.1; omega)
      simp only; omega
    · simp only; omega
  · simp only; omega
theorem rgR_len {x : Nat × Nat × Nat} (h : (rgR T p).1 = some x) : p + 2 ≤ (rgR T p).2 ∧ (rgR T p).2 ≤ T.length := by
  have l1 := nmV_le T (p + 2)
  have l2 := nmV_le T ((nmV T (p + 2)).2 + 1)
  unfold rgR at h ⊢
  by_cases c1 : ¬ (48 ≤ cd T p ∧ cd T p ≤ 55)
  · rw [if_pos c1] at h; cases h
  rw [if_neg c1] at h ⊢
  by_cases c2 : cd T (p + 1) ≠ 58
  · rw [if_pos c2] at h; cases h
  rw [if_neg c2] at h ⊢
  by_cases c3 : ¬ dg T (p + 2)
  · rw [if_pos c3] at h; cases h
  rw [if_neg c3] at h ⊢
  by_cases c4 : ovr T (p + 2)
  · rw [if_pos c4] at h; cases h
  rw [if_neg c4] at h ⊢
  by_cases c5 : cd T (nmV T (p + 2)).2 ≠ 45
  · rw [if_pos c5] at h; cases h
  rw [if_neg c5] at h ⊢
  by_cases c6 : ¬ dg T ((nmV T (p + 2)).2 + 1)
  · rw [if_pos c6] at h; cases h
  rw [if_neg c6] at h ⊢
  by_cases c7 : ovr T ((nmV T (p + 2)).2 + 1)
  · rw [if_pos c7] at h; cases h
  rw [if_neg c7]
  exact ⟨by simp only; omega, nmV_len (Classical.byContradiction c6)⟩
theorem orR_len {d : Od} (h : (orR T p).1 = some d) : p + 2 ≤ (orR T p).2 ∧ (orR T p).2 ≤ T.length := by
  by_cases c1 : isCX (cd T p)
  · by_cases c2 : 48 ≤ cd T (p + 1) ∧ cd T (p + 1) ≤ 55
    · rw [or_cy c1 c2]
      have := cd_pos (T := T) (q := p + 1) (by omega)
      exact ⟨by simp only; omega, by simp only; omega⟩
    · rw [or_cn c1 c2] at h; cases h
  · by_cases c2 : cd T p = 102
    · rcases hr : (rgR T (p + 1)).1 with _ | ⟨o, f, t⟩
      · rw [or_fn c2 hr] at h; cases h
      · rw [or_fy c2 hr]
        have := rgR_len hr
        exact ⟨by simp only; omega, this.2⟩
    · by_cases c3 : isRM (cd T p)
      · rcases hr : (rgR T (p + 1)).1 with _ | ⟨o, f, t⟩
        · rw [or_rn c3 hr] at h; cases h
        · have := rgR_len hr
          by_cases c4 : cd T (rgR T (p + 1)).2 = 33
          · rw [or_r1 c3 hr c4]
            have := cd_pos (T := T) (q := (rgR T (p + 1)).2) (by omega)
            exact ⟨by simp only; omega, by simp only; omega⟩
          · rw [or_r0 c3 hr c4]
            exact ⟨by simp only; omega, this.2⟩
      · by_cases c4 : cd T p = 116
        · by_cases c5 : dg T (p + 1)
          · by_cases c6 : ovr T (p + 1)
            · rw [or_to c4 c5 c6] at h; cases h
            · rw [or_ty c4 c5 c6]
              have := nmV_le T (p + 1)
              exact ⟨by simp only; omega, nmV_len c5⟩
          · rw [or_tn c4 c5] at h; cases h
        · rw [or_no c1 c2 c3 c4] at h; cases h
theorem orR_le (T : List Nat) (p : Nat) : (orR T p).2 ≤ p + 11 := by
  have h1 := rgR_le T (p + 1)
  have h2 := nmV_le T (p + 1)
  unfold orR
  split
  · split <;> (simp only; omega)
  · split
    · split <;> (simp only; omega)
    · split
      · split
        · simp only; omega
        · split <;> (simp only; omega)
      · split
        · split
          · simp only; omega
          · split <;> (simp only; omega)
        · simp only; omega
/-- the first fault of a text: its place, or -6 -/
def fltV (T : List Nat) : Int32 := match (flR T 27 0).1 with
  | none => nI (flR T 27 0).2
  | some _ => -6
theorem fl_le : ∀ (k : Nat) {p : Nat}, p ≤ T.length → (flR T k p).2 ≤ T.length + 11
  | 0, p, h => by rw [flR]; simp only; omega
  | k + 1, p, h => by
    have ho := orR_le T p
    rcases hd : (orR T p).1 with _ | d
    · rw [fl_n hd]; simp only; omega
    · have hl := orR_len hd
      by_cases c : (orR T p).2 < T.length
      · by_cases c2 : cd T (orR T p).2 = 59
        · have ih := fl_le k (p := (orR T p).2 + 1) (by omega)
          rcases he : (flR T k ((orR T p).2 + 1)).1 with _ | l
          · rw [fl_sn hd c c2 he]; exact ih
          · rw [fl_ss hd c c2 he]; exact ih
        · rw [fl_b hd c c2]; simp only; omega
      · rw [fl_e hd c]; simp only; omega
/-! the reference -/
theorem fltM_loop (hT : TW T) : ∀ (k : Nat) {p n : Nat} {s : St}, RS s T p n → 3 * n ≤ p → p ≤ T.length → T.length < p + 3 * k → ∀ fu, k + 1 < fu → ∃ s5 e, fX4_takeOrder s = some s5 ∧ lp (fun t : St => bX4_fault_19 t) fu s5 = some e ∧ frP s e ∧ ((flR T k p).1 = none → RF e T (flR T k p).2) ∧ ∀ l, (flR T k p).1 = some l → RS e T (flR T k p).2 (n + l.length) ∧ n + l.length ≤ 27 ∧ (∀ i d, l[i]? = some d → ordM e (n + i) d) ∧ ∀ i d, i < n → ordM s i d → ordM e i d
  | 0, p, n, s, h, hn, hp, hk, fu, hf => by omega
  | k + 1, p, n, s, h, hn, hp, hk, fu, hf => by
    have hT8 := hT.1
    obtain ⟨s5, e5, f5, y5, z5⟩ := orderM_eq h hT (by omega) (by omega)
    have ho := orR_le T p
    obtain ⟨fu, rfl⟩ : ∃ m, fu = m + 1 := ⟨fu - 1, by omega⟩
    rcases hd : (orR T p).1 with _ | d
    · have r5 := y5 hd
      have hb : bX4_fault_19 s5 = some (.inr s5) := by unfold bX4_fault_19; rw [r5.2.1, if_neg n1_0]
      rw [fl_n hd]
      exact ⟨s5, s5, e5, lp_en hb, f5, fun _ => r5, fun l q => by cases q⟩
    · obtain ⟨r5, o5, q5⟩ := z5 d hd
      have hl := orR_len hd
      have b1 : bX4_fault_19 s5 = if nI T.length ≤ nI (orR T p).2 then some (.inr s5) else (bnd (fX4_takeSign (59 : Int32) s5) fun s8 => if ((s8 12 0) : Int32) = (0 : Int32) then (bnd (fX4_takeOrder s8) fun s10 => some (.inl s10)) else (some (.inl s8))) := by
        unfold bX4_fault_19
        rw [r5.2.1, if_pos (show nI 0 = 0 from rfl), r5.1.1, r5.2.2.1]
      by_cases c : (orR T p).2 < T.length
      · rw [if_neg (show ¬ nI T.length ≤ nI (orR T p).2 from fun w => absurd ((nI_leI (by omega) (by omega)).mp w) (by omega))] at b1
        by_cases c2 : cd T (orR T p).2 = 59
        · obtain ⟨s8, e8, r8, f8, a14, a15⟩ := signM_y r5 hT (by omega) (a := 59) (by omega) c2
          rw [show fX4_takeSign 59 s5 = _ from e8, bnd_s, r8.2.1, if_pos (show nI 0 = 0 from rfl)] at b1
          obtain ⟨s9, e, e9, el9, f9, y9, z9⟩ := fltM_loop hT k r8 (by omega) (by omega) (by omega) fu (by omega)
          rw [e9, bnd_s] at b1
          have hle : lp (fun t : St => bX4_fault_19 t) (fu + 1) s5 = some e := (lp_st b1).trans el9
          have o8 : ∀ i d, ordM s5 i d → ordM s8 i d := fun i d w => by unfold ordM; rw [a14, a15]; exact w
          rcases he : (flR T k ((orR T p).2 + 1)).1 with _ | l
          · rw [fl_sn hd c c2 he]
            exact ⟨s5, e, e5, hle, f5.tr (f8.tr f9), fun _ => y9 he, fun l q => by cases q⟩
          · rw [fl_ss hd c c2 he]
            obtain ⟨w1, w2, w3, w4⟩ := z9 l he
            refine ⟨s5, e, e5, hle, f5.tr (f8.tr f9), fun q => (by cases q), fun l' q => ?_⟩
            cases q
            have hlen : n + (d :: l).length = n + 1 + l.length := by rw [List.length_cons]; omega
            refine ⟨by rw [hlen]; exact w1, by omega, fun i d' hi => ?_, fun i d' hi w => w4 i d' (by omega) (o8 i d' (q5 i d' hi w))⟩
            cases i with
            | zero =>
              rw [List.getElem?_cons_zero] at hi
              cases hi
              exact w4 n d (by omega) (o8 n d o5)
            | succ i =>
              rw [List.getElem?_cons_succ] at hi
              have := w3 i d' hi
              rwa [show n + 1 + i = n + (i + 1) by omega] at this
        · obtain ⟨s8, e8, r8, f8⟩ := signM_n r5 hT (by omega) (a := 59) (by omega) c2
          rw [show fX4_takeSign 59 s5 = _ from e8, bnd_s, r8.2.1, if_neg n1_0] at b1
          obtain ⟨fu, rfl⟩ : ∃ m, fu = m + 1 := ⟨fu - 1, by omega⟩
          have hb : bX4_fault_19 s8 = some (.inr s8) := by unfold bX4_fault_19; rw [r8.2.1, if_neg n1_0]
          rw [fl_b hd c c2]
          exact ⟨s5, s8, e5, (lp_st b1).trans (lp_en hb), f5.tr f8, fun _ => r8, fun l q => by cases q⟩
      · rw [if_pos (show nI T.length ≤ nI (orR T p).2 from (nI_leI (by omega) (by omega)).mpr (by omega))] at b1
        rw [fl_e hd c]
        refine ⟨s5, s5, e5, lp_en b1, f5, fun q => (by cases q), fun l q => ?_⟩
        cases q
        refine ⟨r5, by simp only [List.length_cons, List.length_nil]; omega, fun i d' hi => ?_, q5⟩
        cases i with
        | zero => rw [List.getElem?_cons_zero] at hi; cases hi; exact o5
        | succ i => rw [List.getElem?_cons_succ] at hi; cases hi
theorem faultM_eq {σ : St} (h : RepPM σ T) (hT : TW T) : ∃ σ', fX4_fault σ = some (fltV T, σ') ∧ RepPM σ' T ∧ frP σ σ' ∧ ∀ l, (flR T 27 0).1 = some l → σ' 13 0 = nI l.length ∧ l.length ≤ 27 ∧ ∀ i d, l[i]? = some d → ordM σ' i d := by
  have hT8 := hT.1
  obtain ⟨s3, hs3⟩ : ∃ x, x = put (put (put σ 11 (fun _ => (0 : Int32))) 12 (fun _ => (0 : Int32))) 13 (fun _ => (0 : Int32)) := ⟨_, rfl⟩
  have f3 : frP σ s3 := fun k a b c _ _ => by rw [hs3, put_n _ _ c, put_n _ _ b, put_n _ _ a]
  have r3 : RS s3 T 0 0 := ⟨h.fr f3, by rw [hs3, put_n _ _ (by omega), put_s]; rfl, by rw [hs3, put_n _ _ (by omega), put_n _ _ (by omega), put_s]; rfl, by rw [hs3, put_s]; rfl⟩
  obtain ⟨s5, e, e5, el5, f5, y5, z5⟩ := fltM_loop hT 27 r3 (by omega) (by omega) (by omega) FU (by rw [FU_v]; omega)
  have hq := fl_le (T := T) 27 (p := 0) (by omega)
  unfold fX4_fault
  simp only [nm]
  rw [← hs3, e5, bnd_s, el5, bnd_s]
  unfold fltV
  rcases hd : (flR T 27 0).1 with _ | l
  · have r := y5 hd
    refine ⟨e, ?_, r.1, f3.tr f5, fun l q => by cases q⟩
    rw [r.2.1, if_neg n1_0, r.2.2]
  · obtain ⟨w1, w2, w3, w4⟩ := z5 l hd
    refine ⟨e, ?_, w1.1, f3.tr f5, fun l' q => ?_⟩
    · rw [w1.2.1, if_pos (show nI 0 = 0 from rfl)]
    · cases q
      have w13 := w1.2.2.2
      rw [Nat.zero_add] at w13
      exact ⟨w13, by omega, fun i d hi => by have := w3 i d hi; rwa [Nat.zero_add] at this⟩
/-! the class -/
/-- the loop's end and what is made of it -/
def ffC (e0 : (Int32 × Int32 × St) ⊕ (Int32 × St)) : Option (Int32 × St) := el e0 (fun e : (Int32 × Int32 × St) => nm e.1 fun x10 => nm e.2.1 fun x11 => nm e.2.2 fun s12 => if (s12 1 0) ≤ (s12 2 0) then (some ((-6 : Int32), s12)) else (some (s12 2 0, s12))) (fun r : (Int32 × St) => some r)
theorem ff_eq (σ : St) : fX2_firstFault σ = bnd (lp (fun t : (Int32 × Int32 × St) => bX2_firstFault_9 t.1 t.2.1 t.2.2) FU ((1 : Int32), (0 : Int32), put σ 2 (fun _ => (0 : Int32)))) ffC := rfl
def flV (T : List Nat) (k p : Nat) : Int32 := match (flR T k p).1 with
  | none => nI (flR T k p).2
  | some _ => -6
theorem ff_st {x y : Int32} {s : St} {z : Int32 × Int32 × St} {n : Nat} (h : bX2_firstFault_9 x y s = some (.inl z)) : lp (fun t : (Int32 × Int32 × St) => bX2_firstFault_9 t.1 t.2.1 t.2.2) (n + 1) (x, y, s) = lp (fun t : (Int32 × Int32 × St) => bX2_firstFault_9 t.1 t.2.1 t.2.2) n z := lp_st (b := (fun t : (Int32 × Int32 × St) => bX2_firstFault_9 t.1 t.2.1 t.2.2)) (s := (x, y, s)) h
theorem ff_en {x y : Int32} {s : St} {e : (Int32 × Int32 × St) ⊕ (Int32 × St)} {n : Nat} (h : bX2_firstFault_9 x y s = some (.inr e)) : lp (fun t : (Int32 × Int32 × St) => bX2_firstFault_9 t.1 t.2.1 t.2.2) (n + 1) (x, y, s) = some e := lp_en (b := (fun t : (Int32 × Int32 × St) => bX2_firstFault_9 t.1 t.2.1 t.2.2)) (s := (x, y, s)) h
theorem fltL_loop (hT : TW T) : ∀ (k : Nat) {p j : Nat} {s : St}, RepPL s T → s 2 0 = nI p → 3 * j ≤ p → p ≤ T.length → T.length < p + 3 * k → ∀ fu, k + 1 < fu → ∃ e s', lp (fun t : (Int32 × Int32 × St) => bX2_firstFault_9 t.1 t.2.1 t.2.2) fu ((1 : Int32), nI j, s) = some e ∧ ffC e = some (flV T k p, s') ∧ RepPL s' T
  | 0, p, j, s, h, hp, hj, hpl, hk, fu, hf => by omega
  | k + 1, p, j, s, h, hp, hj, hpl, hk, fu, hf => by
    have hT8 := hT.1
    obtain ⟨r, s6, e6, g6, p6, n6, y6⟩ := orderL_rd h hT hp (by omega)
    have ho := orR_le T p
    obtain ⟨fu, rfl⟩ : ∃ m, fu = m + 1 := ⟨fu - 1, by omega⟩
    have b1 : bX2_firstFault_9 1 (nI j) s = if (r : Int32) = (0 : Int32) then (some (.inr (.inr (s6 2 0, s6)))) else (bn2 (fX2_skip (59 : Int32) s6) fun r7 s8 => nm (nI j + (1 : Int32)) fun v9 => some (.inl (r7, v9, s8))) := by
      unfold bX2_firstFault_9
      rw [if_neg (show ¬ (80 : Int32) ≤ nI j from fun w => absurd ((nI_leI (a := 80) (by omega) (by omega)).mp w) (by omega)), if_neg (by decide), e6, bn2_s]
    obtain ⟨y7, n7⟩ := skipL_eq g6 hT p6 (by omega) (a := 59) (by omega)
    -- the loop ends behind an order that no ';' follows
    have fin : r = 1 → cd T (orR T p).2 ≠ 59 → ∃ e, lp (fun t : (Int32 × Int32 × St) => bX2_firstFault_9 t.1 t.2.1 t.2.2) (fu + 1) ((1 : Int32), nI j, s) = some e ∧ ffC e = if nI T.length ≤ nI (orR T p).2 then some ((-6 : Int32), s6) else some (nI (orR T p).2, s6) := fun hr hc => by
      obtain ⟨fu, rfl⟩ : ∃ m, fu = m + 1 := ⟨fu - 1, by omega⟩
      rw [hr, if_neg (by decide), show fX2_skip 59 s6 = _ from n7 hc, bn2_s] at b1
      simp only [nm] at b1
      have b2 : bX2_firstFault_9 0 (nI j + 1) s6 = some (.inr (.inl (0, nI j + 1, s6))) := by
        unfold bX2_firstFault_9
        split
        · rfl
        · rw [if_pos rfl]
      refine ⟨_, (ff_st b1).trans (ff_en b2), ?_⟩
      show (if s6 1 0 ≤ s6 2 0 then some ((-6 : Int32), s6) else some (s6 2 0, s6)) = _
      rw [g6.1, p6]
    rcases hd : (orR T p).1 with _ | d
    · have hv : flV T (k + 1) p = nI (orR T p).2 := by unfold flV; rw [fl_n hd]
      rw [hv]
      rcases n6 hd with rfl | ⟨hr, w⟩
      · rw [if_pos rfl] at b1
        refine ⟨_, s6, ff_en b1, ?_, g6⟩
        show some (s6 2 0, s6) = _
        rw [p6]
      · obtain ⟨e, he, hc⟩ := fin hr (by have := w.2; omega)
        have := cd_pos (T := T) (q := (orR T p).2) (by have := w.1; omega)
        rw [if_neg (show ¬ nI T.length ≤ nI (orR T p).2 from fun w => absurd ((nI_leI (by omega) (by omega)).mp w) (by omega))] at hc
        exact ⟨e, s6, he, hc, g6⟩
    · obtain ⟨hr, o6⟩ := y6 d hd
      have hl := orR_len hd
      by_cases c2 : cd T (orR T p).2 = 59
      · have c := cd_pos (T := T) (q := (orR T p).2) (by omega)
        rw [hr, if_neg (by decide), show fX2_skip 59 s6 = _ from y7 c2, bn2_s] at b1
        simp only [nm] at b1
        rw [l1, nI_add] at b1
        obtain ⟨e, s', he, hc, g'⟩ := fltL_loop hT k (p := (orR T p).2 + 1) (j := j + 1) (s := put s6 2 (fun _ => nI ((orR T p).2 + 1))) (g6.pt (by omega) (by omega) _) (by rw [put_s]) (by omega) (by omega) (by omega) fu (by omega)
        refine ⟨e, s', (ff_st b1).trans he, ?_, g'⟩
        rw [hc]
        unfold flV
        rcases he : (flR T k ((orR T p).2 + 1)).1 with _ | l
        · rw [fl_sn hd c c2 he]
        · rw [fl_ss hd c c2 he]
      · obtain ⟨e, he, hc⟩ := fin hr c2
        refine ⟨e, s6, he, ?_, g6⟩
        rw [hc]
        unfold flV
        by_cases c : (orR T p).2 < T.length
        · rw [if_neg (show ¬ nI T.length ≤ nI (orR T p).2 from fun w => absurd ((nI_leI (by omega) (by omega)).mp w) (by omega)), fl_b hd c c2]
        · rw [if_pos (show nI T.length ≤ nI (orR T p).2 from (nI_leI (by omega) (by omega)).mpr (by omega)), fl_e hd c]
theorem faultL_eq {σ : St} (h : RepPL σ T) (hT : TW T) : ∃ σ', fX2_firstFault σ = some (fltV T, σ') ∧ RepPL σ' T := by
  have hT8 := hT.1
  obtain ⟨e, s', he, hc, g'⟩ := fltL_loop hT 27 (p := 0) (j := 0) (s := put σ 2 (fun _ => (0 : Int32))) (h.pt (by omega) (by omega) _) (by rw [put_s]; rfl) (by omega) (by omega) (by omega) FU (by rw [FU_v]; omega)
  refine ⟨s', ?_, g'⟩
  rw [ff_eq, show lp (fun t : (Int32 × Int32 × St) => bX2_firstFault_9 t.1 t.2.1 t.2.2) FU ((1 : Int32), (0 : Int32), put σ 2 (fun _ => (0 : Int32))) = _ from he, bnd_s]
  exact hc
end FL
