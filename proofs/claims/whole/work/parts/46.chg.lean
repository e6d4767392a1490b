/-! Changes, on both sides -/
theorem ge_gt {n : Nat} {a : Int32} (h : nI (n + 1) ≤ a) (hn : n + 1 < 2147483648) : nI n < a := by
  rw [Int32.le_iff_toInt_le, nI_toInt (by omega)] at h
  rw [Int32.lt_iff_toInt_lt, nI_toInt (by omega)]
  omega
theorem ge_ngt {a b : Int32} (h : a < b) : ¬ b < a := by
  rw [Int32.lt_iff_toInt_lt] at h ⊢
  omega
theorem gt_ge {a b : Int32} (h : a < b) : a ≤ b := by
  rw [Int32.lt_iff_toInt_lt] at h
  rw [Int32.le_iff_toInt_le]
  omega
theorem le_nlt {a b : Int32} (h : a ≤ b) : ¬ b < a := by
  rw [Int32.le_iff_toInt_le] at h
  rw [Int32.lt_iff_toInt_lt]
  omega
theorem lt_nle {a b : Int32} (h : a < b) : ¬ b ≤ a := by
  rw [Int32.lt_iff_toInt_lt] at h
  rw [Int32.le_iff_toInt_le]
  omega
theorem neg_lt {a : Int32} (h : a < 0) {n : Nat} (hn : n < 2147483648) : a < nI n := by
  rw [Int32.lt_iff_toInt_lt] at h ⊢
  rw [nI_toInt (by omega)]
  have : (0 : Int32).toInt = 0 := rfl
  omega
theorem inM_lo {a lo hi : Int32} (h : a < lo) : fX4_in a lo hi = some 0 := by
  unfold fX4_in
  rw [if_pos h]
theorem inM_hi {a lo hi : Int32} (h : hi < a) : fX4_in a lo hi = some 0 := by
  unfold fX4_in
  split
  · rfl
  · first | rfl | rw [if_pos h]
theorem own_c (a : Int32) : (∃ o, o < 8 ∧ a = nI o) ∨ (fX3_isOwner a = some 0 ∧ fX4_isOwner a = some 0) := by
  rcases pk_ix a (n := 8) (by omega) with h | h | ⟨o, ho, rfl⟩
  · right
    refine ⟨by unfold fX3_isOwner; rw [if_pos h], ?_⟩
    unfold fX4_isOwner
    rw [inM_lo h]
    exact gd_t (Or.inl rfl)
  · right
    have h7 : (7 : Int32) < a := ge_gt (n := 7) h (by omega)
    refine ⟨?_, ?_⟩
    · unfold fX3_isOwner
      rw [if_neg (fun q => lt_nle (neg_lt q (n := 8) (by omega)) h)]
      exact if_pos h
    · unfold fX4_isOwner
      rw [inM_hi h7]
      exact gd_t (Or.inl rfl)
  · exact Or.inl ⟨o, ho, rfl⟩
theorem rng_c (a b : Int32) : (∃ f t, f < t ∧ t ≤ 300 ∧ a = nI f ∧ b = nI t) ∨ (fX3_isRange a b = some 0 ∧ fX4_isRange a b = some 0) := by
  rcases pk_ix a (n := 300) (by omega) with h | h | ⟨f, hf, rfl⟩
  · right
    refine ⟨?_, ?_⟩
    · unfold fX3_isRange fX3_isPlace
      rw [if_pos h]; rfl
    · unfold fX4_isRange
      rw [inM_lo h]; rfl
  · right
    have h9 : (299 : Int32) < a := ge_gt (n := 299) h (by omega)
    refine ⟨?_, ?_⟩
    · unfold fX3_isRange fX3_isPlace
      rw [if_neg (fun q => lt_nle (neg_lt q (n := 300) (by omega)) h), show (300 : Int32) = nI 300 from rfl, if_pos h]; rfl
    · unfold fX4_isRange
      rw [inM_hi h9]; rfl
  · have i1 : fX3_isPlace (nI f) = some 1 := by
      unfold fX3_isPlace
      simp (disch := omega) only [nm, bnd_s, bnd_n, bn2_s, l0, l1, l2, l3, l4, l7, l8, l9, l16, l80, l88, l200, l300, pk_mul, nI_add, nI_sb, mx1, mn1, ax_nI, nI_cl, nI_lt', nI_le', nI_eq', if_pos, if_neg, if_true, if_false]
    have i2 : fX4_in (nI f) (nI 0) (nI 299) = some (nI 1) := by rw [inM_eq (by omega) (by omega) (by omega), if_pos (by omega)]
    have i2 : fX4_in (nI f) 0 299 = some 1 := i2
    rcases pk_ix b (n := 301) (by omega) with h | h | ⟨t, ht, rfl⟩
    · right
      refine ⟨?_, ?_⟩
      · unfold fX3_isRange
        rw [i1]
        simp only [bnd_s]
        rw [if_neg (by decide), if_pos (gt_ge (neg_lt h (by omega)))]
      · unfold fX4_isRange
        rw [i2, l1, nI_add]
        simp only [bnd_s]
        rw [if_neg (by decide), inM_lo (neg_lt h (by omega))]; rfl
    · right
      have h0 : nI 300 < b := ge_gt (n := 300) h (by omega)
      refine ⟨?_, ?_⟩
      · unfold fX3_isRange
        rw [i1]
        simp only [bnd_s]
        rw [if_neg (by decide)]
        split
        · rfl
        · exact if_pos h0
      · unfold fX4_isRange
        rw [i2]
        simp only [bnd_s]
        rw [if_neg (by decide), show fX4_in b _ 300 = some 0 from inM_hi h0]; rfl
    · by_cases c : f < t
      · exact Or.inl ⟨f, t, c, by omega, rfl, rfl⟩
      · right
        refine ⟨?_, ?_⟩
        · unfold fX3_isRange
          rw [i1]
          simp only [bnd_s]
          rw [if_neg (by decide), if_pos ((nI_leI (by omega) (by omega)).mpr (by omega))]
        · unfold fX4_isRange
          rw [i2, l1, nI_add]
          simp only [bnd_s]
          rw [if_neg (by decide), inM_lo ((nI_ltI (by omega) (by omega)).mpr (by omega))]; rfl
theorem lck_c (a : Int32) : (∃ k, 1 ≤ k ∧ k ≤ 3 ∧ a = nI k) ∨ (fX3_isLock a = some 0 ∧ fX4_in a 1 3 = some 0) := by
  rcases pk_ix a (n := 4) (by omega) with h | h | ⟨k, hk, rfl⟩
  · have h' : a < 1 := neg_lt h (n := 1) (by omega)
    exact Or.inr ⟨by unfold fX3_isLock; rw [if_pos h'], inM_lo h'⟩
  · have h' : (3 : Int32) < a := ge_gt (n := 3) h (by omega)
    refine Or.inr ⟨?_, inM_hi h'⟩
    unfold fX3_isLock
    split
    · rfl
    · first | rfl | rw [if_pos h']
  · by_cases c : k = 0
    · subst c
      exact Or.inr ⟨rfl, inM_lo (by decide)⟩
    · exact Or.inl ⟨k, by omega, by omega, rfl⟩
theorem one_c (a : Int32) : (∃ w, w ≤ 1 ∧ a = nI w) ∨ ((a < 0 ∨ (¬ a < 0 ∧ ¬ a ≤ 1)) ∧ fX4_in a 0 1 = some 0) := by
  rcases pk_ix a (n := 2) (by omega) with h | h | ⟨k, hk, rfl⟩
  · exact Or.inr ⟨Or.inl h, inM_lo h⟩
  · have h' : (1 : Int32) < a := ge_gt (n := 1) h (by omega)
    exact Or.inr ⟨Or.inr ⟨fun q => lt_nle (neg_lt q (n := 2) (by omega)) h, lt_nle h'⟩, inM_hi h'⟩
  · exact Or.inl ⟨k, by omega, rfl⟩
/-- the class's change answers v and leads to A' -/
def sL (f : St → Option (Int32 × St)) (A : AS) (v : Int32) (A' : AS) : Prop := ∀ σ, RepL σ A → ∃ σ', f σ = some (v, σ') ∧ RepL σ' A'
/-- so does the reference's -/
def sM (kp : Bool) (f : St → Option (Int32 × St)) (A : AS) (v : Int32) (A' : AS) : Prop := ∀ (σ : St) (L : List AS), RepM (σ 0) A → HM σ L → ∃ σ', f σ = some (v, σ') ∧ RepM (σ' 0) A' ∧ frK σ σ' ∧ HM σ' (if v < 0 then L else kpL kp L A)
/-- how great its numbers of ticks are -/
def BD (N : Nat) (A : AS) : Prop := (∃ n, n ≤ N ∧ aG A 0 = nI n) ∧ ∀ r ∈ aR A, ∃ n, n ≤ N ∧ r.2.2.2.2 = nI n
def chg (N : Nat) (kp : Bool) (cl rf : St → Option (Int32 × St)) (A : AS) : Prop := ∃ v A', sL cl A v A' ∧ sM kp rf A v A' ∧ OK A' ∧ BD N A' ∧ (v < 0 → A' = A)
theorem BD.mono {N M : Nat} {A : AS} (h : BD N A) (hm : N ≤ M) : BD M A := by
  obtain ⟨⟨n, a, b⟩, c⟩ := h
  exact ⟨⟨n, by omega, b⟩, fun r hr => by obtain ⟨m, x, y⟩ := c r hr; exact ⟨m, by omega, y⟩⟩
theorem BD.sub {N : Nat} {A A' : AS} (h : BD N A) (hg : aG A' 0 = aG A 0) (hr : ∀ r ∈ aR A', r ∈ aR A) : BD N A' := ⟨by rw [hg]; exact h.1, fun r q => h.2 r (hr r q)⟩
theorem chg_no {N : Nat} {kp : Bool} {cl rf : St → Option (Int32 × St)} {A : AS} {v : Int32} (hw : OK A) (hb : BD N A) (hv : v < 0) (h1 : ∀ σ, RepL σ A → cl σ = some (v, σ)) (h2 : ∀ σ, RepM (σ 0) A → rf σ = some (v, σ)) : chg N kp cl rf A :=
  ⟨v, A, fun σ h => ⟨σ, h1 σ h, h⟩, fun σ L h hH => ⟨σ, h2 σ h, h, frK.rf, by rw [if_pos hv]; exact hH⟩, hw, hb, fun _ => rfl⟩
theorem goN_glb {A : AS} : ∀ n, aG (goN n A) = aG A
  | 0 => rfl
  | n + 1 => by
    rw [goN]
    split
    · rw [goN_glb (A := givA A _) n]; rfl
    · rfl
theorem goA_glb {A : AS} : aG (goA A) = aG A := goN_glb 8
theorem bk1_o {A : AS} (hw : WF A) (o : Nat) : WF (bk1 A o) ∧ Qt (bk1 A o) ∧ (∀ x ∈ aR (bk1 A o), x ∈ aR A) ∧ aG (bk1 A o) 0 = aG A 0 := by
  have h := goA_ok (hw.brk (b := lhI A (rgI A o)) (g := rgI A o))
  refine ⟨h.1, h.2.1, h.2.2, ?_⟩
  unfold bk1
  rw [goA_glb]
  rfl
theorem bkN_o (o : Nat) : ∀ (n : Nat) {A : AS}, WF A → WF (bkN n A o) ∧ (∀ x ∈ aR (bkN n A o), x ∈ aR A) ∧ aG (bkN n A o) 0 = aG A 0 ∧ (Qt A → Qt (bkN n A o)) ∧ (0 < n → rch A o o → Qt (bkN n A o))
  | 0, A, hw => ⟨hw, fun _ h => h, rfl, fun h => h, fun h => absurd h (by omega)⟩
  | n + 1, A, hw => by
    by_cases c : rch A o o
    · rw [bkN_s c]
      obtain ⟨a1, a2, a3, a4⟩ := bk1_o hw o
      obtain ⟨b1, b2, b3, b4, b5⟩ := bkN_o o n a1
      exact ⟨b1, fun x hx => a3 x (b2 x hx), b3.trans a4, fun _ => b4 a2, fun _ _ => b4 a2⟩
    · rw [bkN_e c]
      exact ⟨hw, fun _ h => h, rfl, fun h => h, fun _ h => absurd h c⟩
theorem join_Q {A : AS} (hq : Qt A) {o k f t : Nat} (hs : ¬ ∀ x, ¬ stp A o k f t (aR A).length x) : Qt (joinA A o k f t) := by
  intro i hi hf
  have hi : i < (aR A ++ [(o, k, f, t, (0 : Int32))]).length := hi
  rw [List.length_append] at hi
  have hi : i < (aR A).length + 1 := hi
  have tk : ∀ n, n ≤ (aR A).length → (aR (joinA A o k f t)).take n = (aR A).take n := fun n hn => List.take_append_of_le_length hn
  have st : ∀ n, n ≤ (aR A).length → ∀ o' k' f' t' x, stp A o' k' f' t' n x → stp (joinA A o k f t) o' k' f' t' n x := fun n hn o' k' f' t' x ⟨p, a, b, c, d1, d2, d3⟩ => by
    refine ⟨p, a, b, c, d1, d2, ?_⟩
    rw [tk n hn]
    exact d3
  by_cases c : i < (aR A).length
  · refine hq i c fun x ⟨r, hr, hs⟩ => hf x ⟨r, ?_, st i (by omega) _ _ _ _ x hs⟩
    show (aR A ++ [(o, k, f, t, (0 : Int32))])[i]? = _
    rw [List.getElem?_append_left c]
    exact hr
  · obtain rfl : i = (aR A).length := by omega
    refine hs fun x hx => hf x ⟨(o, k, f, t, 0), ?_, st _ (Nat.le_refl _) _ _ _ _ x hx⟩
    show (aR A ++ [(o, k, f, t, (0 : Int32))])[(aR A).length]? = _
    rw [List.getElem?_append_right (Nat.le_refl _), Nat.sub_self]
    rfl
section CA
variable {A : AS} {N : Nat} {kp : Bool}
theorem ask_b (hw : OK A) (hb : BD N A) (a b c d e : Int32) : chg N kp (fX1_ask a b c d e) (fX4_tryRequest a b c d e (kpI kp)) A := by
  rcases own_c a with ⟨o, ho, rfl⟩ | ⟨h1, h2⟩
  · rcases lck_c b with ⟨k, hk, hk3, rfl⟩ | ⟨h1, h2⟩
    · rcases rng_c c d with ⟨f, t, hf, ht, rfl, rfl⟩ | ⟨h1, h2⟩
      · rcases one_c e with ⟨w, hw1, rfl⟩ | ⟨h1, h2⟩
        · refine ⟨(askV A o k f t w).1, (askV A o k f t w).2, fun σ h => askL_eq h hw.1 ho hk hk3 hf ht hw1, fun σ L h hH => by
            obtain ⟨σ', h1, h2, h3, h4⟩ := askM_eq kp h hw hH ho hk hk3 hf ht hw1
            exact ⟨σ', h1, h2, h3, h4⟩, ?_⟩
          unfold askV
          by_cases c1 : inR A o
          · rw [if_pos c1]
            exact ⟨hw, hb, fun _ => rfl⟩
          · have hno : ∀ r ∈ aR A, r.1 ≠ o := fun r hr e => c1 ⟨r, hr, e⟩
            rw [if_neg c1]
            by_cases c2 : ∀ x, ¬ stp A o k f t (aR A).length x
            · rw [if_pos c2]
              have g := goA_ok (hw.1.giveK (o := o) (f := f) (t := t) hk3)
              exact ⟨⟨g.1, g.2.1⟩, hb.sub (by rw [goA_glb]; rfl) g.2.2, fun q => absurd (show (1 : Int32) < 0 from q) (by decide)⟩
            · rw [if_neg c2]
              by_cases c3 : w = 0
              · rw [if_pos c3]
                exact ⟨hw, hb, fun _ => rfl⟩
              · rw [if_neg c3]
                by_cases c4 : rch (joinA A o k f t) o o ∧ aG A 4 = 0
                · rw [if_pos c4]
                  exact ⟨hw, hb, fun _ => rfl⟩
                · rw [if_neg c4]
                  have wj : WF (joinA A o k f t) := hw.1.joinA ho hk hk3 hf ht hno
                  have qj : Qt (cntA (joinA A o k f t) o 1 1) := join_Q hw.2 c2
                  have bj : BD N (cntA (joinA A o k f t) o 1 1) := ⟨hb.1, fun r hr => by
                    have hr : r ∈ aR A ++ [(o, k, f, t, (0 : Int32))] := hr
                    rcases List.mem_append.mp hr with q | q
                    · exact hb.2 r q
                    · rw [List.mem_singleton] at q
                      subst q
                      exact ⟨0, by omega, rfl⟩⟩
                  obtain ⟨b1, b2, b3, b4, -⟩ := bkN_o o 4800 (A := cntA (joinA A o k f t) o 1 1) wj
                  refine ⟨⟨b1, b4 qj⟩, bj.sub b3 b2, fun q => ?_⟩
                  exfalso
                  revert q
                  show (@ite Int32 (inR (bkN 4800 (cntA (joinA A o k f t) o 1 1) o) o) (Classical.propDecidable _) 0 1) < 0 → False
                  split <;> exact fun q => absurd q (by decide)
        · refine chg_no (v := -2) hw hb (by decide) (fun σ h => ?_) fun σ h => ?_
          · unfold fX1_ask
            rcases h1 with q | ⟨q, q2⟩
            · simp (disch := omega) only [ownerL_eq ho, lockL_ok hk hk3, rangeL_ok hf ht, show (e < nI 0) = True from eq_true q, nm, bnd_s, bnd_n, bn2_s, l0, l1, l2, l3, l4, l7, l8, l9, l16, l80, l88, l200, l300, pk_mul, nI_add, nI_sb, mx1, mn1, ax_nI, nI_cl, nI_lt', nI_le', nI_eq', if_pos, if_neg, if_true, if_false]
            · simp (disch := omega) only [ownerL_eq ho, lockL_ok hk hk3, rangeL_ok hf ht, show (e < nI 0) = False from eq_false q, show (e ≤ nI 1) = False from eq_false q2, nm, bnd_s, bnd_n, bn2_s, l0, l1, l2, l3, l4, l7, l8, l9, l16, l80, l88, l200, l300, pk_mul, nI_add, nI_sb, mx1, mn1, ax_nI, nI_cl, nI_lt', nI_le', nI_eq', if_pos, if_neg, if_true, if_false]
          · unfold fX4_tryRequest
            have i1 : fX4_in (nI k) (nI 1) (nI 3) = some (nI 1) := by rw [inM_eq (by omega) (by omega) (by omega), if_pos (by omega)]
            simp (disch := omega) only [isOwnerM_ok ho, isRangeM_ok hf ht, i1, show fX4_in e (nI 0) (nI 1) = some (nI 0) from h2, nm, bnd_s, bnd_n, bn2_s, l0, l1, l2, l3, l4, l7, l8, l9, l16, l80, l88, l200, l300, pk_mul, nI_add, nI_sb, mx1, mn1, ax_nI, nI_cl, nI_lt', nI_le', nI_eq', if_pos, if_neg, if_true, if_false]
      · refine chg_no (v := -2) hw hb (by decide) (fun σ h => ?_) fun σ h => ?_
        · unfold fX1_ask
          rw [ownerL_eq ho, lockL_ok hk hk3, h1]; rfl
        · unfold fX4_tryRequest
          have i1 : fX4_in (nI k) (nI 1) (nI 3) = some (nI 1) := by rw [inM_eq (by omega) (by omega) (by omega), if_pos (by omega)]
          rw [isOwnerM_ok ho, show fX4_in (nI k) 1 3 = some (nI 1) from i1, h2]; rfl
    · refine chg_no (v := -2) hw hb (by decide) (fun σ h => ?_) fun σ h => ?_
      · unfold fX1_ask
        rw [ownerL_eq ho, h1]; rfl
      · unfold fX4_tryRequest
        rw [isOwnerM_ok ho, h2]; rfl
  · refine chg_no (v := -1) hw hb (by decide) (fun σ h => ?_) fun σ h => ?_
    · unfold fX1_ask
      rw [h1]; rfl
    · unfold fX4_tryRequest
      rw [h2]; rfl
theorem free_b (hw : OK A) (hb : BD N A) (a b c : Int32) : chg N kp (fX1_release a b c) (fX4_tryFree a b c (kpI kp)) A := by
  rcases own_c a with ⟨o, ho, rfl⟩ | ⟨h1, h2⟩
  · rcases rng_c b c with ⟨f, t, hf, ht, rfl, rfl⟩ | ⟨h1, h2⟩
    · have hn : ¬ nI (nfr A o f t) < 0 := nI_pos (by have := cnt_le (fun p => f ≤ p ∧ aK A o p ≠ 0) t; unfold nfr; omega)
      have ws : WF (setK A o f t 0) := hw.1.setK (by omega)
      refine ⟨nI (nfr A o f t), goA (setK A o f t 0), fun σ h => ?_, fun σ L h hH => ?_, ⟨(goA_ok ws).1, (goA_ok ws).2.1⟩, hb.sub (by rw [goA_glb]; rfl) (goA_ok ws).2.2, fun q => absurd q hn⟩
      · obtain ⟨s1, e1, r1⟩ := freeRange_eq h hw.1 ho (f := f) (t := t) (by omega) ht
        obtain ⟨z, s2, e2, r2, -⟩ := goL_eq r1 ws
        refine ⟨s2, ?_, r2⟩
        unfold fX1_release
        simp (disch := omega) only [ownerL_eq ho, rangeL_ok hf ht, e1, e2, nm, bnd_s, bnd_n, bn2_s, l0, l1, l2, l3, l4, l7, l8, l9, l16, l80, l88, l200, l300, pk_mul, nI_add, nI_sb, mx1, mn1, ax_nI, nI_cl, nI_lt', nI_le', nI_eq', if_pos, if_neg, if_true, if_false]
      · obtain ⟨s1, e1, q1, f1, h1⟩ := keepIf_eq kp hH h hw
        have r1 : RepM (s1 0) A := by rw [q1]; exact h
        obtain ⟨s2, e2, f2, r2⟩ := freedM_eq r1 hw.1 ho (f := f) (t := t) (by omega) ht
        obtain ⟨s3, e3, f3, r3⟩ := goM_eq r2 ws
        refine ⟨s3, ?_, r3, f1.tr (f2.tr f3).K, by rw [if_neg hn]; exact h1.frM (f2.tr f3)⟩
        unfold fX4_tryFree
        simp (disch := omega) only [isOwnerM_ok ho, isRangeM_ok hf ht, e1, e2, e3, nm, bnd_s, bnd_n, bn2_s, l0, l1, l2, l3, l4, l7, l8, l9, l16, l80, l88, l200, l300, pk_mul, nI_add, nI_sb, mx1, mn1, ax_nI, nI_cl, nI_lt', nI_le', nI_eq', if_pos, if_neg, if_true, if_false]
    · refine chg_no (v := -2) hw hb (by decide) (fun σ h => ?_) fun σ h => ?_
      · unfold fX1_release
        rw [ownerL_eq ho, h1]; rfl
      · unfold fX4_tryFree
        rw [isOwnerM_ok ho, h2]; rfl
  · refine chg_no (v := -1) hw hb (by decide) (fun σ h => ?_) fun σ h => ?_
    · unfold fX1_release
      rw [h1]; rfl
    · unfold fX4_tryFree
      rw [h2]; rfl
theorem cancel_b (hw : OK A) (hb : BD N A) (hN : N < 2147483648) (a : Int32) : chg N kp (fX1_withdraw a) (fX4_tryCancel a (kpI kp)) A := by
  rcases own_c a with ⟨o, ho, rfl⟩ | ⟨h1, h2⟩
  · rcases row_cases A o with ⟨i, r, hr, rfl, -⟩ | hno
    · obtain ⟨n, hn, en⟩ := hb.2 r (List.mem_of_getElem? hr)
      have hnn : ¬ r.2.2.2.2 < 0 := by rw [en]; exact nI_pos (by omega)
      have wq : WF (quitA A r.1) := hw.1.quitA
      have hk := hw.1.2.2.1 r (List.mem_of_getElem? hr)
      refine ⟨r.2.2.2.2, goA (quitA A r.1), fun σ h => ?_, fun σ L h hH => ?_, ⟨(goA_ok wq).1, (goA_ok wq).2.1⟩, hb.sub (by rw [goA_glb]; rfl) (fun x hx => (List.mem_filter.mp ((goA_ok wq).2.2 x hx)).1), fun q => absurd q hnn⟩
      · obtain ⟨s1, e1, r1, -⟩ := quitL_eq h hw.1 ho
        obtain ⟨z, s2, e2, r2, -⟩ := goL_eq r1 wq
        have w5 := (h.2.1 i r hr).2.1
        have w8 := (h.2.1 i r hr).2.2.2.2
        refine ⟨s2, ?_, r2⟩
        unfold fX1_withdraw
        simp (disch := omega) only [ownerL_eq ho, w5, e1, e2, w8, ax_nI, nm, bnd_s, bnd_n, bn2_s, l0, l1, l2, l3, l4, l7, l8, l9, l16, l80, l88, l200, l300, pk_mul, nI_add, nI_sb, mx1, mn1, ax_nI, nI_cl, nI_lt', nI_le', nI_eq', if_pos, if_neg, if_true, if_false]
      · obtain ⟨s1, e1, q1, f1, h1⟩ := keepIf_eq kp hH h hw
        have r1 : RepM (s1 0) A := by rw [q1]; exact h
        obtain ⟨s2, e2, f2, r2⟩ := leaveM_eq r1 hw.1 hr
        obtain ⟨s3, e3, f3, r3⟩ := goM_eq r2 wq
        have o0 : fX4_of (nI r.1) (nI 0) σ = some (nI r.2.1) := by rw [show fX4_of (nI r.1) (nI 0) σ = some (σ 0 (16 + 9 * r.1)) from ofM_eq (w := 0) ho (by omega), (h.2.1 i r hr).2.1]
        have o3 : fX4_of (nI r.1) (nI 3) s1 = some r.2.2.2.2 := by rw [show fX4_of (nI r.1) (nI 3) s1 = some (s1 0 (16 + 9 * r.1 + 3)) from ofM_eq (w := 3) ho (by omega), (r1.2.1 i r hr).2.2.2.2]
        refine ⟨s3, ?_, r3, f1.tr (f2.tr f3).K, by rw [if_neg hnn]; exact h1.frM (f2.tr f3)⟩
        unfold fX4_tryCancel
        simp (disch := omega) only [isOwnerM_ok ho, o0, e1, o3, e2, e3, nm, bnd_s, bnd_n, bn2_s, l0, l1, l2, l3, l4, l7, l8, l9, l16, l80, l88, l200, l300, pk_mul, nI_add, nI_sb, mx1, mn1, ax_nI, nI_cl, nI_lt', nI_le', nI_eq', if_pos, if_neg, if_true, if_false]
    · refine chg_no (v := -5) hw hb (by decide) (fun σ h => ?_) fun σ h => ?_
      · unfold fX1_withdraw
        simp (disch := omega) only [ownerL_eq ho, show σ 5 o = nI 0 from h.2.2.1 o ho hno, nm, bnd_s, bnd_n, bn2_s, l0, l1, l2, l3, l4, l7, l8, l9, l16, l80, l88, l200, l300, pk_mul, nI_add, nI_sb, mx1, mn1, ax_nI, nI_cl, nI_lt', nI_le', nI_eq', if_pos, if_neg, if_true, if_false]
      · have o0 : fX4_of (nI o) (nI 0) σ = some (nI 0) := by rw [show fX4_of (nI o) (nI 0) σ = some (σ 0 (16 + 9 * o)) from ofM_eq (w := 0) ho (by omega), h.2.2.1 o ho hno]; rfl
        unfold fX4_tryCancel
        simp (disch := omega) only [isOwnerM_ok ho, o0, nm, bnd_s, bnd_n, bn2_s, l0, l1, l2, l3, l4, l7, l8, l9, l16, l80, l88, l200, l300, pk_mul, nI_add, nI_sb, mx1, mn1, ax_nI, nI_cl, nI_lt', nI_le', nI_eq', if_pos, if_neg, if_true, if_false]
  · refine chg_no (v := -1) hw hb (by decide) (fun σ h => ?_) fun σ h => ?_
    · unfold fX1_withdraw
      rw [h1]; rfl
    · unfold fX4_tryCancel
      rw [h2]; rfl
/-- an owner's locks and its request go -/
noncomputable def stripA (A : AS) (o : Nat) : AS := setK (quitA A o) o 0 300 0
theorem stripL_eq {σ : St} (h : RepL σ A) (hw : WF A) {o : Nat} (ho : o < 8) : ∃ σ', fX1_strip (nI o) σ = some (nI (nfr A o 0 300), σ') ∧ RepL σ' (stripA A o) := by
  obtain ⟨s1, e1, r1, -⟩ := quitL_eq h hw ho
  obtain ⟨s2, e2, r2⟩ := freeRange_eq r1 hw.quitA ho (f := 0) (t := 300) (by omega) (by omega)
  refine ⟨s2, ?_, r2⟩
  unfold fX1_strip
  simp (disch := omega) only [e1, e2, nm, bnd_s, bnd_n, bn2_s, l0, l1, l2, l3, l4, l7, l8, l9, l16, l80, l88, l200, l300, pk_mul, nI_add, nI_sb, mx1, mn1, ax_nI, nI_cl, nI_lt', nI_le', nI_eq', if_pos, if_neg, if_true, if_false]
  rfl
theorem awayM_eq {σ : St} (h : RepM (σ 0) A) (hw : WF A) {o : Nat} (ho : o < 8) : ∃ σ', fX4_goAway (nI o) σ = some (nI (nfr A o 0 300), σ') ∧ frM σ σ' ∧ RepM (σ' 0) (goA (stripA A o)) := by
  have ws : WF (stripA A o) := hw.quitA.setK (by omega)
  rcases row_cases A o with ⟨i, r, hr, rfl, -⟩ | hno
  · have hk := hw.2.2.1 r (List.mem_of_getElem? hr)
    obtain ⟨s1, e1, f1, r1⟩ := leaveM_eq h hw hr
    obtain ⟨s2, e2, f2, r2⟩ := freedM_eq r1 hw.quitA ho (f := 0) (t := 300) (by omega) (by omega)
    obtain ⟨s3, e3, f3, r3⟩ := goM_eq r2 ws
    have o0 : fX4_of (nI r.1) (nI 0) σ = some (nI r.2.1) := by rw [show fX4_of (nI r.1) (nI 0) σ = some (σ 0 (16 + 9 * r.1)) from ofM_eq (w := 0) ho (by omega), (h.2.1 i r hr).2.1]
    refine ⟨s3, ?_, f1.tr (f2.tr f3), r3⟩
    unfold fX4_goAway
    simp (disch := omega) only [o0, e1, e2, e3, nm, bnd_s, bnd_n, bn2_s, l0, l1, l2, l3, l4, l7, l8, l9, l16, l80, l88, l200, l300, pk_mul, nI_add, nI_sb, mx1, mn1, ax_nI, nI_cl, nI_lt', nI_le', nI_eq', if_pos, if_neg, if_true, if_false]
    rfl
  · have o0 : fX4_of (nI o) (nI 0) σ = some (nI 0) := by rw [show fX4_of (nI o) (nI 0) σ = some (σ 0 (16 + 9 * o)) from ofM_eq (w := 0) ho (by omega), h.2.2.1 o ho hno]; rfl
    have qn : quitA A o = A := quit_no hno
    obtain ⟨s2, e2, f2, r2⟩ := freedM_eq h hw ho (f := 0) (t := 300) (by omega) (by omega)
    rw [← qn] at r2
    obtain ⟨s3, e3, f3, r3⟩ := goM_eq r2 ws
    refine ⟨s3, ?_, f2.tr f3, r3⟩
    unfold fX4_goAway
    simp (disch := omega) only [o0, e2, e3, nm, bnd_s, bnd_n, bn2_s, l0, l1, l2, l3, l4, l7, l8, l9, l16, l80, l88, l200, l300, pk_mul, nI_add, nI_sb, mx1, mn1, ax_nI, nI_cl, nI_lt', nI_le', nI_eq', if_pos, if_neg, if_true, if_false]
theorem leave_b (hw : OK A) (hb : BD N A) (a : Int32) : chg N kp (fX1_depart a) (fX4_tryLeave a (kpI kp)) A := by
  rcases own_c a with ⟨o, ho, rfl⟩ | ⟨h1, h2⟩
  · have hn : ¬ nI (nfr A o 0 300) < 0 := nI_pos (by have := cnt_le (fun p => 0 ≤ p ∧ aK A o p ≠ 0) 300; unfold nfr; omega)
    have ws : WF (stripA A o) := hw.1.quitA.setK (by omega)
    refine ⟨nI (nfr A o 0 300), goA (stripA A o), fun σ h => ?_, fun σ L h hH => ?_, ⟨(goA_ok ws).1, (goA_ok ws).2.1⟩, hb.sub (by rw [goA_glb]; rfl) (fun x hx => (List.mem_filter.mp ((goA_ok ws).2.2 x hx)).1), fun q => absurd q hn⟩
    · obtain ⟨s1, e1, r1⟩ := stripL_eq h hw.1 ho
      obtain ⟨z, s2, e2, r2, -⟩ := goL_eq r1 ws
      refine ⟨s2, ?_, r2⟩
      unfold fX1_depart
      simp (disch := omega) only [ownerL_eq ho, e1, e2, nm, bnd_s, bnd_n, bn2_s, l0, l1, l2, l3, l4, l7, l8, l9, l16, l80, l88, l200, l300, pk_mul, nI_add, nI_sb, mx1, mn1, ax_nI, nI_cl, nI_lt', nI_le', nI_eq', if_pos, if_neg, if_true, if_false]
    · obtain ⟨s1, e1, q1, f1, h1⟩ := keepIf_eq kp hH h hw
      have r1 : RepM (s1 0) A := by rw [q1]; exact h
      obtain ⟨s2, e2, f2, r2⟩ := awayM_eq r1 hw.1 ho
      refine ⟨s2, ?_, r2, f1.tr f2.K, by rw [if_neg hn]; exact h1.frM f2⟩
      unfold fX4_tryLeave
      simp (disch := omega) only [isOwnerM_ok ho, e1, e2, nm, bnd_s, bnd_n, bn2_s, l0, l1, l2, l3, l4, l7, l8, l9, l16, l80, l88, l200, l300, pk_mul, nI_add, nI_sb, mx1, mn1, ax_nI, nI_cl, nI_lt', nI_le', nI_eq', if_pos, if_neg, if_true, if_false]
  · refine chg_no (v := -1) hw hb (by decide) (fun σ h => ?_) fun σ h => ?_
    · unfold fX1_depart
      rw [h1]; rfl
    · unfold fX4_tryLeave
      rw [h2]; rfl
end CA
