/-! The reference: its history and its slots -/
theorem l6 : (6 : Int32) = nI 6 := rfl
theorem l2488 : (2488 : Int32) = nI 2488 := rfl
theorem nI_rm {a d : Nat} (ha : a < 2147483648) (h0 : 0 < d) (hd : d < 2147483648) : nI a - nI a / nI d * nI d = nI (a % d) := pk_rem ha h0 hd
theorem RepM.congr {a a' : Nat → Int32} {A : AS} (h : RepM a A) (hw : WF A) (e : ∀ i, i < 2488 → a' i = a i) : RepM a' A := h.kinds hw (fun i hi => e i (by omega)) (fun x p hx hp => by rw [e _ (by omega)]; exact h.2.2.2.2 x p hx hp) rfl rfl rfl
abbrev OK (A : AS) : Prop := WF A ∧ Qt A
/-- the history: the elder states first -/
def HM (σ : St) (L : List AS) : Prop := L.length ≤ 6 ∧ σ 3 0 = nI L.length ∧ ∃ fi, fi < 6 ∧ σ 2 0 = nI fi ∧ ∀ i A, L[i]? = some A → OK A ∧ RepM (fun k => σ 1 (2488 * ((fi + i) % 6) + k)) A
def pushL (L : List AS) (A : AS) : List AS := if L.length = 6 then L.tail ++ [A] else L ++ [A]
theorem HM.fr {σ σ' : St} {L : List AS} (h : HM σ L) (h1 : σ' 1 = σ 1) (h2 : σ' 2 = σ 2) (h3 : σ' 3 = σ 3) : HM σ' L := by
  unfold HM
  rw [h1, h2, h3]
  exact h
section MH
variable {σ : St} {A : AS} {L : List AS}
theorem keepLoop (s : St) {v : Nat} (hv : v < 6) : ∃ s', lp (fun t : (Int32 × St) => bX4_keep_47 (nI v) t.1 t.2) FU (nI 0, s) = some (nI 2488, s') ∧ (∀ c, c ≠ 1 → s' c = s c) ∧ ∀ m, s' 1 m = if 2488 * v ≤ m ∧ m < 2488 * v + 2488 then s 0 (m - 2488 * v) else s 1 m := by
  obtain ⟨e, he, s', rfl, a, b⟩ := lp_rng (b := fun t : (Int32 × St) => bX4_keep_47 (nI v) t.1 t.2)
    (fun j x => ∃ s', x = (nI j, s') ∧ (∀ c, c ≠ 1 → s' c = s c) ∧ ∀ m, s' 1 m = if 2488 * v ≤ m ∧ m < 2488 * v + j then s 0 (m - 2488 * v) else s 1 m)
    (fun e => ∃ s', e = (nI 2488, s') ∧ (∀ c, c ≠ 1 → s' c = s c) ∧ ∀ m, s' 1 m = if 2488 * v ≤ m ∧ m < 2488 * v + 2488 then s 0 (m - 2488 * v) else s 1 m) 0 2488
    (fun j x _ hj hx => by
      obtain ⟨s', rfl, a, b⟩ := hx
      show ∃ s'', bX4_keep_47 (nI v) (nI j) s' = some (.inl s'') ∧ _
      unfold bX4_keep_47
      simp (disch := omega) only [l2488, nm, bnd_s, bnd_n, bn2_s, l0, l1, l2, l3, l4, l7, l8, l9, l16, l80, l88, l200, l300, pk_mul, nI_add, nI_sb, mx1, mn1, ax_nI, nI_cl, nI_lt', nI_le', nI_eq', if_pos, if_neg, if_true, if_false]
      refine ⟨_, rfl, _, rfl, fun c hc => by rw [put_n _ _ hc]; exact a c hc, fun m => ?_⟩
      rw [put_s, a 0 (by omega)]
      by_cases e : m = 2488 * v + j
      · subst e
        rw [upd_s, if_pos (by omega)]
        congr 1
        omega
      · rw [upd_n _ _ e, b]
        by_cases c : 2488 * v ≤ m ∧ m < 2488 * v + j
        · rw [if_pos c, if_pos (by omega)]
        · rw [if_neg c, if_neg (by omega)])
    (fun x hx => by
      obtain ⟨s', rfl, a, b⟩ := hx
      show ∃ e, bX4_keep_47 (nI v) (nI 2488) s' = some (.inr e) ∧ _
      unfold bX4_keep_47
      simp (disch := omega) only [l2488, nm, bnd_s, bnd_n, bn2_s, l0, l1, l2, l3, l4, l7, l8, l9, l16, l80, l88, l200, l300, pk_mul, nI_add, nI_sb, mx1, mn1, ax_nI, nI_cl, nI_lt', nI_le', nI_eq', if_pos, if_neg, if_true, if_false]
      exact ⟨_, rfl, s', rfl, a, b⟩) (nI 0, s) (by omega) ⟨s, rfl, fun _ _ => rfl, fun m => by rw [if_neg (by omega)]⟩ (by omega)
  exact ⟨s', he, a, b⟩
theorem keepM_eq (hH : HM σ L) (h : RepM (σ 0) A) (hw : OK A) : ∃ σ', fX4_keep σ = some σ' ∧ (∀ c, c ≠ 1 → c ≠ 2 → c ≠ 3 → σ' c = σ c) ∧ HM σ' (pushL L A) := by
  obtain ⟨h1, h2, fi, h3, h4, h5⟩ := hH
  by_cases c : L.length = 6
  · -- full
    obtain ⟨s9, hs9⟩ : ∃ s9, s9 = put σ 2 (fun _ => nI ((fi + 1) % 6)) := ⟨_, rfl⟩
    obtain ⟨s10, hs10⟩ : ∃ s10, s10 = put s9 3 (fun _ => nI 5) := ⟨_, rfl⟩
    have hv : ((fi + 1) % 6 + 5) % 6 < 6 := Nat.mod_lt _ (by omega)
    have hvf : ((fi + 1) % 6 + 5) % 6 = fi := by omega
    obtain ⟨s17, e17, a17, b17⟩ := keepLoop s10 hv
    have e17' : lp (fun t : (Int32 × St) => bX4_keep_47_2 (nI (((fi + 1) % 6 + 5) % 6)) t.1 t.2) FU (nI 0, s10) = some (nI 2488, s17) := e17
    have g9 : s9 3 0 = nI 6 := by rw [hs9, put_n _ _ (by omega), h2, c]
    have g2 : s10 2 0 = nI ((fi + 1) % 6) := by rw [hs10, put_n _ _ (by omega), hs9, put_s]
    have g3 : s10 3 0 = nI 5 := by rw [hs10, put_s]
    have g17 : s17 3 0 = nI 5 := by rw [a17 3 (by omega), g3]
    refine ⟨put s17 3 (fun _ => nI 6), ?_, fun x x1 x2 x3 => ?_, ?_⟩
    · unfold fX4_keep
      have h2' : σ 3 0 = nI 6 := by rw [h2, c]
      have m1 : nI 6 - nI 1 = nI 5 := by decide
      have hr : nI (fi + 1) - nI (fi + 1) / nI 6 * nI 6 = nI ((fi + 1) % 6) := nI_rm (by omega) (by omega) (by omega)
      have hr2 : nI ((fi + 1) % 6 + 5) - nI ((fi + 1) % 6 + 5) / nI 6 * nI 6 = nI (((fi + 1) % 6 + 5) % 6) := nI_rm (by omega) (by omega) (by omega)
      simp (disch := omega) only [h2', l6, if_true, nm, h4, l1, nI_add, hr]
      rw [← hs9]
      simp (disch := omega) only [g9, m1]
      rw [← hs10]
      simp (disch := omega) only [g2, g3, nI_add, hr2, l0]
      rw [e17']
      simp (disch := omega) only [bnd_s, g17, nI_add]
    · rw [put_n _ _ x3, a17 x x1, hs10, put_n _ _ x3, hs9, put_n _ _ x2]
    · have hlen : (pushL L A).length = 6 := by
        unfold pushL
        rw [if_pos c, List.length_append, List.length_tail, c]; rfl
      refine ⟨by omega, by rw [put_s, hlen], (fi + 1) % 6, Nat.mod_lt _ (by omega), by rw [put_n _ _ (by omega), a17 2 (by omega), g2], fun i B hB => ?_⟩
      unfold pushL at hB
      rw [if_pos c] at hB
      have s10_0 : s10 0 = σ 0 := by rw [hs10, put_n _ _ (by omega), hs9, put_n _ _ (by omega)]
      have s10_1 : s10 1 = σ 1 := by rw [hs10, put_n _ _ (by omega), hs9, put_n _ _ (by omega)]
      by_cases ci : i < L.tail.length
      · rw [List.getElem?_append_left ci, List.getElem?_tail] at hB
        rw [List.length_tail, c] at ci
        obtain ⟨q1, q2⟩ := h5 (i + 1) B hB
        refine ⟨q1, q2.congr q1.1 fun k hk => ?_⟩
        show put s17 3 (fun _ => nI 6) 1 _ = _
        rw [put_n _ _ (by omega), b17, hvf, if_neg (by omega), s10_1]
        congr 2
        omega
      · rw [List.getElem?_append_right (by omega)] at hB
        have h0 : i - L.tail.length < 1 := (List.getElem?_eq_some_iff.mp hB).1
        rw [List.length_tail, c] at ci h0
        obtain rfl : i = 5 := by omega
        rw [List.length_tail, c] at hB
        cases hB
        refine ⟨hw, h.congr hw.1 fun k hk => ?_⟩
        show put s17 3 (fun _ => nI 6) 1 _ = _
        rw [put_n _ _ (by omega), b17, if_pos (by omega), s10_0]
        congr 1
        omega
  · have c6 : L.length < 6 := by omega
    have hv : (fi + L.length) % 6 < 6 := Nat.mod_lt _ (by omega)
    obtain ⟨s7, e7, a7, b7⟩ := keepLoop σ hv
    have g7 : s7 3 0 = nI L.length := by rw [a7 3 (by omega), h2]
    refine ⟨put s7 3 (fun _ => nI (L.length + 1)), ?_, fun x x1 x2 x3 => by rw [put_n _ _ x3, a7 x x1], ?_⟩
    · unfold fX4_keep
      have hr : nI (fi + L.length) - nI (fi + L.length) / nI 6 * nI 6 = nI ((fi + L.length) % 6) := nI_rm (by omega) (by omega) (by omega)
      simp (disch := omega) only [h2, l6, nI_eq', if_neg, nm, h4, nI_add, hr, l0]
      rw [e7]
      simp (disch := omega) only [bnd_s, g7, l1, nI_add]
    · have hlen : (pushL L A).length = L.length + 1 := by
        unfold pushL
        rw [if_neg c, List.length_append]; rfl
      refine ⟨by omega, by rw [put_s, hlen], fi, h3, by rw [put_n _ _ (by omega), a7 2 (by omega), h4], fun i B hB => ?_⟩
      unfold pushL at hB
      rw [if_neg c] at hB
      by_cases ci : i < L.length
      · rw [List.getElem?_append_left ci] at hB
        obtain ⟨q1, q2⟩ := h5 i B hB
        refine ⟨q1, q2.congr q1.1 fun k hk => ?_⟩
        show put s7 3 (fun _ => nI (L.length + 1)) 1 _ = _
        rw [put_n _ _ (by omega), b7, if_neg (by omega)]
      · rw [List.getElem?_append_right (by omega)] at hB
        have h0 : i - L.length < 1 := (List.getElem?_eq_some_iff.mp hB).1
        obtain rfl : i = L.length := by omega
        rw [Nat.sub_self] at hB
        cases hB
        refine ⟨hw, h.congr hw.1 fun k hk => ?_⟩
        show put s7 3 (fun _ => nI (L.length + 1)) 1 _ = _
        rw [put_n _ _ (by omega), b7, if_pos (by omega)]
        congr 1
        omega
/-- all that a change of the reference may touch -/
def frK (σ σ' : St) : Prop := ∀ c, c ≠ 0 → c ≠ 1 → c ≠ 2 → c ≠ 3 → c ≠ 9 → c ≠ 10 → σ' c = σ c
theorem frK.rf : frK σ σ := fun _ _ _ _ _ _ _ => rfl
theorem frK.tr {σ σ' σ'' : St} (h : frK σ σ') (h' : frK σ' σ'') : frK σ σ'' := fun c a b d e f g => (h' c a b d e f g).trans (h c a b d e f g)
theorem frM.K {σ σ' : St} (h : frM σ σ') : frK σ σ' := fun c a _ _ _ f g => h c a f g
theorem HM.frM {σ σ' : St} {L : List AS} (h : HM σ L) (f : frM σ σ') : HM σ' L := h.fr (f 1 (by omega) (by omega) (by omega)) (f 2 (by omega) (by omega) (by omega)) (f 3 (by omega) (by omega) (by omega))
/-- the state is kept, if it is to be -/
def kpL (kp : Bool) (L : List AS) (A : AS) : List AS := if kp = true then pushL L A else L
def kpI (kp : Bool) : Int32 := if kp = true then 1 else 0
theorem keepIf_eq (kp : Bool) (hH : HM σ L) (h : RepM (σ 0) A) (hw : OK A) : ∃ σ', fX4_keepIf (kpI kp) σ = some σ' ∧ σ' 0 = σ 0 ∧ frK σ σ' ∧ HM σ' (kpL kp L A) := by
  cases kp with
  | false => exact ⟨σ, rfl, rfl, frK.rf, hH⟩
  | true =>
    obtain ⟨σ', e, f, g⟩ := keepM_eq hH h hw
    refine ⟨σ', ?_, f 0 (by omega) (by omega) (by omega), fun c _ a b d _ _ => f c a b d, g⟩
    unfold fX4_keepIf kpI
    rw [if_neg (by decide), e]
    rfl
end MH
