/-! What the class and the reference hold together, call by call -/
def HL (M : Mk) (sp : Nat) (L : List AS) : Prop := ∀ i B, L[i]? = some B → ∃ h ad σ, M ((sp + 7 - L.length + i) % 7) = some (h, ad, σ) ∧ RepL σ B
def SL (M : Mk) (S : Nat → Option AS) : Prop := ∀ i, i < 2 → (S i = none → M (7 + i) = none) ∧ ∀ B, S i = some B → ∃ h ad σ, M (7 + i) = some (h, ad, σ) ∧ RepL σ B
/-- both hold the same; no number of ticks passes N -/
def INV (N : Nat) (σN σP κ : St) (M : Mk) (τ : St) : Prop := ∃ (A : AS) (L : List AS) (S : Nat → Option AS) (T : List Nat) (sp : Nat), RepL σN A ∧ RepM (τ 0) A ∧ OK A ∧ BD N A ∧ HM τ L ∧ SM τ S ∧ RepPL σP T ∧ RepPM τ T ∧ TW T ∧ (sp < 7 ∧ κ 1 0 = nI sp ∧ κ 2 0 = nI L.length) ∧ HL M sp L ∧ SL M S ∧ (∀ B ∈ L, BD N B) ∧ ∀ i B, i < 2 → S i = some B → BD N B
theorem HL.stay {M : Mk} {sp : Nat} {L : List AS} (h : HL M sp L) (hl : L.length ≤ 6) (hsp : sp < 7) (x : Lk) : HL (upM M sp x) sp L := fun i B hi => by
  have hil := (List.getElem?_eq_some_iff.mp hi).1
  obtain ⟨a, b, c, e, r⟩ := h i B hi
  exact ⟨a, b, c, by rw [upM_n _ _ (by omega)]; exact e, r⟩
theorem HL.slot {M : Mk} {sp k : Nat} {L : List AS} (h : HL M sp L) (hk : 7 ≤ k) (x : Lk) : HL (upM M k x) sp L := fun i B hi => by
  obtain ⟨a, b, c, e, r⟩ := h i B hi
  exact ⟨a, b, c, by rw [upM_n _ _ (by have := Nat.mod_lt (sp + 7 - L.length + i) (show 7 > 0 by omega); omega)]; exact e, r⟩
theorem SL.up {M : Mk} {sp : Nat} {S : Nat → Option AS} (h : SL M S) (hsp : sp < 7) (x : Lk) : SL (upM M sp x) S := fun i hi => by
  rw [upM_n _ _ (show 7 + i ≠ sp by omega)]
  exact h i hi
theorem pushL_len {L : List AS} {A : AS} (hl : L.length ≤ 6) : (pushL L A).length = min (L.length + 1) 6 := by
  unfold pushL
  split
  · rw [List.length_append, List.length_tail, List.length_singleton]; omega
  · rw [List.length_append, List.length_singleton]; omega
theorem pushL_mem {L : List AS} {A B : AS} (h : B ∈ pushL L A) : B ∈ L ∨ B = A := by
  unfold pushL at h
  split at h
  · rcases List.mem_append.mp h with h | h
    · exact Or.inl (List.mem_of_mem_tail h)
    · exact Or.inr (List.mem_singleton.mp h)
  · rcases List.mem_append.mp h with h | h
    · exact Or.inl h
    · exact Or.inr (List.mem_singleton.mp h)
theorem HL.push {M : Mk} {sp : Nat} {L : List AS} {A : AS} {h : Nat} {ad : Nat → Nat} {σ' : St} (hh : HL M sp L) (hl : L.length ≤ 6) (hsp : sp < 7) (r : RepL σ' A) : HL (upM M sp (h, ad, σ')) ((sp + 1) % 7) (pushL L A) := fun i B hi => by
  have hlen := pushL_len (A := A) hl
  have hil := (List.getElem?_eq_some_iff.mp hi).1
  rw [hlen] at hil ⊢
  unfold pushL at hi
  by_cases c : L.length = 6
  · rw [if_pos c] at hi
    by_cases ci : i < 5
    · rw [List.getElem?_append_left (by rw [List.length_tail]; omega), List.getElem?_tail] at hi
      obtain ⟨a, b, s, e, q⟩ := hh (i + 1) B hi
      refine ⟨a, b, s, ?_, q⟩
      rw [upM_n _ _ (by omega), ← e]
      congr 1
      omega
    · rw [List.getElem?_append_right (by rw [List.length_tail]; omega), List.length_tail, show i - (L.length - 1) = 0 by omega] at hi
      cases hi
      refine ⟨h, ad, σ', ?_, r⟩
      rw [show ((sp + 1) % 7 + 7 - min (L.length + 1) 6 + i) % 7 = sp by omega, upM_s]
  · rw [if_neg c] at hi
    by_cases ci : i < L.length
    · rw [List.getElem?_append_left ci] at hi
      obtain ⟨a, b, s, e, q⟩ := hh i B hi
      refine ⟨a, b, s, ?_, q⟩
      rw [upM_n _ _ (by omega), ← e]
      congr 1
      omega
    · rw [List.getElem?_append_right (by omega), show i - L.length = 0 by omega] at hi
      cases hi
      refine ⟨h, ad, σ', ?_, r⟩
      rw [show ((sp + 1) % 7 + 7 - min (L.length + 1) 6 + i) % 7 = sp by omega, upM_s]
theorem settle_eq {κ : St} {sp k : Nat} (h1 : κ 1 0 = nI sp) (h2 : κ 2 0 = nI k) (hsp : sp < 7) (hk : k ≤ 6) (v : Int32) : ∃ κ', fX0_settle v κ = some (v, κ') ∧ (v < 0 → κ' = κ) ∧ (¬ v < 0 → κ' 1 0 = nI ((sp + 1) % 7) ∧ κ' 2 0 = nI (min (k + 1) 6)) := by
  unfold fX0_settle
  by_cases c : v < 0
  · rw [if_pos c]
    exact ⟨κ, rfl, fun _ => rfl, fun q => absurd c q⟩
  · rw [if_neg c]
    simp only [nm]
    refine ⟨_, rfl, fun q => absurd q c, fun _ => ⟨?_, ?_⟩⟩
    · rw [put_n _ _ (by omega), put_s, h1, l1, nI_add, l7, nI_rm (by omega) (by omega) (by omega)]
    · rw [put_s, put_n _ _ (by omega), h2, l1, nI_add, l6]
      by_cases q : 6 < k + 1
      · rw [if_pos ((nI_ltI (by omega) (by omega)).mpr q), show min (k + 1) 6 = 6 by omega]
      · rw [if_neg (fun w => q ((nI_ltI (by omega) (by omega)).mp w)), show min (k + 1) 6 = k + 1 by omega]
section IV
variable {N : Nat} {σN σP κ : St} {M : Mk} {τ : St}
theorem INV.mono {N' : Nat} (h : INV N σN σP κ M τ) (hN : N ≤ N') : INV N' σN σP κ M τ := by
  obtain ⟨A, L, S, T, sp, a1, a2, a3, a4, a5, a6, a7, a8, a9, b1, b2, b3, b4, b5⟩ := h
  exact ⟨A, L, S, T, sp, a1, a2, a3, a4.mono hN, a5, a6, a7, a8, a9, b1, b2, b3, fun B hB => (b4 B hB).mono hN, fun i B hi hB => (b5 i B hi hB).mono hN⟩
theorem INV.rdr {cl rf : St → Option Int32} (h : INV N σN σP κ M τ) (hb : ∀ A, WF A → rdr cl rf A) : ∃ v, cl σN = some v ∧ rf τ = some v := by
  obtain ⟨A, L, S, T, sp, a1, a2, a3, -⟩ := h
  obtain ⟨v, h1, h2⟩ := hb A a3.1
  exact ⟨v, h1 _ a1, h2 _ a2⟩
theorem RepPM.frW {τ' : St} {T : List Nat} (h : RepPM τ T) (f : frW τ τ') : RepPM τ' T := by
  unfold RepPM
  rw [f 7 (by omega) (by omega) (by omega) (by omega), f 8 (by omega) (by omega) (by omega) (by omega)]
  exact h
theorem RepPM.frK {τ' : St} {T : List Nat} (h : RepPM τ T) (f : frK τ τ') : RepPM τ' T := by
  unfold RepPM
  rw [f 7 (by omega) (by omega) (by omega) (by omega) (by omega) (by omega), f 8 (by omega) (by omega) (by omega) (by omega) (by omega) (by omega)]
  exact h
theorem INV.rdw {cl : St → St → Option (Int32 × St)} {rf : St → Option (Int32 × St)} (h : INV N σN σP κ M τ) (hb : ∀ A, WF A → rdw cl rf A) (σW : St) : ∃ v σW' τ', cl σN σW = some (v, σW') ∧ rf τ = some (v, τ') ∧ INV N σN σP κ M τ' := by
  obtain ⟨A, L, S, T, sp, a1, a2, a3, a4, a5, a6, a7, a8, a9, b⟩ := h
  obtain ⟨v, h1, h2⟩ := hb A a3.1
  obtain ⟨σW', e1⟩ := h1 σN σW a1
  obtain ⟨τ', e2, r2, f2⟩ := h2 τ a2
  exact ⟨v, σW', τ', e1, e2, A, L, S, T, sp, a1, r2, a3, a4, a5.frW f2, a6.frW f2, a7, a8.frW f2, a9, b⟩
theorem INV.chg {N' : Nat} {cl rf : St → Option (Int32 × St)} (h : INV N σN σP κ M τ) (hN : N ≤ N') (hb : ∀ A, OK A → BD N A → chg N' true cl rf A) : ∃ A v σN' κ' τ' sp, RepL σN A ∧ WF A ∧ sp < 7 ∧ κ 1 0 = nI sp ∧ cl σN = some (v, σN') ∧ fX0_settle v κ = some (v, κ') ∧ rf τ = some (v, τ') ∧ ∀ h ad σ', RepL σ' A → INV N' σN' σP κ' (upM M sp (h, ad, σ')) τ' := by
  obtain ⟨A, L, S, T, sp, a1, a2, a3, a4, a5, a6, a7, a8, a9, ⟨c1, c2, c3⟩, b2, b3, b4, b5⟩ := h
  obtain ⟨v, A', hL, hM, w1, w2, w3⟩ := hb A a3 a4
  obtain ⟨σN', e1, r1⟩ := hL σN a1
  obtain ⟨τ', e2, r2, f2, m2⟩ := hM τ L a2 a5
  have hl6 := a5.1
  obtain ⟨κ', e3, k1, k2⟩ := settle_eq c2 c3 c1 hl6 v
  refine ⟨A, v, σN', κ', τ', sp, a1, a3.1, c1, c2, e1, e3, e2, fun h ad σ' r => ?_⟩
  by_cases hv : v < 0
  · rw [if_pos hv] at m2
    rw [k1 hv]
    exact ⟨A', L, S, T, sp, r1, r2, w1, w2, m2, a6.frK f2, a7, a8.frK f2, a9, ⟨c1, c2, c3⟩, b2.stay hl6 c1 _, b3.up c1 _, fun B hB => (b4 B hB).mono hN, fun i B hi hB => (b5 i B hi hB).mono hN⟩
  · rw [if_neg hv] at m2
    have m2 : HM τ' (pushL L A) := m2
    refine ⟨A', pushL L A, S, T, (sp + 1) % 7, r1, r2, w1, w2, m2, a6.frK f2, a7, a8.frK f2, a9, ⟨Nat.mod_lt _ (by omega), (k2 hv).1, ?_⟩, b2.push hl6 c1 r, b3.up c1 _, fun B hB => ?_, fun i B hi hB => (b5 i B hi hB).mono hN⟩
    · rw [(k2 hv).2, pushL_len hl6]
    · rcases pushL_mem hB with q | rfl
      · exact (b4 B q).mono hN
      · exact a4.mono hN
theorem INV.undo (h : INV N σN σP κ M τ) : (κ 2 0 = 0 ∧ fX4_undo τ = some (-5, τ)) ∨ (¬ κ 2 0 = 0 ∧ ∃ sp h ad τs s3 τ', sp < 7 ∧ κ 1 0 = nI sp ∧ M ((sp + 6) % 7) = some (h, ad, τs) ∧ fX1_become τs σN = some s3 ∧ fX4_undo τ = some (κ 2 0 - 1, τ') ∧ INV N s3 σP (put (put κ 1 (fun _ => nI ((sp + 6) % 7))) 2 (fun _ => κ 2 0 - 1)) M τ') := by
  obtain ⟨A, L, S, T, sp, a1, a2, a3, a4, a5, a6, a7, a8, a9, ⟨c1, c2, c3⟩, b2, b3, b4, b5⟩ := h
  have hl6 := a5.1
  rcases List.eq_nil_or_concat L with rfl | ⟨L0, B, rfl⟩
  · exact Or.inl ⟨c3, undo_no a5⟩
  · rw [List.concat_eq_append] at *
    have hlen : (L0 ++ [B]).length = L0.length + 1 := by rw [List.length_append, List.length_singleton]
    rw [hlen] at c3 hl6
    obtain ⟨τ', e2, r2, f2, m2⟩ := undoM_eq a5
    have hBget : (L0 ++ [B])[L0.length]? = some B := by rw [List.getElem?_append_right (by omega), Nat.sub_self]; rfl
    obtain ⟨h, ad, τs, eM, rB⟩ := b2 L0.length B hBget
    rw [hlen, show (sp + 7 - (L0.length + 1) + L0.length) % 7 = (sp + 6) % 7 by omega] at eM
    obtain ⟨hwB, -⟩ : OK B ∧ True := by
      obtain ⟨-, -, fi, -, -, q⟩ := a5
      exact ⟨(q _ _ hBget).1, trivial⟩
    obtain ⟨s3, e3, r3⟩ := becL (σ := σN) rB hwB.1
    have hk : κ 2 0 - 1 = nI L0.length := by rw [c3, l1, nI_sb (by omega), Nat.add_sub_cancel]
    refine Or.inr ⟨by rw [c3]; exact nI_ne (b := 0) (by omega) (by omega) (by omega), sp, h, ad, τs, s3, τ', c1, c2, eM, e3, by rw [hk]; exact e2, ?_⟩
    refine ⟨B, L0, S, T, (sp + 6) % 7, r3, r2, hwB, b4 B (by simp), m2, a6.frK f2, a7, a8.frK f2, a9, ⟨Nat.mod_lt _ (by omega), by rw [put_n _ _ (by omega), put_s], by rw [put_s]; exact hk⟩, fun i B' hi => ?_, b3, fun B' hB => b4 B' (List.mem_append.mpr (Or.inl hB)), b5⟩
    have hil := (List.getElem?_eq_some_iff.mp hi).1
    obtain ⟨a, b, c, e, q⟩ := b2 i B' (by rw [List.getElem?_append_left hil]; exact hi)
    refine ⟨a, b, c, ?_, q⟩
    rw [← e, hlen]
    congr 1
    omega
theorem INV.save {i : Nat} (hi : i < 2) (h : INV N σN σP κ M τ) : ∃ A τ', RepL σN A ∧ WF A ∧ fX4_save (nI i) τ = some (σN 1 0, τ') ∧ ∀ h ad σ', RepL σ' A → INV N σN σP κ (upM M (7 + i) (h, ad, σ')) τ' := by
  obtain ⟨A, L, S, T, sp, a1, a2, a3, a4, a5, a6, a7, a8, a9, ⟨c1, c2, c3⟩, b2, b3, b4, b5⟩ := h
  obtain ⟨τ', e, s', f⟩ := saveM_eq a2 a3 a6 hi
  refine ⟨A, τ', a1, a3.1, by rw [e, a1.1.1], fun h ad σ' r => ?_⟩
  refine ⟨A, L, fun x => if x = i then some A else S x, T, sp, a1, ?_, a3, a4, a5.fr (f 1 (by omega) (by omega)) (f 2 (by omega) (by omega)) (f 3 (by omega) (by omega)), s', a7, ?_, a9, ⟨c1, c2, c3⟩, b2.slot (by omega) _, fun x hx => ?_, b4, fun x B hx hB => ?_⟩
  · rw [f 0 (by omega) (by omega)]; exact a2
  · unfold RepPM
    rw [f 7 (by omega) (by omega), f 8 (by omega) (by omega)]
    exact a8
  · by_cases c : x = i
    · refine ⟨fun q => ?_, fun B q => ?_⟩
      · have q : (if x = i then some A else S x) = none := q
        rw [if_pos c] at q; cases q
      · have q : (if x = i then some A else S x) = some B := q
        rw [if_pos c] at q; cases q
        exact ⟨h, ad, σ', by rw [c, upM_s], r⟩
    · rw [upM_n _ _ (show 7 + x ≠ 7 + i by omega)]
      refine ⟨fun q => (b3 x hx).1 ?_, fun B q => (b3 x hx).2 B ?_⟩
      · have q : (if x = i then some A else S x) = none := q
        rwa [if_neg c] at q
      · have q : (if x = i then some A else S x) = some B := q
        rwa [if_neg c] at q
  · by_cases c : x = i
    · have hB : (if x = i then some A else S x) = some B := hB
      rw [if_pos c] at hB; cases hB; exact a4
    · have hB : (if x = i then some A else S x) = some B := hB
      rw [if_neg c] at hB; exact b5 x B hx hB
theorem slot_c (a : Int32) (τ : St) : (∃ i, i < 2 ∧ a = nI i) ∨ ((a < 0 ∨ ¬ a < 2) ∧ fX4_save a τ = some (-2, τ) ∧ fX4_restore a τ = some (-2, τ)) := by
  rcases one_c a with ⟨w, hw, rfl⟩ | ⟨h1, h2⟩
  · exact Or.inl ⟨w, by omega, rfl⟩
  · refine Or.inr ⟨?_, ?_, ?_⟩
    · rcases h1 with h | ⟨h, h3⟩
      · exact Or.inl h
      · refine Or.inr fun q => h3 ?_
        rw [Int32.lt_iff_toInt_lt] at q
        rw [Int32.le_iff_toInt_le]
        have e2 : (2 : Int32).toInt = 2 := by decide
        have e1 : (1 : Int32).toInt = 1 := by decide
        omega
    · unfold fX4_save
      rw [h2, bnd_s, if_pos rfl]
    · unfold fX4_restore
      rw [h2, bnd_s, if_pos rfl]
theorem INV.restore {i : Nat} (hi : i < 2) (hN : N < 2147483648) (h : INV N σN σP κ M τ) : (M (7 + i) = none ∧ fX4_restore (nI i) τ = some (-5, τ)) ∨ ∃ A sp hs as τs s3 κ' τ', RepL σN A ∧ WF A ∧ sp < 7 ∧ κ 1 0 = nI sp ∧ M (7 + i) = some (hs, as, τs) ∧ fX1_become τs σN = some s3 ∧ fX0_settle (s3 1 0) κ = some (s3 1 0, κ') ∧ fX4_restore (nI i) τ = some (s3 1 0, τ') ∧ ∀ h ad σ', RepL σ' A → INV N s3 σP κ' (upM M sp (h, ad, σ')) τ' := by
  obtain ⟨A, L, S, T, sp, a1, a2, a3, a4, a5, a6, a7, a8, a9, ⟨c1, c2, c3⟩, b2, b3, b4, b5⟩ := h
  have hl6 := a5.1
  rcases hS : S i with _ | B
  · exact Or.inl ⟨(b3 i hi).1 hS, restM_no a6 hi hS⟩
  · right
    obtain ⟨hs, as, τs, eM, rB⟩ := (b3 i hi).2 B hS
    have hwB : OK B := ((a6 i hi).2 B hS).2.1
    obtain ⟨s3, e3, r3⟩ := becL (σ := σN) rB hwB.1
    obtain ⟨τ', e2, r2, f2, m2⟩ := restM_eq a2 a3 a5 a6 hi hS
    have hbB := b5 i B hi hS
    obtain ⟨κ', e4, -, k2⟩ := settle_eq c2 c3 c1 hl6 (s3 1 0)
    have hv : ¬ s3 1 0 < 0 := by
      rw [r3.1.1]
      obtain ⟨⟨n, hn, e⟩, -⟩ := hbB
      rw [e]
      exact nI_pos (by omega)
    refine ⟨A, sp, hs, as, τs, s3, κ', τ', a1, a3.1, c1, c2, eM, e3, e4, by rw [r3.1.1]; exact e2, fun h ad σ' r => ?_⟩
    refine ⟨B, pushL L A, S, T, (sp + 1) % 7, r3, r2, hwB, hbB, m2, a6.frK f2, a7, a8.frK f2, a9, ⟨Nat.mod_lt _ (by omega), (k2 hv).1, ?_⟩, b2.push hl6 c1 r, b3.up c1 _, fun B' hB => ?_, b5⟩
    · rw [(k2 hv).2, pushL_len hl6]
    · rcases pushL_mem hB with q | rfl
      · exact b4 B' q
      · exact a4
theorem INV.typ (h : INV N σN σP κ M τ) (a : Int64) (σW : St) : ∃ v σP' τ', fX3_put a σN σW σP κ = some (v, σP') ∧ fX4_put a τ = some (v, τ') ∧ INV N σN σP' κ M τ' := by
  obtain ⟨A, L, S, T, sp, a1, a2, a3, a4, a5, a6, a7, a8, a9, b⟩ := h
  obtain ⟨v, T', t1, t2, t3⟩ := put_b a9 a
  obtain ⟨σP', e1, r1⟩ := t2 σP a7
  obtain ⟨τ', e2, r2, f⟩ := t3 τ a8
  refine ⟨v, σP', τ', ?_, e2, A, L, S, T', sp, a1, by rw [f 0 (by omega) (by omega)]; exact a2, a3, a4, a5.fr (f 1 (by omega) (by omega)) (f 2 (by omega) (by omega)) (f 3 (by omega) (by omega)), a6.fr (f 4 (by omega) (by omega)) (f 5 (by omega) (by omega)), r1, r2, t1, b⟩
  unfold fX3_put
  rw [e1, bn2_s]
theorem TW_nil : TW [] := ⟨by simp, fun c hc => by cases hc⟩
theorem INV.wipe (h : INV N σN σP κ M τ) (σW : St) : ∃ v σP' τ', fX3_wipe σN σW σP κ = some (v, σP') ∧ fX4_wipe τ = some (v, τ') ∧ INV N σN σP' κ M τ' := by
  obtain ⟨A, L, S, T, sp, a1, a2, a3, a4, a5, a6, a7, a8, a9, b⟩ := h
  obtain ⟨σP', e1, r1⟩ := eraseL_eq a7
  obtain ⟨τ', e2, r2, f⟩ := wipeM_eq a8
  refine ⟨_, σP', τ', ?_, e2, A, L, S, [], sp, a1, by rw [f 0 (by omega)]; exact a2, a3, a4, a5.fr (f 1 (by omega)) (f 2 (by omega)) (f 3 (by omega)), a6.fr (f 4 (by omega)) (f 5 (by omega)), r1, r2, TW_nil, b⟩
  unfold fX3_wipe
  rw [e1, bn2_s]
theorem INV.fault (h : INV N σN σP κ M τ) (σW : St) : ∃ v σP' τ', fX3_fault σN σW σP κ = some (v, σP') ∧ fX4_fault τ = some (v, τ') ∧ INV N σN σP' κ M τ' := by
  obtain ⟨A, L, S, T, sp, a1, a2, a3, a4, a5, a6, a7, a8, a9, b⟩ := h
  obtain ⟨σP', e1, r1⟩ := faultL_eq a7 a9
  obtain ⟨τ', e2, r2, f, -⟩ := faultM_eq a8 a9
  have g : ∀ c, c < 11 → τ' c = τ c := fun c hc => f c (by omega) (by omega) (by omega) (by omega) (by omega)
  refine ⟨_, σP', τ', ?_, e2, A, L, S, T, sp, a1, by rw [g 0 (by omega)]; exact a2, a3, a4, a5.fr (g 1 (by omega)) (g 2 (by omega)) (g 3 (by omega)), a6.fr (g 4 (by omega)) (g 5 (by omega)), r1, r2, a9, b⟩
  unfold fX3_fault
  rw [e1, bn2_s]
theorem INV.carry (hN : N + 8100 < 2147483648) (h : INV N σN σP κ M τ) (σW : St) : ∃ r σP', fX2_firstFault σP = some (r, σP') ∧ ((¬ r = -6 ∧ ∃ τ', fX4_carryOut τ = some (-3, τ') ∧ INV N σN σP' κ M τ') ∨ (r = -6 ∧ ∃ A sp d x2e x3e σN2 σP2 σP3 κ' n0 τ', RepL σN A ∧ WF A ∧ sp < 7 ∧ κ 1 0 = nI sp ∧ lp (fun t : (Int32 × Int32 × Int32 × St × St) => cyB σW κ t.1 t.2.1 t.2.2.1 t.2.2.2.1 t.2.2.2.2) FU ((0 : Int32), (1 : Int32), (0 : Int32), σN, put σP' 2 (fun _ => (0 : Int32))) = some (d, x2e, x3e, σN2, σP2) ∧ fX2_erase σP2 = some (n0, σP3) ∧ fX0_settle d κ = some (d, κ') ∧ fX4_carryOut τ = some (d, τ') ∧ ∀ h ad σ', RepL σ' A → INV (N + 8100) σN2 σP3 κ' (upM M sp (h, ad, σ')) τ')) := by
  obtain ⟨A, L, S, T, sp, a1, a2, a3, a4, a5, a6, a7, a8, a9, ⟨c1, c2, c3⟩, b2, b3, b4, b5⟩ := h
  have hl6 := a5.1
  have hT8 := a9.1
  obtain ⟨σP', e1, r1⟩ := faultL_eq a7 a9
  obtain ⟨τ1, e2, r2, f, o2⟩ := faultM_eq a8 a9
  have g : ∀ c, c < 11 → τ1 c = τ c := fun c hc => f c (by omega) (by omega) (by omega) (by omega) (by omega)
  have m0 : RepM (τ1 0) A := by rw [g 0 (by omega)]; exact a2
  have hH1 : HM τ1 L := a5.fr (g 1 (by omega)) (g 2 (by omega)) (g 3 (by omega))
  have hS1 : SM τ1 S := a6.fr (g 4 (by omega)) (g 5 (by omega))
  refine ⟨_, σP', e1, ?_⟩
  have hfl := fl_le (T := T) 27 (p := 0) (by omega)
  rcases hfl2 : (flR T 27 0).1 with _ | l
  · have hv : fltV T = nI (flR T 27 0).2 := by unfold fltV; rw [hfl2]
    left
    refine ⟨?_, τ1, ?_, A, L, S, T, sp, a1, m0, a3, a4, hH1, hS1, r1, r2, a9, ⟨c1, c2, c3⟩, b2, b3, b4, b5⟩
    · rw [hv]
      intro q
      have := nI_pos (n := (flR T 27 0).2) (by omega)
      rw [q] at this
      exact this (by decide)
    · unfold fX4_carryOut
      rw [e2, bn2_s, hv, if_neg (nI_pos (by omega))]
  · have hv : fltV T = -6 := by unfold fltV; rw [hfl2]
    right
    obtain ⟨o13, ol, oo⟩ := o2 l hfl2
    obtain ⟨v, A', w1, w2, w3, hC, hR⟩ := cy_loop (σW := σW) (κ := κ) a9 27 (p := 0) (j := 0) (N := N) hfl2 (by omega) (by omega) (by omega) a3 a4 (by omega)
    obtain ⟨x2, x3, σN2, σP2, eC, rC, rP⟩ := hC 0 σN (put σP' 2 (fun _ => (0 : Int32))) a1 (r1.pt (by omega) (by omega) _) (by rw [put_s]; rfl) FU (by rw [FU_v]; omega)
    obtain ⟨σP3, eE, rE⟩ := eraseL_eq rP
    obtain ⟨τ2, e3, f3, m3⟩ := keepM_eq hH1 m0 a3
    have m20 : RepM (τ2 0) A := by rw [f3 0 (by omega) (by omega) (by omega)]; exact m0
    obtain ⟨τ3, e4, r4, f4, m4⟩ := hR τ2 (pushL L A) 0 m20 m3 (fun i d hi => by
      have := oo i d hi
      unfold ordM at this ⊢
      rw [Nat.zero_add, f3 14 (by omega) (by omega) (by omega), f3 15 (by omega) (by omega) (by omega)]
      exact this) (by rw [f3 13 (by omega) (by omega) (by omega), Nat.zero_add]; exact o13) (by omega) FU (by rw [FU_v]; omega)
    have hS2 : SM τ2 S := hS1.fr (f3 4 (by omega) (by omega) (by omega)) (f3 5 (by omega) (by omega) (by omega))
    have hS3 : SM τ3 S := hS2.frK f4
    obtain ⟨κ', e5, -, k2⟩ := settle_eq c2 c3 c1 hl6 (nI (0 + v))
    have hv0 : ¬ nI (0 + v) < 0 := nI_pos (by omega)
    have k : ∀ c, c ≠ 8 → (put τ3 8 (fun _ => (0 : Int32))) c = τ3 c := fun c hc => put_n _ _ hc
    refine ⟨hv, A, sp, nI (0 + v), x2, x3, σN2, σP2, σP3, κ', _, put τ3 8 (fun _ => (0 : Int32)), a1, a3.1, c1, c2, eC, eE, e5, ?_, fun h ad σ' r => ?_⟩
    · unfold fX4_carryOut
      rw [e2, bn2_s, hv, if_pos (by decide), e3, bnd_s, show lp (fun t : (Int32 × St) => bX4_carryOut_16 t.1 t.2) FU ((0 : Int32), τ2) = _ from e4, bnd_s]
      rfl
    · refine ⟨A', pushL L A, S, [], (sp + 1) % 7, rC, by rw [k 0 (by omega)]; exact r4, w1, w2.mono (by omega), m4.fr (k 1 (by omega)) (k 2 (by omega)) (k 3 (by omega)), hS3.fr (k 4 (by omega)) (k 5 (by omega)), rE, ⟨by rw [put_s]; rfl, fun i c q => by cases q⟩, TW_nil, ⟨Nat.mod_lt _ (by omega), (k2 hv0).1, ?_⟩, b2.push hl6 c1 r, b3.up c1 _, fun B hB => ?_, fun i B hi hB => (b5 i B hi hB).mono (by omega)⟩
      · rw [(k2 hv0).2, pushL_len hl6]
      · rcases pushL_mem hB with q | rfl
        · exact (b4 B q).mono (by omega)
        · exact a4.mono (by omega)
theorem INV.count (h : INV N σN σP κ M τ) (a : Int32) (σW : St) : ∃ v, fX3_count a σN σW σP κ = some v ∧ fX4_count a τ = some v := by
  obtain ⟨A, L, S, T, sp, a1, a2, a3, a4, a5, a6, a7, a8, a9, ⟨c1, c2, c3⟩, -⟩ := h
  obtain ⟨v, h1, h2⟩ := count_b a3.1 a (nI T.length) (nI L.length)
  exact ⟨v, h1 σN σW σP κ a1 a7.1 c3, h2 τ a2 a8.1 a5.2.1⟩
end IV
