/-! Reading an order: the class -/
def ixN (c : Nat) : Int32 := if c = 114 then 0 else if c = 109 then 1 else if c = 119 then 2 else if c = 102 then 3 else if c = 99 then 4 else if c = 120 then 5 else if c = 116 then 6 else -1
def iyN (c : Nat) : Int32 := if c = 114 then 0 else if c = 109 then 1 else if c = 119 then 2 else -1
theorem ix0 : ∀ c : Fin 127, fJ0_indexOf_0f7a4 0 (nI c.val) = some (ixN c.val) := by decide +kernel
theorem ix1 : ∀ c : Fin 127, fJ0_indexOf_0f7a4 1 (nI c.val) = some (iyN c.val) := by decide +kernel
abbrev isLt (c : Nat) : Prop := isCX c ∨ c = 102 ∨ isRM c ∨ c = 116
theorem ixN_y {c : Nat} (h : isLt c) : (0 : Int32) ≤ ixN c := by
  have : c = 99 ∨ c = 120 ∨ c = 102 ∨ c = 109 ∨ c = 114 ∨ c = 119 ∨ c = 116 := by omega
  rcases this with rfl | rfl | rfl | rfl | rfl | rfl | rfl <;> decide
theorem ixN_n {c : Nat} (h : ¬ isLt c) : ¬ (0 : Int32) ≤ ixN c := by
  have : ixN c = -1 := by
    unfold ixN
    rw [if_neg (by omega), if_neg (by omega), if_neg (by omega), if_neg (by omega), if_neg (by omega), if_neg (by omega), if_neg (by omega)]
  rw [this]; decide
def rdT (s15 : St) : Option (Int32 × St) := if ((s15 5 0) : Int32) < (0 : Int32) then (some ((0 : Int32), s15)) else (some ((1 : Int32), s15))
def rdO (r6 : Int32) (s7 : St) : Option (Int32 × St) := if (r6 : Int32) = (0 : Int32) then (some ((0 : Int32), s7)) else (if ((s7 3 0) : Int32) = (99 : Int32) then (some ((1 : Int32), s7)) else (if ((s7 3 0) : Int32) = (120 : Int32) then (some ((1 : Int32), s7)) else (bn2 (fX2_readRange s7) fun r8 s9 => if (r8 : Int32) = (0 : Int32) then (some ((0 : Int32), s9)) else (if ((s9 3 0) : Int32) = (102 : Int32) then (some ((1 : Int32), s9)) else (bn2 (fX2_skip (33 : Int32) s9) fun r10 s11 => if (r10 : Int32) = (0 : Int32) then (some ((1 : Int32), s11)) else (some ((1 : Int32), put s11 7 (fun _ => (1 : Int32)))))))))
def rdC (s5 : St) : Option (Int32 × St) := if ((s5 3 0) : Int32) = (116 : Int32) then (bn2 (fX2_readNumber s5) fun r13 s14 => rdT (put s14 5 (fun _ => r13))) else (bn2 (fX2_readOwner s5) fun r6 s7 => rdO r6 s7)
def rdB (s3 : St) : Option (Int32 × St) := bnd (fJ0_indexOf_0f7a4 0 (s3 3 0)) fun r4 => if (0 : Int32) ≤ r4 then rdC (put s3 2 (fun _ => (s3 2 0) + (1 : Int32))) else (some ((0 : Int32), s3))
theorem rd_eq (σ : St) : fX2_readOrder σ = bnd (fX2_sign σ) fun r1 => gd (((r1 : Int32).toUInt32 % 65536).toInt32 = r1) (rdB (put (put σ 3 (fun _ => r1)) 7 (fun _ => (0 : Int32)))) := rfl
/-- the order that was read last is d -/
def ordL (σ : St) (d : Od) : Prop := σ 3 0 = nI d.1 ∧ isLt d.1 ∧ (d.1 ≠ 116 → σ 4 0 = nI d.2.1) ∧ (d.1 = 116 → σ 5 0 = nI d.2.1) ∧ (d.1 = 102 ∨ isRM d.1 → σ 5 0 = nI d.2.2.1 ∧ σ 6 0 = nI d.2.2.2.1) ∧ (isRM d.1 → σ 7 0 = nI d.2.2.2.2 ∧ d.2.2.2.2 ≤ 1)
section OL
variable {σ : St} {T : List Nat} {p : Nat}
/-- what is said of reading an order -/
def rdZ (T : List Nat) (p : Nat) (r : Int32) (σ' : St) : Prop := RepPL σ' T ∧ σ' 2 0 = nI (orR T p).2 ∧ ((orR T p).1 = none → r = 0 ∨ (r = 1 ∧ dg T (orR T p).2)) ∧ ∀ d, (orR T p).1 = some d → r = 1 ∧ ordL σ' d
theorem rdO_rd {s7 : St} (h : RepPL s7 T) (hT : TW T) (hp : s7 2 0 = nI (p + 2)) (hp2 : p < 600) (h3 : s7 3 0 = nI (cd T p)) (h4 : s7 4 0 = nI (dv T (p + 1))) (h7 : s7 7 0 = nI 0) (ho : 48 ≤ cd T (p + 1) ∧ cd T (p + 1) ≤ 55) (hl : isLt (cd T p)) (ht : cd T p ≠ 116) : ∃ r σ', rdO 1 s7 = some (r, σ') ∧ rdZ T p r σ' := by
  have hc := cd_lt hT p
  unfold rdO
  rw [if_neg (by decide), h3]
  by_cases c1 : isCX (cd T p)
  · have Z : rdZ T p 1 s7 := by
      unfold rdZ
      rw [or_cy c1 ho]
      refine ⟨h, hp, fun q => (by cases q), fun d q => ?_⟩
      cases q
      refine ⟨rfl, h3, hl, fun _ => h4, fun q => ?_, fun q => ?_, fun q => ?_⟩
      all_goals (exfalso; simp only at q; omega)
    by_cases c2 : cd T p = 99
    · rw [if_pos (show nI (cd T p) = 99 by rw [c2]; rfl)]
      exact ⟨1, s7, rfl, Z⟩
    · rw [if_neg (show ¬ nI _ = (99 : Int32) from nI_ne (b := 99) (by omega) (by omega) c2), if_pos (show nI (cd T p) = 120 by rw [c1.resolve_left c2]; rfl)]
      exact ⟨1, s7, rfl, Z⟩
  · rw [if_neg (show ¬ nI _ = (99 : Int32) from nI_ne (b := 99) (by omega) (by omega) (by omega)), if_neg (show ¬ nI _ = (120 : Int32) from nI_ne (b := 120) (by omega) (by omega) (by omega))]
    obtain ⟨r, s9, e9, g9, k3, k4, k7, p9, n9, y9⟩ := rangeL_rd (p := p + 1) h hT hp (by omega) ho
    have hq := rgR_le T (p + 1)
    have hc9 := cd_lt hT (rgR T (p + 1)).2
    have h39 : s9 3 0 = nI (cd T p) := by rw [k3]; exact h3
    rw [e9, bn2_s]
    by_cases c2 : cd T p = 102
    · rcases hr : (rgR T (p + 1)).1 with _ | ⟨o, f, t⟩
      · have Z : ∀ r, (r = 0 ∨ (r = 1 ∧ dg T (rgR T (p + 1)).2)) → rdZ T p r s9 := fun r w => by
          unfold rdZ
          rw [or_fn c2 hr]
          exact ⟨g9, p9, fun _ => w, fun d q => by cases q⟩
        rcases n9 hr with rfl | ⟨rfl, w⟩
        · rw [if_pos rfl]
          exact ⟨0, s9, rfl, Z 0 (Or.inl rfl)⟩
        · rw [if_neg (by decide), h39, if_pos (show nI (cd T p) = 102 by rw [c2]; rfl)]
          exact ⟨1, s9, rfl, Z 1 (Or.inr ⟨rfl, w⟩)⟩
      · obtain ⟨rfl, v5, v6⟩ := y9 o f t hr
        rw [if_neg (by decide), h39, if_pos (show nI (cd T p) = 102 by rw [c2]; rfl)]
        refine ⟨1, s9, rfl, ?_⟩
        unfold rdZ
        rw [or_fy c2 hr]
        refine ⟨g9, p9, fun q => (by cases q), fun d q => ?_⟩
        cases q
        have v0 : dv T (p + 1) = o := by
          unfold rgR at hr
          repeat' split at hr
          all_goals first | (cases hr; rfl) | cases hr
        refine ⟨rfl, by rw [h39, c2], by simp only; omega, fun _ => by rw [k4, h4, v0], fun q => ?_, fun _ => ⟨v5, v6⟩, fun q => ?_⟩
        all_goals (exfalso; simp only at q; omega)
    · have c3 : isRM (cd T p) := by omega
      obtain ⟨y, nn⟩ := skipL_eq g9 hT p9 (by omega) (a := 33) (by omega)
      rcases hr : (rgR T (p + 1)).1 with _ | ⟨o, f, t⟩
      · have Z : ∀ r, (r = 0 ∨ (r = 1 ∧ dg T (rgR T (p + 1)).2)) → rdZ T p r s9 := fun r w => by
          unfold rdZ
          rw [or_rn c3 hr]
          exact ⟨g9, p9, fun _ => w, fun d q => by cases q⟩
        rcases n9 hr with rfl | ⟨rfl, w⟩
        · rw [if_pos rfl]
          exact ⟨0, s9, rfl, Z 0 (Or.inl rfl)⟩
        · have := w.1
          rw [if_neg (by decide), h39, if_neg (show ¬ nI _ = (102 : Int32) from nI_ne (b := 102) (by omega) (by omega) c2), show fX2_skip 33 s9 = _ from nn (by omega), bn2_s, if_pos rfl]
          exact ⟨1, s9, rfl, Z 1 (Or.inr ⟨rfl, w⟩)⟩
      · obtain ⟨rfl, v5, v6⟩ := y9 o f t hr
        have v0 : dv T (p + 1) = o := by
          unfold rgR at hr
          repeat' split at hr
          all_goals first | (cases hr; rfl) | cases hr
        rw [if_neg (by decide), h39, if_neg (show ¬ nI _ = (102 : Int32) from nI_ne (b := 102) (by omega) (by omega) c2)]
        by_cases c4 : cd T (rgR T (p + 1)).2 = 33
        · rw [show fX2_skip 33 s9 = _ from y c4, bn2_s, if_neg (by decide)]
          refine ⟨1, _, rfl, ?_⟩
          unfold rdZ
          rw [or_r1 c3 hr c4]
          have k : ∀ j, j ≠ 2 → j ≠ 7 → (put (put s9 2 (fun _ => nI ((rgR T (p + 1)).2 + 1))) 7 (fun _ => (1 : Int32))) j = s9 j := fun j a b => by rw [put_n _ _ b, put_n _ _ a]
          refine ⟨(g9.pt (by omega) (by omega) _).pt (by omega) (by omega) _, by rw [put_n _ _ (by omega), put_s], fun q => (by cases q), fun d q => ?_⟩
          cases q
          refine ⟨rfl, by rw [k 3 (by omega) (by omega)]; exact h39, hl, fun _ => by rw [k 4 (by omega) (by omega), k4, h4, v0], fun q => absurd q ht, fun _ => ⟨by rw [k 5 (by omega) (by omega)]; exact v5, by rw [k 6 (by omega) (by omega)]; exact v6⟩, fun _ => ⟨by rw [put_s]; rfl, by simp only; omega⟩⟩
        · rw [show fX2_skip 33 s9 = _ from nn c4, bn2_s, if_pos rfl]
          refine ⟨1, s9, rfl, ?_⟩
          unfold rdZ
          rw [or_r0 c3 hr c4]
          refine ⟨g9, p9, fun q => (by cases q), fun d q => ?_⟩
          cases q
          exact ⟨rfl, h39, hl, fun _ => by rw [k4, h4, v0], fun q => absurd q ht, fun _ => ⟨v5, v6⟩, fun _ => ⟨by rw [k7]; exact h7, by simp only; omega⟩⟩
theorem orderL_rd (h : RepPL σ T) (hT : TW T) (hp : σ 2 0 = nI p) (hp2 : p < 600) : ∃ r σ', fX2_readOrder σ = some (r, σ') ∧ rdZ T p r σ' := by
  have hc := cd_lt hT p
  rw [rd_eq, signL_eq h hT hp (by omega), bnd_s, gd_t (chr_ok (by omega))]
  obtain ⟨s3, hs3⟩ : ∃ x, x = put (put σ 3 (fun _ => nI (cd T p))) 7 (fun _ => (0 : Int32)) := ⟨_, rfl⟩
  have g3 : RepPL s3 T := by rw [hs3]; exact (h.pt (by omega) (by omega) _).pt (by omega) (by omega) _
  have q3 : s3 3 0 = nI (cd T p) := by rw [hs3, put_n _ _ (by omega), put_s]
  have q7 : s3 7 0 = nI 0 := by rw [hs3, put_s]; rfl
  have q2 : s3 2 0 = nI p := by rw [hs3, put_n _ _ (by omega), put_n _ _ (by omega)]; exact hp
  rw [← hs3]
  unfold rdB
  rw [q3, show fJ0_indexOf_0f7a4 0 (nI (cd T p)) = _ from ix0 ⟨cd T p, by omega⟩, bnd_s]
  by_cases hl : isLt (cd T p)
  · rw [if_pos (ixN_y hl), q2, l1, nI_add]
    obtain ⟨s5, hs5⟩ : ∃ x, x = put s3 2 (fun _ => nI (p + 1)) := ⟨_, rfl⟩
    have g5 : RepPL s5 T := by rw [hs5]; exact g3.pt (by omega) (by omega) _
    have k5 : ∀ j, j ≠ 2 → s5 j = s3 j := fun j a => by rw [hs5, put_n _ _ a]
    have p5 : s5 2 0 = nI (p + 1) := by rw [hs5, put_s]
    rw [← hs5]
    unfold rdC
    rw [k5 3 (by omega), q3]
    by_cases ht : cd T p = 116
    · rw [if_pos (show nI (cd T p) = 116 by rw [ht]; rfl)]
      have e6 := numL_eq g5 hT p5 (by omega)
      have hv := nmV_v hT (p + 1)
      by_cases c5 : dg T (p + 1)
      · rw [if_pos c5] at e6
        rw [e6, bn2_s]
        unfold rdT
        rw [put_s, if_neg (nI_pos (by omega))]
        refine ⟨1, _, rfl, ?_⟩
        have gg : RepPL (put (put s5 2 (fun _ => nI (nmV T (p + 1)).2)) 5 (fun _ => nI (nmV T (p + 1)).1)) T := (g5.pt (by omega) (by omega) _).pt (by omega) (by omega) _
        have pp : (put (put s5 2 (fun _ => nI (nmV T (p + 1)).2)) 5 (fun _ => nI (nmV T (p + 1)).1)) 2 0 = nI (nmV T (p + 1)).2 := by rw [put_n _ _ (by omega), put_s]
        unfold rdZ
        by_cases c6 : ovr T (p + 1)
        · rw [or_to ht c5 c6]
          exact ⟨gg, pp, fun _ => Or.inr ⟨rfl, c6.2⟩, fun d q => by cases q⟩
        · rw [or_ty ht c5 c6]
          refine ⟨gg, pp, fun q => (by cases q), fun d q => ?_⟩
          cases q
          refine ⟨rfl, by rw [put_n _ _ (by omega), put_n _ _ (by omega), k5 3 (by omega), q3, ht], by simp only; omega, fun q => absurd rfl q, fun _ => by rw [put_s], fun q => ?_, fun q => ?_⟩
          all_goals (exfalso; simp only at q; omega)
      · rw [if_neg c5] at e6
        rw [e6, bn2_s]
        unfold rdT
        rw [put_s, if_pos (by decide)]
        refine ⟨0, _, rfl, ?_⟩
        unfold rdZ
        rw [or_tn ht c5]
        exact ⟨g5.pt (by omega) (by omega) _, by rw [put_n _ _ (by omega)]; exact p5, fun _ => Or.inl rfl, fun d q => by cases q⟩
    · rw [if_neg (show ¬ nI _ = (116 : Int32) from nI_ne (b := 116) (by omega) (by omega) ht)]
      obtain ⟨y, nn⟩ := ownerL_rd g5 hT p5 (by omega)
      by_cases ho : 48 ≤ cd T (p + 1) ∧ cd T (p + 1) ≤ 55
      · rw [y ho, bn2_s]
        exact rdO_rd (by exact (g5.pt (by omega) (by omega) _).pt (by omega) (by omega) _) hT (by rw [put_s]) hp2 (by rw [put_n _ _ (by omega), put_n _ _ (by omega), k5 3 (by omega)]; exact q3) (by rw [put_n _ _ (by omega), put_s]) (by rw [put_n _ _ (by omega), put_n _ _ (by omega), k5 7 (by omega)]; exact q7) ho hl ht
      · obtain ⟨v, ev⟩ := nn ho
        rw [ev, bn2_s]
        unfold rdO
        rw [if_pos rfl]
        refine ⟨0, _, rfl, g5.pt (by omega) (by omega) _, ?_⟩
        have pp : (put s5 4 (fun _ => v)) 2 0 = nI (p + 1) := by rw [put_n _ _ (by omega)]; exact p5
        have oo : orR T p = (none, p + 1) := by
          have rr : rgR T (p + 1) = (none, p + 1) := by unfold rgR; rw [if_pos ho]
          by_cases c1 : isCX (cd T p)
          · exact or_cn c1 ho
          · by_cases c2 : cd T p = 102
            · rw [or_fn c2 (by rw [rr]), rr]
            · rw [or_rn (by omega) (by rw [rr]), rr]
        rw [oo]
        exact ⟨pp, fun _ => Or.inl rfl, fun d q => by cases q⟩
  · rw [if_neg (ixN_n hl)]
    refine ⟨0, s3, rfl, ?_⟩
    unfold rdZ
    rw [or_no (by omega) (by omega) (by omega) (by omega)]
    exact ⟨g3, q2, fun _ => Or.inl rfl, fun d q => by cases q⟩
end OL
