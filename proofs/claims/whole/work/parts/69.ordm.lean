/-! Reading an order: the reference -/
abbrev isCX (c : Nat) : Prop := c = 99 ∨ c = 120
abbrev isRM (c : Nat) : Prop := c = 109 ∨ c = 114 ∨ c = 119
/-- an order: its letter and its numbers -/
abbrev Od : Type := Nat × Nat × Nat × Nat × Nat
/-- the order that begins at p, or none; and where it ends or fails -/
def orR (T : List Nat) (p : Nat) : Option Od × Nat :=
  if isCX (cd T p) then (if 48 ≤ cd T (p + 1) ∧ cd T (p + 1) ≤ 55 then (some (cd T p, dv T (p + 1), 0, 0, 0), p + 2) else (none, p + 1))
  else if cd T p = 102 then
    (match (rgR T (p + 1)).1 with
    | none => (none, (rgR T (p + 1)).2)
    | some x => (some (102, x.1, x.2.1, x.2.2, 0), (rgR T (p + 1)).2))
  else if isRM (cd T p) then
    (match (rgR T (p + 1)).1 with
    | none => (none, (rgR T (p + 1)).2)
    | some x => if cd T (rgR T (p + 1)).2 = 33 then (some (cd T p, x.1, x.2.1, x.2.2, 1), (rgR T (p + 1)).2 + 1) else (some (cd T p, x.1, x.2.1, x.2.2, 0), (rgR T (p + 1)).2))
  else if cd T p = 116 then (if ¬ dg T (p + 1) then (none, p + 1) else if ovr T (p + 1) then (none, (nmV T (p + 1)).2) else (some (116, (nmV T (p + 1)).1, 0, 0, 0), (nmV T (p + 1)).2))
  else (none, p)
section OR
variable {T : List Nat} {p : Nat}
theorem or_cy (c : isCX (cd T p)) (d : 48 ≤ cd T (p + 1) ∧ cd T (p + 1) ≤ 55) : orR T p = (some (cd T p, dv T (p + 1), 0, 0, 0), p + 2) := by
  unfold orR; rw [if_pos c, if_pos d]
theorem or_cn (c : isCX (cd T p)) (d : ¬ (48 ≤ cd T (p + 1) ∧ cd T (p + 1) ≤ 55)) : orR T p = (none, p + 1) := by
  unfold orR; rw [if_pos c, if_neg d]
theorem or_fn (c : cd T p = 102) (d : (rgR T (p + 1)).1 = none) : orR T p = (none, (rgR T (p + 1)).2) := by
  unfold orR; rw [if_neg (by omega), if_pos c, d]
theorem or_fy (c : cd T p = 102) {o f t : Nat} (d : (rgR T (p + 1)).1 = some (o, f, t)) : orR T p = (some (102, o, f, t, 0), (rgR T (p + 1)).2) := by
  unfold orR; rw [if_neg (by omega), if_pos c, d]
theorem or_rn (c : isRM (cd T p)) (d : (rgR T (p + 1)).1 = none) : orR T p = (none, (rgR T (p + 1)).2) := by
  unfold orR; rw [if_neg (by omega), if_neg (by omega), if_pos c, d]
theorem or_r1 (c : isRM (cd T p)) {o f t : Nat} (d : (rgR T (p + 1)).1 = some (o, f, t)) (e : cd T (rgR T (p + 1)).2 = 33) : orR T p = (some (cd T p, o, f, t, 1), (rgR T (p + 1)).2 + 1) := by
  unfold orR; rw [if_neg (by omega), if_neg (by omega), if_pos c, d]; exact if_pos e
theorem or_r0 (c : isRM (cd T p)) {o f t : Nat} (d : (rgR T (p + 1)).1 = some (o, f, t)) (e : cd T (rgR T (p + 1)).2 ≠ 33) : orR T p = (some (cd T p, o, f, t, 0), (rgR T (p + 1)).2) := by
  unfold orR; rw [if_neg (by omega), if_neg (by omega), if_pos c, d]; exact if_neg e
theorem or_tn (c : cd T p = 116) (d : ¬ dg T (p + 1)) : orR T p = (none, p + 1) := by
  unfold orR; rw [if_neg (by omega), if_neg (by omega), if_neg (by omega), if_pos c, if_pos d]
theorem or_to (c : cd T p = 116) (d : dg T (p + 1)) (e : ovr T (p + 1)) : orR T p = (none, (nmV T (p + 1)).2) := by
  unfold orR; rw [if_neg (by omega), if_neg (by omega), if_neg (by omega), if_pos c, if_neg (fun q => q d), if_pos e]
theorem or_ty (c : cd T p = 116) (d : dg T (p + 1)) (e : ¬ ovr T (p + 1)) : orR T p = (some (116, (nmV T (p + 1)).1, 0, 0, 0), (nmV T (p + 1)).2) := by
  unfold orR; rw [if_neg (by omega), if_neg (by omega), if_neg (by omega), if_pos c, if_neg (fun q => q d), if_neg e]
theorem or_no (c1 : ¬ isCX (cd T p)) (c2 : cd T p ≠ 102) (c3 : ¬ isRM (cd T p)) (c4 : cd T p ≠ 116) : orR T p = (none, p) := by
  unfold orR; rw [if_neg c1, if_neg c2, if_neg c3, if_neg c4]
end OR
/-! what a step keeps -/
def kp {β : Type} (Z : β → Prop) (o : Option β) : Prop := ∀ s, o = some s → Z s
theorem kp_s {β : Type} {Z : β → Prop} {s : β} (h : Z s) : kp Z (some s) := fun _ q => by cases q; exact h
theorem kp_n {β : Type} {Z : β → Prop} : kp Z (none : Option β) := fun _ q => by cases q
theorem kp_if {β : Type} {Z : β → Prop} {c : Prop} [Decidable c] {a b : Option β} (h : kp Z a) (h' : kp Z b) : kp Z (if c then a else b) := by
  split
  · exact h
  · exact h'
theorem kp_ax {β : Type} {Z : β → Prop} {i : Int32} {n : Nat} {k : Option β} (h : kp Z k) : kp Z (ax i n k) := by
  unfold ax
  exact kp_if kp_n h
theorem kp_nm {α β : Type} {Z : β → Prop} (Y : α → Prop) {a : α} {k : α → Option β} (h : Y a) (h' : ∀ z, Y z → kp Z (k z)) : kp Z (nm a k) := h' a h
theorem kp_bnd {α β : Type} {Z : β → Prop} (Y : α → Prop) {o : Option α} {k : α → Option β} (h : kp Y o) (h' : ∀ z, Y z → kp Z (k z)) : kp Z (bnd o k) := by
  cases o with
  | none => exact kp_n
  | some a => exact h' a (h a rfl)
theorem kp_lp {L E : Type} {b : L → Option (L ⊕ E)} (P : L → Prop) (Z : E → Prop) (hb : ∀ t, P t → kp (fun r : L ⊕ E => (∀ t', r = .inl t' → P t') ∧ ∀ e, r = .inr e → Z e) (b t)) : ∀ (n : Nat) (t : L), P t → kp Z (lp b n t)
  | 0, _, _ => kp_n
  | n + 1, t, h => fun e q => by
    obtain ⟨z, h1, h2⟩ := lp_s q
    have := hb t h z h1
    rcases h2 with ⟨s', h3, h4⟩ | h3
    · exact kp_lp P Z hb n s' (this.1 s' h3) e h4
    · exact this.2 e h3
section K13
variable {v : Nat → Int32}
abbrev i13 (v : Nat → Int32) : St → Prop := fun s => s 13 = v
theorem i13.put {s : St} (h : i13 v s) {k : Nat} (hk : 13 ≠ k) (f : Nat → Int32) : i13 v (put s k f) := (put_n _ _ hk).trans h
theorem kp_any {α : Type} {o : Option α} : kp (fun _ => True) o := fun _ _ => trivial
theorem one13 {s : St} (h : i13 v s) (a b : Int32) : kp (i13 v) (fX4_takeOne a b s) := by
  unfold fX4_takeOne
  have K : ∀ z : St, i13 v z → kp (i13 v) (if ((z 12 0) : Int32) = (0 : Int32) then (bnd (fX4_next z) fun r2 => ax (((4 : Int32) * (z 13 0)) + a) 116 (nm (put z 15 (upd (z 15) (((4 : Int32) * (z 13 0)) + a : Int32).toNatClampNeg (r2 - (48 : Int32)))) fun s3 => nm (put s3 11 (fun _ => (s3 11 0) + (1 : Int32))) fun s4 => some s4)) else (some z)) := fun z hz =>
    kp_if (kp_bnd _ kp_any fun r _ => kp_ax (kp_nm (i13 v) (hz.put (by omega) _) fun y hy => kp_nm (i13 v) (hy.put (by omega) _) fun x hx => kp_s hx)) (kp_s hz)
  exact kp_if (kp_bnd _ kp_any fun r _ => kp_bnd _ kp_any fun r2 _ => kp_if (kp_nm (i13 v) (h.put (by omega) _) K) (kp_nm (i13 v) (h.put (by omega) _) K)) (kp_nm (i13 v) (h.put (by omega) _) K)
theorem sign13 {s : St} (h : i13 v s) (a : Int32) : kp (i13 v) (fX4_takeSign a s) := by
  unfold fX4_takeSign
  have K : ∀ z : St, i13 v z → kp (i13 v) (if ((z 12 0) : Int32) = (0 : Int32) then (nm (put z 11 (fun _ => (z 11 0) + (1 : Int32))) fun s2 => some s2) else (nm (put z 11 (fun _ => (z 11 0) + (0 : Int32))) fun s3 => some s3)) := fun z hz =>
    kp_if (kp_nm (i13 v) (hz.put (by omega) _) fun x hx => kp_s hx) (kp_nm (i13 v) (hz.put (by omega) _) fun x hx => kp_s hx)
  exact kp_if (kp_bnd _ kp_any fun r _ => kp_if (kp_nm (i13 v) (h.put (by omega) _) K) (kp_nm (i13 v) (h.put (by omega) _) K)) (kp_nm (i13 v) (h.put (by omega) _) K)
theorem num13 {s : St} (h : i13 v s) (a : Int32) : kp (i13 v) (fX4_takeNumber a s) := by
  unfold fX4_takeNumber
  have B : ∀ (w x : Int32) (z : St), i13 v z → kp (fun r : (Int32 × St) ⊕ (Int32 × St) => (∀ t', r = .inl t' → i13 v t'.2) ∧ ∀ e, r = .inr e → i13 v e.2) (bX4_takeNumber_38_3 w x z) := fun w x z hz => by
    unfold bX4_takeNumber_38_3
    have R : ∀ (y : Int32) (u : St), i13 v u → (∀ t', (Sum.inr (y, u) : (Int32 × St) ⊕ (Int32 × St)) = .inl t' → i13 v t'.2) ∧ ∀ e, (Sum.inr (y, u) : (Int32 × St) ⊕ (Int32 × St)) = .inr e → i13 v e.2 := fun y u hu => ⟨fun t' q => (by cases q), fun e q => by cases q; exact hu⟩
    have L : ∀ (y : Int32) (u : St), i13 v u → (∀ t', (Sum.inl (y, u) : (Int32 × St) ⊕ (Int32 × St)) = .inl t' → i13 v t'.2) ∧ ∀ e, (Sum.inl (y, u) : (Int32 × St) ⊕ (Int32 × St)) = .inr e → i13 v e.2 := fun y u hu => ⟨fun t' q => (by cases q; exact hu), fun e q => by cases q⟩
    exact kp_if (kp_s (R _ _ hz)) (kp_bnd _ kp_any fun r _ => kp_bnd _ kp_any fun r2 _ => kp_if (kp_s (R _ _ hz)) (kp_ax (kp_bnd _ kp_any fun r3 _ => kp_nm (fun _ => True) trivial fun v3 _ => kp_if (kp_ax (kp_nm (i13 v) (hz.put (by omega) _) fun y hy => kp_nm (i13 v) (hy.put (by omega) _) fun y2 hy2 => kp_s (L _ _ hy2))) (kp_nm (i13 v) (hz.put (by omega) _) fun y hy => kp_s (L _ _ hy)))))
  have E : ∀ e : Int32 × St, i13 v e.2 → kp (i13 v) (nm e.1 fun _ => nm e.2 fun s14 => some s14) := fun e he => kp_nm (fun _ => True) trivial fun _ _ => kp_nm (i13 v) he fun y hy => kp_s hy
  refine kp_bnd (i13 v) (one13 h a 57) fun z hz => kp_nm (fun _ => True) trivial fun w _ => ?_
  refine kp_if (kp_ax (kp_if (kp_bnd (fun e : Int32 × St => i13 v e.2) (kp_lp (fun t : Int32 × St => i13 v t.2) _ (fun t ht => ?_) _ _ hz) E) (kp_bnd (fun e : Int32 × St => i13 v e.2) (kp_lp (fun t : Int32 × St => i13 v t.2) _ (fun t ht => B w t.1 t.2 ht) _ _ hz) E))) (kp_bnd (fun e : Int32 × St => i13 v e.2) (kp_lp (fun t : Int32 × St => i13 v t.2) _ (fun t ht => ?_) _ _ hz) E)
  · exact B w t.1 t.2 ht
  · exact B w t.1 t.2 ht
theorem range13 {s : St} (h : i13 v s) : kp (i13 v) (fX4_takeRange s) := by
  unfold fX4_takeRange
  exact kp_bnd (i13 v) (one13 h 0 55) fun a ha => kp_bnd (i13 v) (sign13 ha 58) fun b hb => kp_bnd (i13 v) (num13 hb 1) fun c hc => kp_bnd (i13 v) (sign13 hc 45) fun d hd => kp_bnd (i13 v) (num13 hd 2) fun e he => kp_s he
end K13
/-- the order is laid -/
def finM (r1 : Int32) (s4 : St) : Option St := if ((s4 12 0) : Int32) = (0 : Int32) then (ax (s4 13 0) 29 (nm (put s4 14 (upd (s4 14) (s4 13 0 : Int32).toNatClampNeg (r1))) fun s5 => nm (put s5 13 (fun _ => (s5 13 0) + (1 : Int32))) fun s6 => some s6)) else (some s4)
def tkX (r1 w : Int32) (s12 : St) : Option St := ax (((4 : Int32) * (s12 13 0)) + (3 : Int32)) 116 (nm (put s12 15 (upd (s12 15) (((4 : Int32) * (s12 13 0)) + (3 : Int32) : Int32).toNatClampNeg (w))) fun s22 => ax (((4 : Int32) * (s22 13 0)) + (3 : Int32)) 116 (nm (put s22 11 (fun _ => (s22 11 0) + (s22 15 (((4 : Int32) * (s22 13 0)) + (3 : Int32) : Int32).toNatClampNeg))) fun s23 => finM r1 s23))
def tkE (r1 : Int32) (s12 : St) : Option St := if ((s12 12 0) : Int32) = (0 : Int32) then (bnd (fX4_next s12) fun r17 => if (r17 : Int32) = (33 : Int32) then tkX r1 1 s12 else tkX r1 0 s12) else tkX r1 0 s12
def tkB (r1 : Int32) (s2 : St) : Option St := if (r1 : Int32) = (99 : Int32) ∨ (r1 : Int32) = (120 : Int32) then (bnd (fX4_takeOne (0 : Int32) (55 : Int32) s2) fun s => finM r1 s) else (if (r1 : Int32) = (102 : Int32) then (bnd (fX4_takeRange s2) fun s => finM r1 s) else (if (r1 : Int32) = (109 : Int32) ∨ (r1 : Int32) = (114 : Int32) ∨ (r1 : Int32) = (119 : Int32) then (bnd (fX4_takeRange s2) fun s => tkE r1 s) else (if (r1 : Int32) = (116 : Int32) then (bnd (fX4_takeNumber (0 : Int32) s2) fun s => finM r1 s) else finM r1 (put (put s2 11 (fun _ => (s2 11 0) - (1 : Int32))) 12 (fun _ => (1 : Int32))))))
theorem tk_eq (σ : St) : fX4_takeOrder σ = bnd (fX4_next σ) fun r1 => tkB r1 (put σ 11 (fun _ => (σ 11 0) + (1 : Int32))) := rfl
/-- the n-th order is laid as d -/
def ordM (σ : St) (n : Nat) (d : Od) : Prop := σ 14 n = nI d.1 ∧ σ 15 (4 * n) = nI d.2.1 ∧ (d.1 = 102 ∨ isRM d.1 → σ 15 (4 * n + 1) = nI d.2.2.1 ∧ σ 15 (4 * n + 2) = nI d.2.2.2.1) ∧ (isRM d.1 → σ 15 (4 * n + 3) = nI d.2.2.2.2)
theorem ordM.keep {σ σ' : St} {n i : Nat} {d : Od} (hi : i < n) (h : ordM σ i d) (h14 : ∀ j, j < n → σ' 14 j = σ 14 j) (h15 : ∀ j, j < 4 * n → σ' 15 j = σ 15 j) : ordM σ' i d := by
  obtain ⟨a, b, c, e⟩ := h
  exact ⟨(h14 i hi).trans a, (h15 _ (by omega)).trans b, fun q => ⟨(h15 _ (by omega)).trans (c q).1, (h15 _ (by omega)).trans (c q).2⟩, fun q => (h15 _ (by omega)).trans (e q)⟩
section OM
variable {σ : St} {T : List Nat} {p n : Nat}
theorem finM_y {s : St} {q : Nat} (h : RS s T q n) (hn : n < 29) (c : Nat) : ∃ s', finM (nI c) s = some s' ∧ RS s' T q (n + 1) ∧ frP s s' ∧ s' 14 = upd (s 14) n (nI c) ∧ s' 15 = s 15 := by
  obtain ⟨g1, g2, g3, g4⟩ := h
  obtain ⟨s1, hs1⟩ : ∃ x, x = put s 14 (upd (s 14) n (nI c)) := ⟨_, rfl⟩
  have k1 : ∀ j, j ≠ 14 → s1 j = s j := fun j hj => by rw [hs1, put_n _ _ hj]
  have f1 : frP s s1 := fun k _ _ _ k4 _ => k1 k k4
  have f2 : frP s1 (put s1 13 (fun _ => nI (n + 1))) := fun k _ _ k3 _ _ => put_n _ _ k3
  refine ⟨put s1 13 (fun _ => nI (n + 1)), ?_, ⟨g1.fr (f1.tr f2), ?_, ?_, by rw [put_s]⟩, f1.tr f2, ?_, ?_⟩
  · unfold finM
    rw [g2, if_pos (show nI 0 = 0 from rfl), g4, ax_nI hn (by omega)]
    simp only [nm]
    rw [nI_cl (by omega), ← hs1, k1 13 (by omega), g4, l1, nI_add]
  · rw [put_n _ _ (by omega), k1 12 (by omega)]; exact g2
  · rw [put_n _ _ (by omega), k1 11 (by omega)]; exact g3
  · rw [put_n _ _ (by omega), hs1, put_s]
  · rw [put_n _ _ (by omega), k1 15 (by omega)]
theorem finM_n {s : St} {q : Nat} (h : RF s T q) (c : Int32) : finM c s = some s := by
  unfold finM
  rw [h.2.1, if_neg n1_0]
theorem tkX_pre {s : St} {q w : Nat} (hn : n < 29) (h11 : s 11 0 = nI q) (h13 : s 13 0 = nI n) (c : Nat) : ∃ s', tkX (nI c) (nI w) s = finM (nI c) s' ∧ s' 11 = (fun _ => nI (q + w)) ∧ s' 15 = upd (s 15) (4 * n + 3) (nI w) ∧ (∀ j, j ≠ 11 → j ≠ 15 → s' j = s j) := by
  have hx : (4 : Int32) * nI n + 3 = nI (4 * n + 3) := by rw [show (4 : Int32) = nI 4 from rfl, pk_mul, l3, nI_add]
  obtain ⟨s1, hs1⟩ : ∃ x, x = put s 15 (upd (s 15) (4 * n + 3) (nI w)) := ⟨_, rfl⟩
  have k1 : ∀ j, j ≠ 15 → s1 j = s j := fun j hj => by rw [hs1, put_n _ _ hj]
  refine ⟨put s1 11 (fun _ => nI (q + w)), ?_, by rw [put_s], by rw [put_n _ _ (by omega), hs1, put_s], fun j a b => by rw [put_n _ _ a, k1 j b]⟩
  unfold tkX
  rw [h13, hx, ax_nI (by omega) (by omega)]
  simp only [nm]
  rw [nI_cl (by omega), ← hs1, k1 13 (by omega), h13, hx, ax_nI (by omega) (by omega), nI_cl (by omega), k1 11 (by omega), h11, show s1 15 (4 * n + 3) = nI w by rw [hs1, put_s, upd_s], nI_add]
theorem tkX_y {s : St} {q : Nat} (h : RS s T q n) (hn : n < 29) (c w : Nat) : ∃ s', tkX (nI c) (nI w) s = some s' ∧ RS s' T (q + w) (n + 1) ∧ frP s s' ∧ s' 14 = upd (s 14) n (nI c) ∧ s' 15 = upd (s 15) (4 * n + 3) (nI w) := by
  obtain ⟨g1, g2, g3, g4⟩ := h
  obtain ⟨s1, e1, a11, a15, k1⟩ := tkX_pre (w := w) hn g3 g4 c
  have f1 : frP s s1 := fun k x1 _ _ _ x5 => k1 k x1 x5
  obtain ⟨s2, e2, r2, f2, b14, b15⟩ := finM_y (s := s1) (T := T) (q := q + w) (n := n) ⟨g1.fr f1, by rw [k1 12 (by omega) (by omega)]; exact g2, by rw [a11], by rw [k1 13 (by omega) (by omega)]; exact g4⟩ hn c
  exact ⟨s2, e1.trans e2, r2, f1.tr f2, by rw [b14, k1 14 (by omega) (by omega)], by rw [b15, a15]⟩
theorem tkX_n {s : St} {q : Nat} (h : RF s T q) (hn : n < 29) (h13 : s 13 0 = nI n) (c : Nat) : ∃ s', tkX (nI c) (nI 0) s = some s' ∧ RF s' T q ∧ frP s s' := by
  obtain ⟨g1, g2, g3⟩ := h
  obtain ⟨s1, e1, a11, a15, k1⟩ := tkX_pre (w := 0) hn g3 h13 c
  have f1 : frP s s1 := fun k x1 _ _ _ x5 => k1 k x1 x5
  have r1 : RF s1 T q := ⟨g1.fr f1, by rw [k1 12 (by omega) (by omega)]; exact g2, by rw [a11]; rfl⟩
  exact ⟨s1, e1.trans (finM_n r1 _), r1, f1⟩
theorem nI_ne {a b : Nat} (ha : a < 1000) (hb : b < 1000) (h : a ≠ b) : ¬ nI a = nI b := fun w => h ((nI_eq (by omega) (by omega)).mp w)
theorem rgR_le (T : List Nat) (p : Nat) : (rgR T p).2 ≤ p + 9 := by
  have h1 := nmV_le T (p + 2)
  have h2 := nmV_le T ((nmV T (p + 2)).2 + 1)
  unfold rgR
  repeat' split
  all_goals (simp only; omega)
theorem orderM_eq (h : RS σ T p n) (hT : TW T) (hp : p < 600) (hn : n < 29) : ∃ σ', fX4_takeOrder σ = some σ' ∧ frP σ σ' ∧ ((orR T p).1 = none → RF σ' T (orR T p).2) ∧ ∀ d, (orR T p).1 = some d → RS σ' T (orR T p).2 (n + 1) ∧ ordM σ' n d ∧ ∀ i e, i < n → ordM σ i e → ordM σ' i e := by
  have hc := cd_lt hT p
  obtain ⟨g1, g2, g3, g4⟩ := h
  have e1 := nextM_eq g1 hT g3 (by omega)
  obtain ⟨s2, hs2⟩ : ∃ x, x = put σ 11 (fun _ => nI (p + 1)) := ⟨_, rfl⟩
  have k2 : ∀ j, j ≠ 11 → s2 j = σ j := fun j hj => by rw [hs2, put_n _ _ hj]
  have f2 : frP σ s2 := fun k x1 _ _ _ _ => k2 k x1
  have r2 : RS s2 T (p + 1) n := ⟨g1.fr f2, by rw [k2 12 (by omega)]; exact g2, by rw [hs2, put_s], by rw [k2 13 (by omega)]; exact g4⟩
  rw [tk_eq, e1, bnd_s, g3, l1, nI_add, ← hs2]
  unfold tkB
  by_cases c1 : isCX (cd T p)
  · rw [if_pos (show nI (cd T p) = 99 ∨ nI (cd T p) = 120 from c1.imp (fun q => by rw [q]; rfl) (fun q => by rw [q]; rfl))]
    by_cases c2 : 48 ≤ cd T (p + 1) ∧ cd T (p + 1) ≤ 55
    · rw [or_cy c1 c2]
      obtain ⟨s4, e4, r4, f4, a14, a15⟩ := oneM_y r2 hT (by omega) hn (j := 0) (by omega) (hi := 55) (by omega) c2.1 c2.2
      obtain ⟨s5, e5, r5, f5, b14, b15⟩ := finM_y r4 hn (cd T p)
      refine ⟨s5, by rw [show fX4_takeOne 0 55 s2 = _ from e4, bnd_s]; exact e5, f2.tr (f4.tr f5), fun q => (by cases q), fun d q => ?_⟩
      cases q
      have x14 : s5 14 = upd (σ 14) n (nI (cd T p)) := by rw [b14, a14, k2 14 (by omega)]
      have x15 : s5 15 = upd (σ 15) (4 * n) (nI (cd T (p + 1) - 48)) := by rw [b15, a15, k2 15 (by omega)]; rfl
      refine ⟨r5, ⟨by rw [x14, upd_s], by rw [x15, upd_s], fun q => ?_, fun q => ?_⟩, fun i e hi he => he.keep hi (fun j hj => by rw [x14, upd_n _ _ (by omega)]) (fun j hj => by rw [x15, upd_n _ _ (by omega)])⟩
      · exfalso; simp only at q; omega
      · exfalso; simp only at q; omega
    · rw [or_cn c1 c2]
      obtain ⟨s4, e4, r4, f4⟩ := oneM_n r2 hT (by omega) 0 (hi := 55) (by omega) c2
      exact ⟨s4, by rw [show fX4_takeOne 0 55 s2 = _ from e4, bnd_s]; exact finM_n r4 _, f2.tr f4, fun _ => r4, fun d q => by cases q⟩
  · rw [if_neg (show ¬ (nI (cd T p) = 99 ∨ nI (cd T p) = 120) from fun q => q.elim (nI_ne (b := 99) (by omega) (by omega) (by omega)) (nI_ne (b := 120) (by omega) (by omega) (by omega)))]
    by_cases c2 : cd T p = 102
    · rw [if_pos (show nI (cd T p) = 102 by rw [c2]; rfl)]
      obtain ⟨s4, e4, f4, y4, z4⟩ := rangeM_eq r2 hT (by omega) hn
      rcases hr : (rgR T (p + 1)).1 with _ | ⟨o, f, t⟩
      · rw [or_fn c2 hr]
        exact ⟨s4, by rw [e4, bnd_s]; exact finM_n (y4 hr) _, f2.tr f4, fun _ => y4 hr, fun d q => by cases q⟩
      · rw [or_fy c2 hr]
        obtain ⟨r4, a14, v0, v1, v2, v3⟩ := z4 o f t hr
        obtain ⟨s5, e5, r5, f5, b14, b15⟩ := finM_y r4 hn (cd T p)
        refine ⟨s5, by rw [e4, bnd_s]; exact e5, f2.tr (f4.tr f5), fun q => (by cases q), fun d q => ?_⟩
        cases q
        have x14 : s5 14 = upd (σ 14) n (nI (cd T p)) := by rw [b14, a14, k2 14 (by omega)]
        refine ⟨r5, ⟨by rw [x14, upd_s, c2], by rw [b15]; exact v0, fun _ => ⟨by rw [b15]; exact v1, by rw [b15]; exact v2⟩, fun q => ?_⟩, fun i e hi he => he.keep hi (fun j hj => by rw [x14, upd_n _ _ (by omega)]) (fun j hj => by rw [b15, v3 j hj, k2 15 (by omega)])⟩
        exfalso; simp only at q; omega
    · rw [if_neg (show ¬ nI _ = (102 : Int32) from nI_ne (b := 102) (by omega) (by omega) c2)]
      by_cases c3 : isRM (cd T p)
      · rw [if_pos (show nI (cd T p) = 109 ∨ nI (cd T p) = 114 ∨ nI (cd T p) = 119 from c3.imp (fun q => by rw [q]; rfl) (fun q => q.imp (fun q => by rw [q]; rfl) (fun q => by rw [q]; rfl)))]
        obtain ⟨s4, e4, f4, y4, z4⟩ := rangeM_eq r2 hT (by omega) hn
        have h13 : s4 13 0 = nI n := by rw [range13 (v := s2 13) rfl s4 e4]; exact r2.2.2.2
        have hq := rgR_le T (p + 1)
        rw [e4, bnd_s]
        unfold tkE
        rcases hr : (rgR T (p + 1)).1 with _ | ⟨o, f, t⟩
        · rw [or_rn c3 hr]
          have r4 := y4 hr
          obtain ⟨s5, e5, r5, f5⟩ := tkX_n r4 hn h13 (cd T p)
          exact ⟨s5, by rw [r4.2.1, if_neg n1_0]; exact e5, f2.tr (f4.tr f5), fun _ => r5, fun d q => by cases q⟩
        · obtain ⟨r4, a14, v0, v1, v2, v3⟩ := z4 o f t hr
          have hc4 := cd_lt hT (rgR T (p + 1)).2
          have e6 := nextM_eq r4.1 hT r4.2.2.1 (by omega)
          rw [r4.2.1, if_pos (show nI 0 = 0 from rfl), e6, bnd_s]
          have fin : ∀ (w : Nat) (s5 : St), RS s5 T ((rgR T (p + 1)).2 + w) (n + 1) → s5 14 = upd (s4 14) n (nI (cd T p)) → s5 15 = upd (s4 15) (4 * n + 3) (nI w) → RS s5 T ((rgR T (p + 1)).2 + w) (n + 1) ∧ ordM s5 n (cd T p, o, f, t, w) ∧ ∀ i e, i < n → ordM σ i e → ordM s5 i e := fun w s5 r5 b14 b15 =>
            ⟨r5, ⟨by rw [b14, upd_s], by rw [b15, upd_n _ _ (by omega)]; exact v0, fun _ => ⟨by rw [b15, upd_n _ _ (by omega)]; exact v1, by rw [b15, upd_n _ _ (by omega)]; exact v2⟩, fun _ => by rw [b15, upd_s]⟩, fun i e hi he => he.keep hi (fun j hj => by rw [b14, upd_n _ _ (by omega), a14, k2 14 (by omega)]) (fun j hj => by rw [b15, upd_n _ _ (by omega), v3 j hj, k2 15 (by omega)])⟩
          by_cases c4 : cd T (rgR T (p + 1)).2 = 33
          · rw [or_r1 c3 hr c4]
            obtain ⟨s5, e5, r5, f5, b14, b15⟩ := tkX_y r4 hn (cd T p) 1
            refine ⟨s5, by rw [if_pos (show nI (cd T (rgR T (p + 1)).2) = 33 by rw [c4]; rfl)]; exact e5, f2.tr (f4.tr f5), fun q => (by cases q), fun d q => ?_⟩
            cases q
            exact fin 1 s5 r5 b14 b15
          · rw [or_r0 c3 hr c4]
            obtain ⟨s5, e5, r5, f5, b14, b15⟩ := tkX_y r4 hn (cd T p) 0
            refine ⟨s5, by rw [if_neg (show ¬ nI _ = (33 : Int32) from nI_ne (b := 33) (by omega) (by omega) c4)]; exact e5, f2.tr (f4.tr f5), fun q => (by cases q), fun d q => ?_⟩
            cases q
            exact fin 0 s5 r5 b14 b15
      · rw [if_neg (show ¬ (nI (cd T p) = 109 ∨ nI (cd T p) = 114 ∨ nI (cd T p) = 119) from fun q => q.elim (nI_ne (b := 109) (by omega) (by omega) (by omega)) (fun q => q.elim (nI_ne (b := 114) (by omega) (by omega) (by omega)) (nI_ne (b := 119) (by omega) (by omega) (by omega))))]
        by_cases c4 : cd T p = 116
        · rw [if_pos (show nI (cd T p) = 116 by rw [c4]; rfl)]
          by_cases c5 : dg T (p + 1)
          · obtain ⟨s4, e4, f4, y4, z4⟩ := numM_y r2 hT (by omega) hn c5 (j := 0) (by omega)
            rw [show fX4_takeNumber 0 s2 = _ from e4, bnd_s]
            by_cases c6 : ovr T (p + 1)
            · rw [or_to c4 c5 c6]
              exact ⟨s4, finM_n (y4 c6) _, f2.tr f4, fun _ => y4 c6, fun d q => by cases q⟩
            · rw [or_ty c4 c5 c6]
              obtain ⟨r4, a14, a15⟩ := z4 c6
              obtain ⟨s5, e5, r5, f5, b14, b15⟩ := finM_y r4 hn (cd T p)
              refine ⟨s5, e5, f2.tr (f4.tr f5), fun q => (by cases q), fun d q => ?_⟩
              cases q
              have x14 : s5 14 = upd (σ 14) n (nI (cd T p)) := by rw [b14, a14, k2 14 (by omega)]
              have x15 : s5 15 = upd (σ 15) (4 * n) (nI (nmV T (p + 1)).1) := by rw [b15, a15, k2 15 (by omega)]; rfl
              refine ⟨r5, ⟨by rw [x14, upd_s, c4], by rw [x15, upd_s], fun q => ?_, fun q => ?_⟩, fun i e hi he => he.keep hi (fun j hj => by rw [x14, upd_n _ _ (by omega)]) (fun j hj => by rw [x15, upd_n _ _ (by omega)])⟩
              · exfalso; simp only at q; omega
              · exfalso; simp only at q; omega
          · rw [or_tn c4 c5]
            obtain ⟨s4, e4, r4, f4⟩ := numM_n r2 hT (by omega) c5 0
            exact ⟨s4, by rw [e4, bnd_s]; exact finM_n r4 _, f2.tr f4, fun _ => r4, fun d q => by cases q⟩
        · rw [if_neg (show ¬ nI _ = (116 : Int32) from nI_ne (b := 116) (by omega) (by omega) c4), or_no c1 c2 c3 c4]
          have r6 : RF (put (put s2 11 (fun _ => (s2 11 0) - (1 : Int32))) 12 (fun _ => (1 : Int32))) T p := by
            refine ⟨r2.1.fr (fun k x1 x2 _ _ _ => by rw [put_n _ _ x2, put_n _ _ x1]), by rw [put_s]; rfl, ?_⟩
            rw [put_n _ _ (by omega), put_s, r2.2.2.1, l1, nI_sb (by omega), Nat.add_sub_cancel]
          exact ⟨_, finM_n r6 _, f2.tr (fun k x1 x2 _ _ _ => by rw [put_n _ _ x2, put_n _ _ x1]), fun _ => r6, fun d q => by cases q⟩
end OM
