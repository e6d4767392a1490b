/-! The mathematical state that both sides hold -/
/-- a request in the row: its owner, kind, from, to, the ticks it has waited -/
abbrev Rq : Type := Nat × Nat × Nat × Nat × Int32
/-- kinds by owner and place; the row; counters by owner (0 given, 1 begun, 2 given up, 3 longest wait); 0 tick, 1 gone, 2 breaks, 3 FAIR, 4 BREAK, 5 PATIENCE -/
abbrev AS : Type := (Nat → Nat → Nat) × List Rq × (Nat → Nat → Int32) × (Nat → Int32)
abbrev aK (A : AS) : Nat → Nat → Nat := A.1
abbrev aR (A : AS) : List Rq := A.2.1
abbrev aC (A : AS) : Nat → Nat → Int32 := A.2.2.1
abbrev aG (A : AS) : Nat → Int32 := A.2.2.2
def WF (A : AS) : Prop := (∀ o p, o < 8 → p < 300 → aK A o p ≤ 3) ∧ ((aR A).map (·.1)).Nodup ∧ (∀ r ∈ aR A, r.1 < 8 ∧ 1 ≤ r.2.1 ∧ r.2.1 ≤ 3 ∧ r.2.2.1 < r.2.2.2.1 ∧ r.2.2.2.1 ≤ 300) ∧ (aG A 3 = 0 ∨ aG A 3 = 1) ∧ (aG A 4 = 0 ∨ aG A 4 = 1) ∧ 0 ≤ aG A 5 ∧ aG A 5 ≤ 200
/-- the class's state of locks holds A -/
def RepL (σ : St) (A : AS) : Prop :=
  (σ 1 0 = aG A 0 ∧ σ 13 0 = aG A 1 ∧ σ 14 0 = aG A 2 ∧ σ 0 0 = aG A 3 ∧ σ 0 1 = aG A 4 ∧ σ 0 2 = aG A 5 ∧ σ 4 0 = nI (aR A).length) ∧
  (∀ i r, (aR A)[i]? = some r → σ 3 i = nI r.1 ∧ σ 5 r.1 = nI r.2.1 ∧ σ 6 r.1 = nI r.2.2.1 ∧ σ 7 r.1 = nI r.2.2.2.1 ∧ σ 8 r.1 = r.2.2.2.2) ∧
  (∀ o, o < 8 → (∀ r ∈ aR A, r.1 ≠ o) → σ 5 o = 0) ∧
  (∀ o, o < 8 → σ 9 o = aC A o 0 ∧ σ 10 o = aC A o 1 ∧ σ 11 o = aC A o 2 ∧ σ 12 o = aC A o 3) ∧
  ∀ k p, 1 ≤ k → k ≤ 3 → p < 300 → isM (σ (16 + k) p) (fun x => x < 8 ∧ k ≤ aK A x p)
/-- the reference's row of numbers holds A -/
def RepM (a : Nat → Int32) (A : AS) : Prop :=
  (a 0 = aG A 0 ∧ a 5 = aG A 1 ∧ a 6 = aG A 2 ∧ a 2 = aG A 3 ∧ a 3 = aG A 4 ∧ a 4 = aG A 5 ∧ a 1 = nI (aR A).length) ∧
  (∀ i r, (aR A)[i]? = some r → a (8 + i) = nI r.1 ∧ a (16 + 9 * r.1) = nI r.2.1 ∧ a (16 + 9 * r.1 + 1) = nI r.2.2.1 ∧ a (16 + 9 * r.1 + 2) = nI r.2.2.2.1 ∧ a (16 + 9 * r.1 + 3) = r.2.2.2.2) ∧
  (∀ o, o < 8 → (∀ r ∈ aR A, r.1 ≠ o) → a (16 + 9 * o) = 0) ∧
  (∀ o, o < 8 → a (16 + 9 * o + 4) = aC A o 0 ∧ a (16 + 9 * o + 5) = aC A o 1 ∧ a (16 + 9 * o + 6) = aC A o 2 ∧ a (16 + 9 * o + 7) = aC A o 3) ∧
  ∀ o p, o < 8 → p < 300 → a (88 + 300 * o + p) = nI (aK A o p)
theorem WF.len {A : AS} (h : WF A) : (aR A).length ≤ 8 := by
  have h1 := h.2.1
  have h2 : ∀ x ∈ (aR A).map (·.1), x ∈ List.range 8 := fun x hx => by
    obtain ⟨r, hr, rfl⟩ := List.mem_map.mp hx
    exact List.mem_range.mpr (h.2.2.1 r hr).1
  have h3 := List.Nodup.length_le_of_subset h1 h2
  simpa using h3
/-- those in the way of a kind of an owner at a place: by locks, and by the first n requests of the row -/
def blk (A : AS) (o k p n x : Nat) : Prop := x < 8 ∧ x ≠ o ∧ (4 ≤ k + aK A x p ∨ (aG A 3 = 1 ∧ ∃ r ∈ (aR A).take n, r.1 = x ∧ r.2.2.1 ≤ p ∧ p < r.2.2.2.1 ∧ 4 ≤ k + r.2.1))
/-- for whom a request would wait behind the first n of the row -/
def stp (A : AS) (o k f t n x : Nat) : Prop := ∃ p, f ≤ p ∧ p < t ∧ aK A o p < k ∧ blk A o k p n x
/-- for whom the i-th request of the row waits -/
def wts (A : AS) (i x : Nat) : Prop := ∃ r, (aR A)[i]? = some r ∧ stp A r.1 r.2.1 r.2.2.1 r.2.2.2.1 i x
/-- the i-th request can be given -/
def frr (A : AS) (i : Nat) : Prop := ∀ x, ¬ wts A i x
/-- an owner's kind at the places of a range -/
def setK (A : AS) (o f t k : Nat) : AS := (fun x p => if x = o ∧ f ≤ p ∧ p < t then k else aK A x p, aR A, aC A, aG A)
def quitA (A : AS) (o : Nat) : AS := (aK A, (aR A).filter (fun r => r.1 != o), aC A, aG A)
def joinA (A : AS) (o k f t : Nat) : AS := (aK A, aR A ++ [(o, k, f, t, 0)], aC A, aG A)
def longA (A : AS) (o : Nat) (w : Int32) : AS := (aK A, aR A, fun x j => if x = o ∧ j = 3 then (if aC A x j < w then w else aC A x j) else aC A x j, aG A)
def cntA (A : AS) (o j : Nat) (n : Int32) : AS := (aK A, aR A, fun x w => if x = o ∧ w = j then aC A x w + n else aC A x w, aG A)
def glbA (A : AS) (j : Nat) (v : Int32) : AS := (aK A, aR A, aC A, fun w => if w = j then v else aG A w)
def giveK (A : AS) (o k f t : Nat) : AS := cntA (setK A o f t k) o 0 1
/-- a request of the row is given -/
def givA (A : AS) (r : Rq) : AS := quitA (longA (giveK A r.1 r.2.1 r.2.2.1 r.2.2.2.1) r.1 r.2.2.2.2) r.1
/-- how many below n have P -/
def cnt (P : Nat → Prop) [DecidablePred P] : Nat → Nat
  | 0 => 0
  | n + 1 => cnt P n + if P n then 1 else 0
theorem cnt_le (P : Nat → Prop) [DecidablePred P] : ∀ n, cnt P n ≤ n
  | 0 => Nat.le_refl _
  | n + 1 => by
    have := cnt_le P n
    rw [cnt]
    split <;> omega
theorem cnt_s {P : Nat → Prop} [DecidablePred P] {n : Nat} (h : P n) : cnt P (n + 1) = cnt P n + 1 := by rw [cnt, if_pos h]
theorem cnt_ns {P : Nat → Prop} [DecidablePred P] {n : Nat} (h : ¬ P n) : cnt P (n + 1) = cnt P n := by rw [cnt, if_neg h]; rfl
theorem cnt_z {P : Nat → Prop} [DecidablePred P] : ∀ {n : Nat}, (∀ p, p < n → ¬ P p) → cnt P n = 0
  | 0, _ => rfl
  | n + 1, h => by rw [cnt_ns (h n (by omega))]; exact cnt_z fun p hp => h p (by omega)
theorem cnt_pos {P : Nat → Prop} [DecidablePred P] : ∀ {n : Nat}, 0 < cnt P n → ∃ p, p < n ∧ P p
  | 0, h => by cases h
  | n + 1, h => by
    by_cases c : P n
    · exact ⟨n, by omega, c⟩
    · rw [cnt_ns c] at h
      obtain ⟨p, a, b⟩ := cnt_pos h
      exact ⟨p, by omega, b⟩
theorem cnt_one {P : Nat → Prop} [DecidablePred P] : ∀ {n p : Nat}, p < n → P p → 0 < cnt P n
  | n + 1, p, hp, h => by
    by_cases e : p = n
    · subst e; rw [cnt_s h]; omega
    · have := cnt_one (n := n) (p := p) (by omega) h
      rw [cnt]; split <;> omega
theorem cnt_congr {P Q : Nat → Prop} [DecidablePred P] [DecidablePred Q] : ∀ {n : Nat}, (∀ p, p < n → (P p ↔ Q p)) → cnt P n = cnt Q n
  | 0, _ => rfl
  | n + 1, h => by
    have := cnt_congr (n := n) fun p hp => h p (by omega)
    by_cases c : P n
    · rw [cnt_s c, cnt_s ((h n (by omega)).mp c), this]
    · rw [cnt_ns c, cnt_ns fun q => c ((h n (by omega)).mpr q), this]
theorem filter_ne {R : List Rq} {o i : Nat} {r : Rq} (hn : (R.map (·.1)).Nodup) (hr : R[i]? = some r) (he : r.1 = o) : R.filter (fun r => r.1 != o) = R.eraseIdx i := by
  induction R generalizing i with
  | nil => simp at hr
  | cons a l ih =>
    rw [List.map_cons, List.nodup_cons] at hn
    cases i with
    | zero =>
      rw [List.getElem?_cons_zero] at hr
      cases hr
      rw [List.eraseIdx_cons_zero, List.filter_cons_of_neg (by simp [he])]
      apply List.filter_eq_self.mpr
      intro x hx
      have : x.1 ≠ o := fun q => hn.1 (by rw [he, ← q]; exact List.mem_map.mpr ⟨x, hx, rfl⟩)
      simpa using this
    | succ i =>
      rw [List.getElem?_cons_succ] at hr
      have : a.1 ≠ o := fun q => hn.1 (by rw [q, ← he]; exact List.mem_map.mpr ⟨r, List.mem_of_getElem? hr, rfl⟩)
      rw [List.eraseIdx_cons_succ, List.filter_cons_of_pos (by simpa using this), ih hn.2 hr]
theorem filter_no {R : List Rq} {o : Nat} (h : ∀ r ∈ R, r.1 ≠ o) : R.filter (fun r => r.1 != o) = R := List.filter_eq_self.mpr fun x hx => by simpa using h x hx
theorem quit_no {A : AS} {o : Nat} (h : ∀ r ∈ aR A, r.1 ≠ o) : quitA A o = A := by
  unfold quitA
  rw [filter_no h]
/-- an owner's place in the row, or that it has none -/
theorem row_cases (A : AS) (o : Nat) : (∃ (i : Nat) (r : Rq), (aR A)[i]? = some r ∧ r.1 = o ∧ ∀ j, j < i → ∀ r' : Rq, (aR A)[j]? = some r' → r'.1 ≠ o) ∨ ∀ r ∈ aR A, r.1 ≠ o := by
  by_cases h : ∃ r ∈ aR A, r.1 = o
  · left
    obtain ⟨r, hr, he⟩ := h
    obtain ⟨i, hi⟩ := List.getElem?_of_mem hr
    obtain ⟨k, ⟨rk, hk, ek⟩, hmin⟩ := pk_least (fun k => ∃ r : Rq, (aR A)[k]? = some r ∧ r.1 = o) ⟨i, r, hi, he⟩
    exact ⟨k, rk, hk, ek, fun j hj r' hr' e => hmin j hj ⟨r', hr', e⟩⟩
  · exact Or.inr fun r hr e => h ⟨r, hr, e⟩
theorem row_inj {A : AS} (hw : WF A) {i j : Nat} {r r' : Rq} (hi : (aR A)[i]? = some r) (hj : (aR A)[j]? = some r') (e : r.1 = r'.1) : i = j := by
  have hn := hw.2.1
  rw [List.Nodup, List.pairwise_iff_getElem] at hn
  obtain ⟨li, ei⟩ := List.getElem?_eq_some_iff.mp hi
  obtain ⟨lj, ej⟩ := List.getElem?_eq_some_iff.mp hj
  rcases Nat.lt_trichotomy i j with h | h | h
  · exact absurd (by rw [List.getElem_map, List.getElem_map, ei, ej]; exact e) (hn i j (by simpa using li) (by simpa using lj) h)
  · exact h
  · exact absurd (by rw [List.getElem_map, List.getElem_map, ei, ej]; exact e.symm) (hn j i (by simpa using lj) (by simpa using li) h)
