/-! The mathematical state that both sides hold -/
/-- a request in the row: its owner, kind, from, to, the ticks it has waited -/
abbrev Rq : Type := Nat × Nat × Nat × Nat × Int32
/-- kinds by owner and place; the row; counters by owner (0 given, 1 begun, 2 given up, 3 longest wait); 0 tick, 1 gone, 2 breaks, 3 FAIR, 4 BREAK, 5 PATIENCE -/
abbrev AS : Type := (Nat → Nat → Nat) × List Rq × (Nat → Nat → Int32) × (Nat → Int32)
abbrev aK (A : AS) : Nat → Nat → Nat := A.1
abbrev aR (A : AS) : List Rq := A.2.1
abbrev aC (A : AS) : Nat → Nat → Int32 := A.2.2.1
abbrev aG (A : AS) : Nat → Int32 := A.2.2.2
def WF (A : AS) : Prop := (∀ o p, o < 8 → p < 300 → aK A o p ≤ 3) ∧ ((aR A).map (·.1)).Nodup ∧ (∀ r ∈ aR A, r.1 < 8 ∧ 1 ≤ r.2.1 ∧ r.2.1 ≤ 3 ∧ r.2.2.1 < r.2.2.2.1 ∧ r.2.2.2.1 ≤ 300) ∧ (aG A 3 = 0 ∨ aG A 3 = 1) ∧ (aG A 4 = 0 ∨ aG A 4 = 1) ∧ 0 ≤ aG A 5 ∧ aG A 5 ≤ 200
/-- the class's state of locks holds A -/
def RepL (σ : St) (A : AS) : Prop :=
  (σ 1 0 = aG A 0 ∧ σ 13 0 = aG A 1 ∧ σ 14 0 = aG A 2 ∧ σ 0 0 = aG A 3 ∧ σ 0 1 = aG A 4 ∧ σ 0 2 = aG A 5 ∧ σ 4 0 = nI (aR A).length) ∧
  (∀ i r, (aR A)[i]? = some r → σ 3 i = nI r.1 ∧ σ 5 r.1 = nI r.2.1 ∧ σ 6 r.1 = nI r.2.2.1 ∧ σ 7 r.1 = nI r.2.2.2.1 ∧ σ 8 r.1 = r.2.2.2.2) ∧
  (∀ o, o < 8 → (∀ r ∈ aR A, r.1 ≠ o) → σ 5 o = 0) ∧
  (∀ o, o < 8 → σ 9 o = aC A o 0 ∧ σ 10 o = aC A o 1 ∧ σ 11 o = aC A o 2 ∧ σ 12 o = aC A o 3) ∧
  ∀ k p, 1 ≤ k → k ≤ 3 → p < 300 → isM (σ (16 + k) p) (fun x => x < 8 ∧ k ≤ aK A x p)
/-- the reference's row of numbers holds A -/
def RepM (a : Nat → Int32) (A : AS) : Prop :=
  (a 0 = aG A 0 ∧ a 5 = aG A 1 ∧ a 6 = aG A 2 ∧ a 2 = aG A 3 ∧ a 3 = aG A 4 ∧ a 4 = aG A 5 ∧ a 1 = nI (aR A).length) ∧
  (∀ i r, (aR A)[i]? = some r → a (8 + i) = nI r.1 ∧ a (16 + 9 * r.1) = nI r.2.1 ∧ a (16 + 9 * r.1 + 1) = nI r.2.2.1 ∧ a (16 + 9 * r.1 + 2) = nI r.2.2.2.1 ∧ a (16 + 9 * r.1 + 3) = r.2.2.2.2) ∧
  (∀ o, o < 8 → (∀ r ∈ aR A, r.1 ≠ o) → a (16 + 9 * o) = 0) ∧
  (∀ o, o < 8 → a (16 + 9 * o + 4) = aC A o 0 ∧ a (16 + 9 * o + 5) = aC A o 1 ∧ a (16 + 9 * o + 6) = aC A o 2 ∧ a (16 + 9 * o + 7) = aC A o 3) ∧
  ∀ o p, o < 8 → p < 300 → a (88 + 300 * o + p) = nI (aK A o p)
theorem WF.len {A : AS} (h : WF A) : (aR A).length ≤ 8 := by
  have h1 := h.2.1
  have h2 : ∀ x ∈ (aR A).map (·.1), x ∈ List.range 8 := fun x hx => by
    obtain ⟨r, hr, rfl⟩ := List.mem_map.mp hx
    exact List.mem_range.mpr (h.2.2.1 r hr).1
  have h3 := List.Nodup.length_le_of_subset h1 h2
  simpa using h3
/-- those in the way of a kind of an owner at a place: by locks, and by the first n requests of the row -/
def blk (A : AS) (o k p n x : Nat) : Prop := x < 8 ∧ x ≠ o ∧ (4 ≤ k + aK A x p ∨ (aG A 3 = 1 ∧ ∃ r ∈ (aR A).take n, r.1 = x ∧ r.2.2.1 ≤ p ∧ p < r.2.2.2.1 ∧ 4 ≤ k + r.2.1))
/-- for whom a request would wait behind the first n of the row -/
def stp (A : AS) (o k f t n x : Nat) : Prop := ∃ p, f ≤ p ∧ p < t ∧ aK A o p < k ∧ blk A o k p n x
/-- for whom the i-th request of the row waits -/
def wts (A : AS) (i x : Nat) : Prop := ∃ r, (aR A)[i]? = some r ∧ stp A r.1 r.2.1 r.2.2.1 r.2.2.2.1 i x
/-- the i-th request can be given -/
def frr (A : AS) (i : Nat) : Prop := ∀ x, ¬ wts A i x
def giveK (A : AS) (o k f t : Nat) : AS := (fun x p => if x = o ∧ f ≤ p ∧ p < t then k else aK A x p, aR A, fun x w => if x = o ∧ w = 0 then aC A x w + 1 else aC A x w, aG A)
def quitA (A : AS) (o : Nat) : AS := (aK A, (aR A).filter (fun r => r.1 != o), aC A, aG A)
def joinA (A : AS) (o k f t : Nat) : AS := (aK A, aR A ++ [(o, k, f, t, 0)], aC A, aG A)
def freeA (A : AS) (o f t : Nat) : AS := (fun x p => if x = o ∧ f ≤ p ∧ p < t then 0 else aK A x p, aR A, aC A, aG A)
def longA (A : AS) (o : Nat) (w : Int32) : AS := (aK A, aR A, fun x j => if x = o ∧ j = 3 then (if aC A x j < w then w else aC A x j) else aC A x j, aG A)
def cntA (A : AS) (o j : Nat) (n : Int32) : AS := (aK A, aR A, fun x w => if x = o ∧ w = j then aC A x w + n else aC A x w, aG A)
def glbA (A : AS) (j : Nat) (v : Int32) : AS := (aK A, aR A, aC A, fun w => if w = j then v else aG A w)
/-- a request of the row is given -/
def givA (A : AS) (r : Rq) : AS := quitA (longA (giveK A r.1 r.2.1 r.2.2.1 r.2.2.2.1) r.1 r.2.2.2.2) r.1
