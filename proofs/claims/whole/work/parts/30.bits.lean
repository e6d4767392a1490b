/-! Sets of owners as bit masks -/
def bt (v : Int32) (i : Nat) : Bool := v.toBitVec.getLsbD i
theorem bt_ext {a b : Int32} (h : ∀ i, i < 32 → bt a i = bt b i) : a = b := Int32.toBitVec_inj.1 (BitVec.eq_of_getLsbD_eq h)
theorem bt_or (a b : Int32) (i : Nat) : bt (a ||| b) i = (bt a i || bt b i) := by unfold bt; rw [Int32.toBitVec_or, BitVec.getLsbD_or]
theorem bt_and (a b : Int32) (i : Nat) : bt (a &&& b) i = (bt a i && bt b i) := by unfold bt; rw [Int32.toBitVec_and, BitVec.getLsbD_and]
theorem bt_not (a : Int32) {i : Nat} (h : i < 32) : bt (a ^^^ (-1 : Int32)) i = !bt a i := by
  unfold bt
  rw [Int32.toBitVec_xor, BitVec.getLsbD_xor]
  have : (-1 : Int32).toBitVec.getLsbD i = true := by
    rw [show (-1 : Int32).toBitVec = BitVec.allOnes 32 from rfl, BitVec.getLsbD_allOnes]
    exact decide_eq_true h
  rw [this, Bool.xor_true]
theorem bt_0 (i : Nat) : bt 0 i = false := by unfold bt; simp
theorem o8 {P : Nat → Prop} (h : ∀ k : Fin 8, P k.val) {x : Nat} (hx : x < 8) : P x := h ⟨x, hx⟩
theorem bt_1 {x : Nat} (hx : x < 8) {i : Nat} (hi : i < 32) : bt ((1 : Int32) <<< (nI x &&& 31)) i = decide (i = x) := by
  have h : ∀ (x : Fin 8) (i : Fin 32), bt ((1 : Int32) <<< (nI x.val &&& 31)) i.val = decide (i.val = x.val) := by decide +kernel
  exact h ⟨x, hx⟩ ⟨i, hi⟩
/-- a set's bit as the number 0 or 1 -/
theorem bt_get {x : Nat} (hx : x < 8) (v : Int32) : (v >>> (nI x &&& 31)) &&& 1 = if bt v x then 1 else 0 := by
  have h1 : ∀ x : Fin 8, ((nI x.val &&& 31).toBitVec.smod 32).toNat = x.val := by decide +kernel
  have e1 := h1 ⟨x, hx⟩
  have e0 : ∀ i : Fin 32, bt (1 : Int32) i.val = decide (i.val = 0) := by decide +kernel
  apply bt_ext
  intro i hi
  rw [bt_and, e0 ⟨i, hi⟩]
  by_cases h0 : i = 0
  · subst h0
    have e2 : bt (v >>> (nI x &&& 31)) 0 = bt v x := by
      unfold bt
      rw [Int32.toBitVec_shiftRight, BitVec.sshiftRight_eq', show ((nI x &&& 31).toBitVec.smod 32).toNat = x from e1, BitVec.getLsbD_sshiftRight]
      rw [if_pos (by omega)]
      simp
    rw [e2]
    cases bt v x <;> simp [bt]
  · have : decide (i = 0) = false := decide_eq_false h0
    simp only [this, Bool.and_false]
    cases bt v x
    · simp [bt]
    · have := e0 ⟨i, hi⟩
      simp only at this
      rw [if_pos rfl, this]
      simp [h0]
theorem bt_has1 {x : Nat} (hx : x < 8) (v : Int32) : (v >>> (nI x &&& 31)) &&& 1 = 1 ↔ bt v x = true := by
  rw [bt_get hx]; cases bt v x <;> simp
theorem bt_has0 {x : Nat} (hx : x < 8) (v : Int32) : (v >>> (nI x &&& 31)) &&& 1 = 0 ↔ bt v x = false := by
  rw [bt_get hx]; cases bt v x <;> simp
/-- a set and the set of one owner -/
theorem bt_one0 {x : Nat} (hx : x < 8) (v : Int32) : v &&& ((1 : Int32) <<< (nI x &&& 31)) = 0 ↔ bt v x = false := by
  constructor
  · intro h
    have := congrArg (fun z => bt z x) h
    simp only [bt_and, bt_0] at this
    rw [bt_1 hx (by omega)] at this
    simpa using this
  · intro h
    apply bt_ext
    intro i hi
    rw [bt_and, bt_1 hx hi, bt_0]
    by_cases e : i = x
    · subst e; simp [h]
    · simp [e]
/-- r is the set of those with P -/
def isM (r : Int32) (P : Nat → Prop) : Prop := ∀ i, i < 32 → (bt r i = true ↔ P i)
theorem isM_eq {r r' : Int32} {P : Nat → Prop} (h : isM r P) (h' : isM r' P) : r = r' := bt_ext fun i hi => by
  have a := h i hi
  have b := h' i hi
  by_cases p : P i
  · rw [a.mpr p, b.mpr p]
  · rw [Bool.eq_false_iff.mpr fun q => p (a.mp q), Bool.eq_false_iff.mpr fun q => p (b.mp q)]
theorem isM_0 {P : Nat → Prop} (h : ∀ i, i < 32 → ¬ P i) : isM 0 P := fun i hi => by
  rw [bt_0]
  exact ⟨fun q => (Bool.false_ne_true q).elim, fun q => absurd q (h i hi)⟩
theorem isM_z {r : Int32} {P : Nat → Prop} (h : isM r P) : r = 0 ↔ ∀ i, i < 32 → ¬ P i := by
  constructor
  · intro e i hi p
    have := (h i hi).mpr p
    rw [e, bt_0] at this
    cases this
  · intro q
    exact isM_eq h (isM_0 q)
theorem isM_congr {r : Int32} {P Q : Nat → Prop} (h : isM r P) (e : ∀ i, i < 32 → (P i ↔ Q i)) : isM r Q := fun i hi => (h i hi).trans (e i hi)
theorem isM_or {r r' : Int32} {P Q : Nat → Prop} (h : isM r P) (h' : isM r' Q) : isM (r ||| r') (fun i => P i ∨ Q i) := fun i hi => by
  rw [bt_or, Bool.or_eq_true]
  exact or_congr (h i hi) (h' i hi)
theorem isM_1 {x : Nat} (hx : x < 8) : isM ((1 : Int32) <<< (nI x &&& 31)) (fun i => i = x) := fun i hi => by
  rw [bt_1 hx hi, decide_eq_true_eq]
theorem isM_bt (r : Int32) : isM r (fun i => bt r i = true) := fun _ _ => Iff.rfl
theorem isM_andnot {r : Int32} {P : Nat → Prop} {x : Nat} (hx : x < 8) (h : isM r P) : isM (r &&& (((1 : Int32) <<< (nI x &&& 31)) ^^^ (-1 : Int32))) (fun i => P i ∧ i ≠ x) := fun i hi => by
  rw [bt_and, bt_not _ hi, bt_1 hx hi, Bool.and_eq_true, Bool.not_eq_true', decide_eq_false_iff_not]
  exact and_congr (h i hi) Iff.rfl
/-- loops whose counter goes up -/
theorem lp_for {L E : Type} {b : L → Option (L ⊕ E)} (I : Nat → L → Prop) (Z : E → Prop) {n : Nat} (hs : ∀ j s, j < n → I j s → ∃ s', b s = some (.inl s') ∧ I (j + 1) s') (hx : ∀ s, I n s → ∃ e, b s = some (.inr e) ∧ Z e) : ∀ (k i : Nat) (s : L), i + k = n → I i s → ∀ fu, k < fu → ∃ e, lp b fu s = some e ∧ Z e
  | 0, i, s, hi, h, fu + 1, _ => by
    obtain rfl : i = n := by omega
    obtain ⟨e, he, hz⟩ := hx s h
    exact ⟨e, by rw [lp, he], hz⟩
  | k + 1, i, s, hi, h, fu + 1, hf => by
    obtain ⟨s', he, h'⟩ := hs i s (by omega) h
    obtain ⟨e, h1, h2⟩ := lp_for I Z hs hx k (i + 1) s' (by omega) h' fu (by omega)
    exact ⟨e, by rw [lp, he]; exact h1, h2⟩
/-- loops that may end before: at each round the loop goes on, or ends as Z says -/
theorem lp_brk {L E : Type} {b : L → Option (L ⊕ E)} (I : Nat → L → Prop) (Z : E → Prop) {n : Nat} (hs : ∀ j s, j < n → I j s → (∃ s', b s = some (.inl s') ∧ I (j + 1) s') ∨ ∃ e, b s = some (.inr e) ∧ Z e) (hx : ∀ s, I n s → ∃ e, b s = some (.inr e) ∧ Z e) : ∀ (k i : Nat) (s : L), i + k = n → I i s → ∀ fu, k < fu → ∃ e, lp b fu s = some e ∧ Z e
  | 0, i, s, hi, h, fu + 1, _ => by
    obtain rfl : i = n := by omega
    obtain ⟨e, he, hz⟩ := hx s h
    exact ⟨e, by rw [lp, he], hz⟩
  | k + 1, i, s, hi, h, fu + 1, hf => by
    rcases hs i s (by omega) h with ⟨s', he, h'⟩ | ⟨e, he, hz⟩
    · obtain ⟨e, h1, h2⟩ := lp_brk I Z hs hx k (i + 1) s' (by omega) h' fu (by omega)
      exact ⟨e, by rw [lp, he]; exact h1, h2⟩
    · exact ⟨e, by rw [lp, he], hz⟩
