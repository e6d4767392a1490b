/-! The history's and the slots' states: up to nine objects beside the rest -/
abbrev Lk : Type := Nat × (Nat → Nat) × St
abbrev Mk : Type := Nat → Option Lk
def wk1 (cA : Nat → ClassId) (o : Option Lk) : va_W := match o with
  | none => []
  | some x => wL cA x.1 x.2.1 x.2.2
def wkL (cA : Nat → ClassId) (M : Mk) : List Nat → va_W
  | [] => []
  | k :: ks => wk1 cA (M k) ++ wkL cA M ks
def upM (M : Mk) (k : Nat) (x : Lk) : Mk := fun j => if j = k then some x else M j
theorem upM_s (M : Mk) (k : Nat) (x : Lk) : upM M k x k = some x := if_pos rfl
theorem upM_n (M : Mk) {k j : Nat} (x : Lk) (h : j ≠ k) : upM M k x j = M j := if_neg h
theorem upM_up (M : Mk) (k : Nat) (x y : Lk) : upM (upM M k x) k y = upM M k y := by
  funext j
  by_cases h : j = k
  · subst h; rw [upM_s, upM_s]
  · rw [upM_n _ _ h, upM_n _ _ h, upM_n _ _ h]
theorem wkL_up {cA : Nat → ClassId} {M : Mk} {k : Nat} {x : Lk} : ∀ {ks : List Nat}, k ∉ ks → wkL cA (upM M k x) ks = wkL cA M ks
  | [], _ => rfl
  | j :: ks, h => by
    rw [wkL, wkL, upM_n _ _ (fun q => h (by rw [q]; exact List.mem_cons_self)), wkL_up (fun q => h (List.mem_cons_of_mem _ q))]
theorem wkL_pm {cA : Nat → ClassId} {M : Mk} {k : Nat} : ∀ {ks : List Nat}, k ∈ ks → (wkL cA M ks).Perm (wk1 cA (M k) ++ wkL cA M (ks.erase k))
  | [], h => by cases h
  | j :: ks, h => by
    by_cases e : j = k
    · subst e
      rw [List.erase_cons_head]
      exact List.Perm.refl _
    · rw [List.erase_cons_tail (by simpa using e)]
      have h1 : k ∈ ks := (List.mem_cons.mp h).resolve_left (fun q => e q.symm)
      rw [wkL, wkL]
      exact (List.Perm.append_left _ (wkL_pm h1)).trans (List.perm_append_comm_assoc _ _ _)
/-- the rows of states and of slots, and the states -/
def gS (M : Mk) : Nat → Option Nat := fun i => if i < 7 then (M i).map (fun x => x.1) else none
def gT (M : Mk) : Nat → Option Nat := fun i => (M (7 + i)).map (fun x => x.1)
def wRs (cA : Nat → ClassId) (q : Nat → Nat) (M : Mk) : va_W := [(q 6, .inl (cA 3, 7, .inr (.inr (.inr (.inr (gS M)))))), (q 4, .inl (cA 3, 2, .inr (.inr (.inr (.inr (gT M))))))]
def wXK (cA : Nat → ClassId) (q : Nat → Nat) (σN σW σP κ : St) (M : Mk) : va_W := wX cA q σN σW σP κ (wRs cA q M ++ wkL cA M (List.range 9))
theorem rg9 {k : Nat} (hk : k < 9) : k ∈ List.range 9 := List.mem_range.mpr hk
theorem rg9e {k : Nat} : k ∉ (List.range 9).erase k := List.Nodup.not_mem_erase List.nodup_range
/-- all but the state at k and the state now -/
def wXr_K (cA : Nat → ClassId) (q : Nat → Nat) (σW σP κ : St) (M : Mk) (k : Nat) : va_W := [(q 0, .inr (3, [.ref (q 1), .ref (q 2), .ref (q 3), .ref (q 4), .ref (q 5)]))] ++ (wL cA (q 2) (fun k => q (40 + k)) σW ++ (wP cA (q 5) (fun k => q (70 + k)) σP ++ (wH cA (q 3) (fun _ => q 6) κ ++ (wRs cA q M ++ wkL cA M ((List.range 9).erase k)))))
theorem pm_a {α : Type} (a b c d e : List α) : (a ++ (b ++ (c ++ (d ++ e)))).Perm (d ++ (a ++ (b ++ (c ++ e)))) :=
  (List.Perm.append_left a ((List.Perm.append_left b (List.perm_append_comm_assoc c d e)).trans (List.perm_append_comm_assoc b d (c ++ e)))).trans (List.perm_append_comm_assoc a d (b ++ (c ++ e)))
/-- the state at k and the state now, ahead of the rest -/
theorem pm_K {cA : Nat → ClassId} {q : Nat → Nat} {σN σW σP κ : St} {M : Mk} {k : Nat} {x : Lk} (hk : k < 9) (h : M k = some x) : (wXK cA q σN σW σP κ M).Perm ((wL cA x.1 x.2.1 x.2.2 ++ wL cA (q 1) (fun k => q (10 + k)) σN) ++ wXr_K cA q σW σP κ M k) := by
  have h1 : (wkL cA M (List.range 9)).Perm (wL cA x.1 x.2.1 x.2.2 ++ wkL cA M ((List.range 9).erase k)) := by
    have := wkL_pm (cA := cA) (M := M) (rg9 hk)
    rw [h] at this
    exact this
  have h2 : (wXK cA q σN σW σP κ M).Perm (wL cA (q 1) (fun k => q (10 + k)) σN ++ wXr_N cA q σW σP κ (wRs cA q M ++ wkL cA M (List.range 9))) := pm_N cA q σN σW σP κ _
  refine h2.trans ?_
  have h3 : (wXr_N cA q σW σP κ (wRs cA q M ++ wkL cA M (List.range 9))).Perm (wL cA x.1 x.2.1 x.2.2 ++ wXr_K cA q σW σP κ M k) := by
    unfold wXr_N wXr_K
    refine (List.Perm.append_left _ (List.Perm.append_left _ (List.Perm.append_left _ (List.Perm.append_left _ ((List.Perm.append_left _ h1).trans (List.perm_append_comm_assoc _ _ _)))))).trans ?_
    exact (List.Perm.append_left _ (pm_a _ _ _ _ _)).trans (List.perm_append_comm_assoc _ _ _)
  refine (List.Perm.append_left _ h3).trans ?_
  rw [List.append_assoc]
  exact List.perm_append_comm_assoc _ _ _
theorem wRs_up {cA : Nat → ClassId} {q : Nat → Nat} {M : Mk} {k : Nat} {x y : Lk} (h : M k = some x) (e : y.1 = x.1) : wRs cA q (upM M k y) = wRs cA q M := by
  have : ∀ j, (upM M k y j).map (fun x => x.1) = (M j).map (fun x => x.1) := fun j => by
    by_cases c : j = k
    · subst c; rw [upM_s, h, Option.map_some, Option.map_some, e]
    · rw [upM_n _ _ c]
  have e1 : gS (upM M k y) = gS M := funext fun i => by unfold gS; rw [this]
  have e2 : gT (upM M k y) = gT M := funext fun i => this (7 + i)
  unfold wRs
  rw [e1, e2]
theorem wXr_K_up {cA : Nat → ClassId} {q : Nat → Nat} {σW σP κ : St} {M : Mk} {k : Nat} {x y : Lk} (h : M k = some x) (e : y.1 = x.1) : wXr_K cA q σW σP κ (upM M k y) k = wXr_K cA q σW σP κ M k := by
  unfold wXr_K
  rw [wRs_up h e, wkL_up rg9e]
/-- the same when the state at k has become another -/
theorem pm_K' {cA : Nat → ClassId} {q : Nat → Nat} {σN σW σP κ : St} {M : Mk} {k : Nat} {x : Lk} {σ' : St} (hk : k < 9) (h : M k = some x) : ((wL cA x.1 x.2.1 σ' ++ wL cA (q 1) (fun k => q (10 + k)) σN) ++ wXr_K cA q σW σP κ M k).Perm (wXK cA q σN σW σP κ (upM M k (x.1, x.2.1, σ'))) := by
  have := pm_K (cA := cA) (q := q) (σN := σN) (σW := σW) (σP := σP) (κ := κ) (M := upM M k (x.1, x.2.1, σ')) (k := k) (x := (x.1, x.2.1, σ')) hk (upM_s _ _ _)
  rw [wXr_K_up h (show (x.1, x.2.1, σ').1 = x.1 from rfl)] at this
  exact this.symm
/-- a new state, laid at k -/
theorem pm_new {cA : Nat → ClassId} {q : Nat → Nat} {σN σW σP κ : St} {M : Mk} {k : Nat} {x : Lk} (hk : k < 9) (h : M k = none) : (wL cA x.1 x.2.1 x.2.2 ++ wX cA q σN σW σP κ (wRs cA q (upM M k x) ++ wkL cA M (List.range 9))).Perm (wXK cA q σN σW σP κ (upM M k x)) := by
  have h1 : (wkL cA M (List.range 9)).Perm (wkL cA M ((List.range 9).erase k)) := by
    have := wkL_pm (cA := cA) (M := M) (rg9 hk)
    rw [h] at this
    exact this
  have h2 : (wkL cA (upM M k x) (List.range 9)).Perm (wL cA x.1 x.2.1 x.2.2 ++ wkL cA M ((List.range 9).erase k)) := by
    have := wkL_pm (cA := cA) (M := upM M k x) (rg9 hk)
    rw [upM_s, wkL_up rg9e] at this
    exact this
  have h3 : (wkL cA (upM M k x) (List.range 9)).Perm (wL cA x.1 x.2.1 x.2.2 ++ wkL cA M (List.range 9)) := h2.trans (List.Perm.append_left _ h1.symm)
  unfold wXK wX
  refine (List.perm_middle).trans (List.Perm.cons _ ?_)
  refine List.Perm.symm ?_
  refine (List.Perm.append_left _ (List.Perm.append_left _ (List.Perm.append_left _ (List.Perm.append_left _ ((List.Perm.append_left _ h3).trans (List.perm_append_comm_assoc _ _ _)))))).trans ?_
  refine (List.Perm.append_left _ (pm_a _ _ _ _ _)).trans ?_
  exact List.perm_append_comm_assoc _ _ _
theorem wRs_7 {cA : Nat → ClassId} {q : Nat → Nat} {M : Mk} {k : Nat} {x : Lk} (hk : k < 7) : wRs cA q (upM M k x) = [(q 6, .inl (cA 3, 7, .inr (.inr (.inr (.inr (va_up (gS M) k (some x.1))))))), (q 4, .inl (cA 3, 2, .inr (.inr (.inr (.inr (gT M))))))] := by
  have e1 : gS (upM M k x) = va_up (gS M) k (some x.1) := funext fun i => by
    unfold gS va_up
    by_cases c : i = k
    · subst c; rw [if_pos hk, if_pos rfl, upM_s]; rfl
    · rw [if_neg c, upM_n _ _ c]
  have e2 : gT (upM M k x) = gT M := funext fun i => by unfold gT; rw [upM_n _ _ (by omega)]
  unfold wRs
  rw [e1, e2]
theorem wRs_2 {cA : Nat → ClassId} {q : Nat → Nat} {M : Mk} {k : Nat} {x : Lk} : wRs cA q (upM M (7 + k) x) = [(q 6, .inl (cA 3, 7, .inr (.inr (.inr (.inr (gS M)))))), (q 4, .inl (cA 3, 2, .inr (.inr (.inr (.inr (va_up (gT M) k (some x.1)))))))] := by
  have e1 : gS (upM M (7 + k) x) = gS M := funext fun i => by
    unfold gS
    by_cases c : i < 7
    · rw [if_pos c, if_pos c, upM_n _ _ (by omega)]
    · rw [if_neg c, if_neg c]
  have e2 : gT (upM M (7 + k) x) = va_up (gT M) k (some x.1) := funext fun i => by
    unfold gT va_up
    by_cases c : i = k
    · subst c; rw [if_pos rfl, upM_s]; rfl
    · rw [if_neg c, upM_n _ _ (by omega)]
  unfold wRs
  rw [e1, e2]
