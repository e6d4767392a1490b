/-! The pad, on both sides -/
/-- a pad's text, as codes -/
def TW (T : List Nat) : Prop := T.length ≤ 80 ∧ ∀ c ∈ T, 33 ≤ c ∧ c ≤ 126
def RepPL (σ : St) (T : List Nat) : Prop := σ 1 0 = nI T.length ∧ ∀ i c, T[i]? = some c → σ 0 i = nI c
def RepPM (σ : St) (T : List Nat) : Prop := σ 8 0 = nI T.length ∧ ∀ i c, T[i]? = some c → σ 7 i = nI c
/-- the code at a position, 0 behind the text -/
def cd (T : List Nat) (p : Nat) : Nat := (T[p]?).getD 0
theorem cd_in {T : List Nat} {p : Nat} (h : p < T.length) : T[p]? = some (cd T p) := by
  unfold cd
  rw [List.getElem?_eq_getElem h]
  rfl
theorem cd_out {T : List Nat} {p : Nat} (h : T.length ≤ p) : cd T p = 0 := by
  unfold cd
  rw [List.getElem?_eq_none h]
  rfl
theorem cd_lt {T : List Nat} (hT : TW T) (p : Nat) : cd T p ≤ 126 := by
  rcases Nat.lt_or_ge p T.length with h | h
  · exact (hT.2 _ (List.mem_of_getElem? (cd_in h))).2
  · rw [cd_out h]; omega
theorem cd_ge {T : List Nat} (hT : TW T) {p : Nat} (h : p < T.length) : 33 ≤ cd T p := (hT.2 _ (List.mem_of_getElem? (cd_in h))).1
section PD
variable {σ : St} {T : List Nat}
theorem chr_ok {n : Nat} (h : n < 65536) : ((nI n).toUInt32 % 65536).toInt32 = nI n := by
  rw [pk_char, pk_tn (by omega), Nat.mod_eq_of_lt h]
theorem signL_eq (h : RepPL σ T) (hT : TW T) {p : Nat} (hp : σ 2 0 = nI p) (hp2 : p < 1000) : fX2_sign σ = some (nI (cd T p)) := by
  have hl := hT.1
  have hc := cd_lt hT p
  unfold fX2_sign
  rw [hp, if_neg (nI_pos (by omega)), h.1]
  by_cases c : p < T.length
  · have e := h.2 p _ (cd_in c)
    rw [if_neg (fun q => absurd ((nI_leI (by omega) (by omega)).mp q) (by omega)), ax_nI (by omega) (by omega), nI_cl (by omega), e]
    exact gd_t (chr_ok (by omega))
  · rw [if_pos ((nI_leI (by omega) (by omega)).mpr (by omega)), cd_out (by omega)]
    rfl
theorem nextM_eq (h : RepPM σ T) (hT : TW T) {p : Nat} (hp : σ 11 0 = nI p) (hp2 : p < 1000) : fX4_next σ = some (nI (cd T p)) := by
  have hl := hT.1
  unfold fX4_next
  rw [hp, h.1]
  by_cases c : p < T.length
  · have e := h.2 p _ (cd_in c)
    rw [if_neg (fun q => absurd ((nI_leI (by omega) (by omega)).mp q) (by omega)), ax_nI (by omega) (by omega), nI_cl (by omega), e]
  · rw [if_pos ((nI_leI (by omega) (by omega)).mpr (by omega)), cd_out (by omega)]
    rfl
/-- a digit's value -/
theorem digitL_eq (h : RepPL σ T) (hT : TW T) {p : Nat} (hp : σ 2 0 = nI p) (hp2 : p < 1000) : fX2_digit σ = some (if 48 ≤ cd T p ∧ cd T p ≤ 57 then nI (cd T p - 48) else -1) := by
  have hc := cd_lt hT p
  unfold fX2_digit
  rw [signL_eq h hT hp hp2, bnd_s]
  by_cases c : 48 ≤ cd T p
  · rw [if_neg (show ¬ nI (cd T p) < 48 from fun q => absurd ((nI_ltI (b := 48) (by omega) (by omega)).mp q) (by omega))]
    by_cases c2 : cd T p ≤ 57
    · rw [if_neg (show ¬ 57 < nI (cd T p) from fun q => absurd ((nI_ltI (a := 57) (by omega) (by omega)).mp q) (by omega)), if_pos ⟨c, c2⟩]
      exact congrArg some (nI_sb c)
    · rw [if_pos (show 57 < nI (cd T p) from (nI_ltI (a := 57) (by omega) (by omega)).mpr (by omega)), if_neg (fun q => c2 q.2)]
  · rw [if_pos (show nI (cd T p) < 48 from (nI_ltI (b := 48) (by omega) (by omega)).mpr (by omega)), if_neg (fun q => c q.1)]
theorem eraseL_eq (h : RepPL σ T) : ∃ σ', fX2_erase σ = some (nI T.length, σ') ∧ RepPL σ' [] := by
  refine ⟨put σ 1 (fun _ => 0), ?_, rfl, fun i c q => by cases q⟩
  unfold fX2_erase
  simp only [nm]
  rw [h.1]
theorem wipeM_eq (h : RepPM σ T) : ∃ σ', fX4_wipe σ = some (nI T.length, σ') ∧ RepPM σ' [] ∧ ∀ c, c ≠ 8 → σ' c = σ c := by
  refine ⟨put σ 8 (fun _ => 0), ?_, ⟨rfl, fun i c q => by cases q⟩, fun c hc => put_n _ _ hc⟩
  unfold fX4_wipe
  simp only [nm]
  rw [h.1]
end PD
