/-! Typing signs: both sides -/
/-- a long, by its 64 bits as a number -/
def dO (u : Nat) : Int64 := Int64.ofNat u
theorem dO_all (a : Int64) : ∃ u, u < 2 ^ 64 ∧ a = dO u := ⟨a.toUInt64.toNat, a.toUInt64.toNat_lt, by
  show a = (UInt64.ofNat a.toUInt64.toNat).toInt64
  rw [UInt64.ofNat_toNat]
  rfl⟩
theorem dO_and (u : Nat) : dO u &&& (255 : Int64) = dO (u % 256) := by
  apply Int64.toBitVec_inj.1
  rw [Int64.toBitVec_and]
  show BitVec.ofNat 64 u &&& BitVec.ofNat 64 255 = BitVec.ofNat 64 (u % 256)
  apply BitVec.eq_of_toNat_eq
  rw [BitVec.toNat_and, BitVec.toNat_ofNat, BitVec.toNat_ofNat, BitVec.toNat_ofNat]
  show (u % 2 ^ 64) &&& (2 ^ 8 - 1) = u % 256 % 2 ^ 64
  rw [Nat.and_two_pow_sub_one_eq_mod]
  omega
theorem dO_shr {u : Nat} (h : u < 2 ^ 64) : ((dO u : Int64).toUInt64 >>> (((8 : Int32) : Int32).toInt64.toUInt64 &&& Int64.toUInt64 63)).toInt64 = dO (u / 256) := by
  have hk : (((8 : Int32) : Int32).toInt64.toUInt64 &&& Int64.toUInt64 63) = (8 : UInt64) := by decide
  rw [hk]
  have e : (UInt64.ofNat u) >>> (8 : UInt64) = UInt64.ofNat (u / 256) := by
    apply UInt64.toNat_inj.1
    rw [UInt64.toNat_shiftRight, UInt64.toNat_ofNat', UInt64.toNat_ofNat', Nat.mod_eq_of_lt h]
    show u >>> 8 = u / 256 % 2 ^ 64
    exact (Nat.shiftRight_eq_div_pow u 8).trans (Nat.mod_eq_of_lt (show u / 256 < 2 ^ 64 by omega)).symm
  exact congrArg UInt64.toInt64 e
theorem dO_inj {u v : Nat} (hu : u < 2 ^ 64) (hv : v < 2 ^ 64) : dO u = dO v ↔ u = v := by
  constructor
  · intro h
    have h2 : UInt64.ofNat u = UInt64.ofNat v := congrArg Int64.toUInt64 h
    have h3 := congrArg UInt64.toNat h2
    rw [UInt64.toNat_ofNat', UInt64.toNat_ofNat', Nat.mod_eq_of_lt hu, Nat.mod_eq_of_lt hv] at h3
    exact h3
  · intro h; rw [h]
theorem lgc0 (x y : Int64) : lg_cmp x y = 0 ↔ x = y := by
  unfold lg_cmp
  by_cases h : x > y
  · rw [if_pos h]
    exact ⟨fun q => absurd q (by decide), fun q => absurd h (by rw [q]; exact Int64.lt_irrefl)⟩
  · rw [if_neg h]
    by_cases h2 : x = y
    · rw [if_pos h2]; exact ⟨fun _ => h2, fun _ => rfl⟩
    · rw [if_neg h2]; exact ⟨fun q => absurd q (by decide), fun q => absurd q h2⟩
theorem dO_lo : ∀ w : Fin 256, (lg_cmp (dO w.val) 33 < 0 ↔ w.val < 33) ∧ (lg_cmp (dO w.val) 126 ≤ 0 ↔ w.val ≤ 126) ∧ (dO w.val).toInt32 = nI w.val ∧ ((((dO w.val).toInt32).toUInt32 % 65536).toInt32 = nI w.val) := by decide +kernel
theorem nar_c {w : Nat} (h : w < 256) : vp_nar .char (nI w) = nI w := by
  have : ∀ w : Fin 256, vp_nar .char (nI w.val) = nI w.val := by decide +kernel
  exact this ⟨w, h⟩
def byt (X j : Nat) : Nat := X / 2 ^ (8 * j) % 256
theorem byt_lt (X j : Nat) : byt X j < 256 := Nat.mod_lt _ (by decide)
theorem qw_s (X j : Nat) : X / 2 ^ (8 * j) / 256 = X / 2 ^ (8 * (j + 1)) := by
  rw [Nat.div_div_eq_div_mul, show (256 : Nat) = 2 ^ 8 from rfl, ← Nat.pow_add]
  rfl
theorem qw_lt {X : Nat} (h : X < 2 ^ 64) (j : Nat) : X / 2 ^ (8 * j) < 2 ^ 64 := Nat.lt_of_le_of_lt (Nat.div_le_self _ _) h
theorem dO_sar {X j : Nat} (hX : X < 2 ^ 64) (hj : j < 8) : (dO X >>> (((nI (8 * j) : Int32).toInt64 &&& 63))) &&& (255 : Int64) = dO (byt X j) := by
  have hk : ∀ j : Fin 8, ((((nI (8 * j.val) : Int32).toInt64 &&& 63)).toBitVec.smod 64).toNat = 8 * j.val := by decide +kernel
  have hk := hk ⟨j, hj⟩
  have hm : ∀ i : Fin 64, (255#64).getLsbD i.val = decide (i.val < 8) := by decide +kernel
  apply Int64.toBitVec_inj.1
  rw [Int64.toBitVec_and, Int64.toBitVec_shiftRight, BitVec.sshiftRight_eq', show ((((nI (8 * j) : Int32).toInt64 &&& 63)).toBitVec.smod 64).toNat = 8 * j from hk]
  show (BitVec.ofNat 64 X).sshiftRight (8 * j) &&& 255#64 = BitVec.ofNat 64 (byt X j)
  apply BitVec.eq_of_getLsbD_eq
  intro i hi
  rw [BitVec.getLsbD_and, BitVec.getLsbD_sshiftRight, show (255#64).getLsbD i = decide (i < 8) from hm ⟨i, hi⟩, BitVec.getLsbD_ofNat, BitVec.getLsbD_ofNat]
  unfold byt
  rw [show (256 : Nat) = 2 ^ 8 from rfl, Nat.testBit_mod_two_pow, Nat.testBit_div_two_pow]
  by_cases c : i < 8
  · have e1 : decide (64 ≤ i) = false := decide_eq_false (by omega)
    have e2 : decide (i < 8) = true := decide_eq_true c
    have e3 : decide (i < 64) = true := decide_eq_true hi
    have e4 : decide (8 * j + i < 64) = true := decide_eq_true (by omega)
    rw [if_pos (by omega), e1, e2, e3, e4, Nat.add_comm i (8 * j)]
    simp
  · have e2 : decide (i < 8) = false := decide_eq_false c
    rw [e2]
    simp
theorem lp_d {L E : Type} {b : L → Option (L ⊕ E)} (f : Nat → L) {k : Nat} (h : ∀ j, j < k → b (f j) = some (.inl (f (j + 1)))) : ∀ (d j fu : Nat), j + d = k → lp b (fu + d) (f j) = lp b fu (f k)
  | 0, j, fu, e => by rw [show j = k by omega]; rfl
  | d + 1, j, fu, e => by
    rw [← Nat.add_assoc, lp_st (h j (by omega))]
    exact lp_d f h d (j + 1) fu (by omega)
/-- how many signs a long holds, if it holds some and nothing else -/
def okB (X m : Nat) : Prop := 1 ≤ m ∧ m ≤ 8 ∧ (∀ t, t < m → 33 ≤ byt X t ∧ byt X t ≤ 126) ∧ X / 2 ^ (8 * m) = 0
section PU
variable {σ : St} {T : List Nat} {X : Nat}
theorem tyGo {k j m : Nat} (hX : X < 2 ^ 64) (hj : j < 8) (hm : m < 100) (h1 : 33 ≤ byt X j) (h2 : byt X j ≤ 126) : bX2_type_8 σ (nI j) (dO (X / 2 ^ (8 * j))) (nI j) = some (.inl (nI (j + 1), dO (X / 2 ^ (8 * (j + 1))), nI (j + 1))) := by
  have hp := qw_lt hX j
  have h0 : X / 2 ^ (8 * j) ≠ 0 := fun q => by
    have : byt X j = 0 := by unfold byt; rw [q]
    omega
  obtain ⟨c1, c2, -, -⟩ := dO_lo ⟨byt X j, byt_lt X j⟩
  have hb : X / 2 ^ (8 * j) % 256 = byt X j := rfl
  unfold bX2_type_8
  rw [if_neg (show ¬ (8 : Int32) ≤ nI j from fun w => absurd ((nI_leI (a := 8) (by omega) (by omega)).mp w) (by omega)), if_neg (show ¬ lg_cmp (dO (X / 2 ^ (8 * j))) 0 = 0 from fun w => h0 ((dO_inj (v := 0) hp (by omega)).mp ((lgc0 _ _).mp w)))]
  simp only [nm]
  rw [dO_and, hb, if_neg (fun w => absurd (c1.mp w) (by simp only; omega)), if_pos (c2.mpr h2), dO_shr hp, qw_s, l1, nI_add]
theorem tyM_go {j : Nat} (hX : X < 2 ^ 64) (hj : j < 8) (h1 : 33 ≤ byt X j) (h2 : byt X j ≤ 126) : bX4_put_5 σ (nI j) (dO (X / 2 ^ (8 * j))) = some (.inl (nI (j + 1), dO (X / 2 ^ (8 * (j + 1))))) := by
  have hp := qw_lt hX j
  obtain ⟨-, -, c3, -⟩ := dO_lo ⟨byt X j, byt_lt X j⟩
  have c3 : (dO (byt X j)).toInt32 = nI (byt X j) := c3
  have hb : X / 2 ^ (8 * j) % 256 = byt X j := rfl
  have hl := byt_lt X j
  unfold bX4_put_5
  rw [if_neg (show ¬ (8 : Int32) ≤ nI j from fun w => absurd ((nI_leI (a := 8) (by omega) (by omega)).mp w) (by omega)), dO_and, hb, if_neg (show ¬ lg_cmp (dO (byt X j)) 0 = 0 from fun w => absurd ((dO_inj (v := 0) (by omega) (by omega)).mp ((lgc0 _ _).mp w)) (by omega)), c3, show fX4_in (nI (byt X j)) 33 126 = _ from inM_eq (v := byt X j) (lo := 33) (hi := 126) (by omega) (by omega) (by omega), if_pos ⟨h1, h2⟩, bnd_s, if_neg n1_0]
  simp only [nm]
  rw [dO_shr hp, qw_s, l1, nI_add]
/-- the signs that are put behind the text -/
def sgn (X m : Nat) : List Nat := (List.range m).map (fun k => byt X (m - 1 - k))
theorem sgn_at {m k : Nat} (h : k < m) : (sgn X m)[k]? = some (byt X (m - 1 - k)) := by
  unfold sgn
  rw [List.getElem?_map, List.getElem?_range h]
  rfl
theorem sgn_len (m : Nat) : (sgn X m).length = m := by unfold sgn; rw [List.length_map, List.length_range]
theorem app_at {m i c : Nat} (h : (T ++ sgn X m)[i]? = some c) : (i < T.length ∧ T[i]? = some c) ∨ (T.length ≤ i ∧ i < T.length + m ∧ c = byt X (m - 1 - (i - T.length))) := by
  by_cases hi : i < T.length
  · rw [List.getElem?_append_left hi] at h
    exact Or.inl ⟨hi, h⟩
  · rw [List.getElem?_append_right (by omega)] at h
    have hl := (List.getElem?_eq_some_iff.mp h).1
    rw [sgn_len] at hl
    rw [sgn_at hl] at h
    cases h
    exact Or.inr ⟨by omega, by omega, rfl⟩
theorem TW_app {m : Nat} (hT : TW T) (hm : T.length + m ≤ 80) (ho : okB X m) : TW (T ++ sgn X m) := by
  refine ⟨by rw [List.length_append, sgn_len]; exact hm, fun c hc => ?_⟩
  rcases List.mem_append.mp hc with h | h
  · exact hT.2 c h
  · unfold sgn at h
    obtain ⟨k, hk, rfl⟩ := List.mem_map.mp h
    have hk := List.mem_range.mp hk
    exact ho.2.2.1 _ (by omega)
theorem ty_st {x : Int64} {y : Int32} {s : St} {z : Int64 × Int32 × St} {n : Nat} (h : bX2_type_101 x y s = some (.inl z)) : lp (fun t : (Int64 × Int32 × St) => bX2_type_101 t.1 t.2.1 t.2.2) (n + 1) (x, y, s) = lp (fun t : (Int64 × Int32 × St) => bX2_type_101 t.1 t.2.1 t.2.2) n z := lp_st (b := (fun t : (Int64 × Int32 × St) => bX2_type_101 t.1 t.2.1 t.2.2)) (s := (x, y, s)) h
theorem ty_en {x : Int64} {y : Int32} {s : St} {e : Int64 × Int32 × St} {n : Nat} (h : bX2_type_101 x y s = some (.inr e)) : lp (fun t : (Int64 × Int32 × St) => bX2_type_101 t.1 t.2.1 t.2.2) (n + 1) (x, y, s) = some e := lp_en (b := (fun t : (Int64 × Int32 × St) => bX2_type_101 t.1 t.2.1 t.2.2)) (s := (x, y, s)) h
theorem t8_en {σ : St} {x : Int32} {y : Int64} {z : Int32} {e : (Int32 × Int64 × Int32) ⊕ (Int32 × St)} {n : Nat} (h : bX2_type_8 σ x y z = some (.inr e)) : lp (fun t : (Int32 × Int64 × Int32) => bX2_type_8 σ t.1 t.2.1 t.2.2) (n + 1) (x, y, z) = some e := lp_en (b := (fun t : (Int32 × Int64 × Int32) => bX2_type_8 σ t.1 t.2.1 t.2.2)) (s := (x, y, z)) h
theorem t5_en {σ : St} {x : Int32} {y : Int64} {e : (Int32 × Int64) ⊕ (Int32 × St)} {n : Nat} (h : bX4_put_5 σ x y = some (.inr e)) : lp (fun t : (Int32 × Int64) => bX4_put_5 σ t.1 t.2) (n + 1) (x, y) = some e := lp_en (b := (fun t : (Int32 × Int64) => bX4_put_5 σ t.1 t.2)) (s := (x, y)) h
/-- the class lays them from the last on -/
theorem tyLay (hX : X < 2 ^ 64) {m n : Nat} (hm : m ≤ 8) (hn : n + m ≤ 80) (h1 : σ 1 0 = nI n) : ∀ (d : Nat) (s : St), d ≤ m → (∀ c, c ≠ 0 → s c = σ c) → (∀ i, i < n → s 0 i = σ 0 i) → (∀ i, n + d ≤ i → i < n + m → s 0 i = nI (byt X (m - 1 - (i - n)))) → ∀ fu, d < fu → ∃ e, lp (fun t : (Int64 × Int32 × St) => bX2_type_101 t.1 t.2.1 t.2.2) fu (dO (X / 2 ^ (8 * (m - d))), nI (n + d) - 1, s) = some e ∧ (∀ c, c ≠ 0 → e.2.2 c = σ c) ∧ (∀ i, i < n → e.2.2 0 i = σ 0 i) ∧ ∀ i, n ≤ i → i < n + m → e.2.2 0 i = nI (byt X (m - 1 - (i - n)))
  | 0, s, hd, hk, hlo, hhi, fu, hf => by
    obtain ⟨fu, rfl⟩ : ∃ z, fu = z + 1 := ⟨fu - 1, by omega⟩
    have hb : bX2_type_101 (dO (X / 2 ^ (8 * (m - 0)))) (nI (n + 0) - 1) s = some (.inr (dO (X / 2 ^ (8 * (m - 0))), nI (n + 0) - 1, s)) := by
      unfold bX2_type_101
      rw [hk 1 (by omega), h1, if_pos]
      by_cases h0 : n = 0
      · subst h0; decide
      · rw [show nI (n + 0) - 1 = nI (n - 1) from nI_sb (a := n) (b := 1) (by omega)]
        exact (nI_ltI (by omega) (by omega)).mpr (by omega)
    exact ⟨_, ty_en hb, hk, hlo, fun i a b => hhi i (by omega) b⟩
  | d + 1, s, hd, hk, hlo, hhi, fu, hf => by
    obtain ⟨fu, rfl⟩ : ∃ z, fu = z + 1 := ⟨fu - 1, by omega⟩
    have hp := qw_lt hX (m - (d + 1))
    have hl := byt_lt X (m - (d + 1))
    obtain ⟨-, -, c3, c4⟩ := dO_lo ⟨byt X (m - (d + 1)), hl⟩
    have c4 : (((dO (byt X (m - (d + 1)))).toInt32).toUInt32 % 65536).toInt32 = nI (byt X (m - (d + 1))) := c4
    have hbb : X / 2 ^ (8 * (m - (d + 1))) % 256 = byt X (m - (d + 1)) := rfl
    have ei : nI (n + (d + 1)) - 1 = nI (n + d) := nI_sb (a := n + (d + 1)) (b := 1) (by omega)
    have hb : bX2_type_101 (dO (X / 2 ^ (8 * (m - (d + 1))))) (nI (n + (d + 1)) - 1) s = some (.inl (dO (X / 2 ^ (8 * (m - d))), nI (n + d) - 1, put s 0 (upd (s 0) (n + d) (nI (byt X (m - (d + 1))))))) := by
      unfold bX2_type_101
      rw [ei, hk 1 (by omega), h1, if_neg (show ¬ nI (n + d) < nI n from fun w => absurd ((nI_ltI (by omega) (by omega)).mp w) (by omega)), ax_nI (by omega) (by omega)]
      simp only [nm]
      rw [nI_cl (by omega), dO_and, hbb, c4, nar_c hl, dO_shr hp, qw_s, show m - (d + 1) + 1 = m - d by omega, show nI (n + d) + (-1 : Int32) = nI (n + d) - 1 from (Int32.sub_eq_add_neg _ _).symm]
    rw [ty_st hb]
    refine tyLay hX hm hn h1 d _ (by omega) (fun c hc => by rw [put_n _ _ hc]; exact hk c hc) (fun i hi => by rw [put_s, upd_n _ _ (by omega)]; exact hlo i hi) (fun i a b => ?_) fu (by omega)
    rw [put_s]
    by_cases e : i = n + d
    · subst e
      rw [upd_s, show m - 1 - (n + d - n) = m - (d + 1) by omega]
    · rw [upd_n _ _ e]
      exact hhi i (by omega) b
/-- the reference lays them from the first on -/
theorem tyM_lay (hX : X < 2 ^ 64) {m n : Nat} (hm : m ≤ 8) (hn : n + m ≤ 80) (h1 : σ 8 0 = nI n) : ∃ e, lp (fun t : (Int32 × St) => bX4_put_86 (dO X) (nI m) t.1 t.2) FU (nI 0, σ) = some e ∧ (∀ c, c ≠ 7 → e.2 c = σ c) ∧ (∀ i, i < n → e.2 7 i = σ 7 i) ∧ ∀ i, n ≤ i → i < n + m → e.2 7 i = nI (byt X (m - 1 - (i - n))) := by
  have hFU := FU_v
  obtain ⟨e, he, hz⟩ := lp_for (b := fun t : (Int32 × St) => bX4_put_86 (dO X) (nI m) t.1 t.2)
    (fun j t => t.1 = nI j ∧ (∀ c, c ≠ 7 → t.2 c = σ c) ∧ (∀ i, i < n → t.2 7 i = σ 7 i) ∧ ∀ i, n ≤ i → i < n + j → t.2 7 i = nI (byt X (m - 1 - (i - n))))
    (fun t => (∀ c, c ≠ 7 → t.2 c = σ c) ∧ (∀ i, i < n → t.2 7 i = σ 7 i) ∧ ∀ i, n ≤ i → i < n + m → t.2 7 i = nI (byt X (m - 1 - (i - n)))) (n := m)
    (fun j t hj ht => by
      obtain ⟨x8, s9⟩ := t
      obtain ⟨t1, t2, t3, t4⟩ := ht
      have t1 : x8 = nI j := t1
      have t2 : ∀ c, c ≠ 7 → s9 c = σ c := t2
      have t3 : ∀ i, i < n → s9 7 i = σ 7 i := t3
      have t4 : ∀ i, n ≤ i → i < n + j → s9 7 i = nI (byt X (m - 1 - (i - n))) := t4
      have hl := byt_lt X (m - 1 - j)
      obtain ⟨-, -, c3, -⟩ := dO_lo ⟨byt X (m - 1 - j), hl⟩
      have c3 : (dO (byt X (m - 1 - j))).toInt32 = nI (byt X (m - 1 - j)) := c3
      obtain ⟨s1, hs1⟩ : ∃ s, s = put s9 7 (upd (s9 7) (n + j) (nI (byt X (m - 1 - j)))) := ⟨_, rfl⟩
      have k7 : s1 7 = upd (s9 7) (n + j) (nI (byt X (m - 1 - j))) := by rw [hs1, put_s]
      refine ⟨(nI (j + 1), s1), ?_, rfl, fun c hc => ?_, fun i hi => ?_, fun i a b => ?_⟩
      · show bX4_put_86 (dO X) (nI m) x8 s9 = some (.inl (nI (j + 1), s1))
        unfold bX4_put_86
        rw [t1, if_neg (show ¬ nI m ≤ nI j from fun w => absurd ((nI_leI (by omega) (by omega)).mp w) (by omega)), t2 8 (by omega), h1, nI_add, ax_nI (by omega) (by omega)]
        simp only [nm]
        rw [nI_cl (by omega), show (8 : Int32) * (nI m - 1 - nI j) = nI (8 * (m - 1 - j)) by rw [l1, nI_sb (by omega), nI_sb (by omega), l8, pk_mul], dO_sar hX (by omega), c3, ← hs1, l1, nI_add]
      · show s1 c = σ c
        rw [hs1, put_n _ _ hc]; exact t2 c hc
      · show s1 7 i = σ 7 i
        rw [k7, upd_n _ _ (by omega)]; exact t3 i hi
      · show s1 7 i = nI (byt X (m - 1 - (i - n)))
        rw [k7]
        by_cases q : i = n + j
        · subst q; rw [upd_s, show n + j - n = j by omega]
        · rw [upd_n _ _ q]; exact t4 i a (by omega))
    (fun t ht => by
      obtain ⟨x8, s9⟩ := t
      obtain ⟨t1, t2, t3, t4⟩ := ht
      have t1 : x8 = nI m := t1
      subst t1
      refine ⟨(nI m, s9), ?_, t2, t3, t4⟩
      show bX4_put_86 (dO X) (nI m) (nI m) s9 = _
      unfold bX4_put_86
      rw [if_pos (show nI m ≤ nI m from (nI_leI (by omega) (by omega)).mpr (by omega))])
    m 0 (nI 0, σ) (by omega) ⟨rfl, fun _ _ => rfl, fun _ _ => rfl, fun i a b => by omega⟩ FU (by omega)
  exact ⟨e, he, hz⟩
/-- what is said of typing -/
def pB (a : Int64) (T : List Nat) : Prop := ∃ v T', TW T' ∧ (∀ σ, RepPL σ T → ∃ σ', fX2_type a σ = some (v, σ') ∧ RepPL σ' T') ∧ ∀ σ, RepPM σ T → ∃ σ', fX4_put a σ = some (v, σ') ∧ RepPM σ' T' ∧ ∀ c, c ≠ 7 → c ≠ 8 → σ' c = σ c
/-- the first round of both loops, and what follows when m signs were found -/
theorem ty_eq {m : Nat} (hX : X < 2 ^ 64) (hm : m ≤ 8) (hg : ∀ t, t < m → 33 ≤ byt X t ∧ byt X t ≤ 126) (σ : St) (fu : Nat) : lp (fun t : (Int32 × Int64 × Int32) => bX2_type_8 σ t.1 t.2.1 t.2.2) (fu + m) ((0 : Int32), dO X, (0 : Int32)) = lp (fun t : (Int32 × Int64 × Int32) => bX2_type_8 σ t.1 t.2.1 t.2.2) fu (nI m, dO (X / 2 ^ (8 * m)), nI m) := by
  have := lp_d (b := fun t : (Int32 × Int64 × Int32) => bX2_type_8 σ t.1 t.2.1 t.2.2) (fun j => (nI j, dO (X / 2 ^ (8 * j)), nI j)) (k := m) (fun j hj => tyGo (k := 0) (m := 0) hX (by omega) (by omega) (hg j hj).1 (hg j hj).2) m 0 fu (by omega)
  rw [show X / 2 ^ (8 * 0) = X by simp] at this
  exact this
theorem tm_eq {m : Nat} (hX : X < 2 ^ 64) (hm : m ≤ 8) (hg : ∀ t, t < m → 33 ≤ byt X t ∧ byt X t ≤ 126) (σ : St) (fu : Nat) : lp (fun t : (Int32 × Int64) => bX4_put_5 σ t.1 t.2) (fu + m) ((0 : Int32), dO X) = lp (fun t : (Int32 × Int64) => bX4_put_5 σ t.1 t.2) fu (nI m, dO (X / 2 ^ (8 * m))) := by
  have := lp_d (b := fun t : (Int32 × Int64) => bX4_put_5 σ t.1 t.2) (fun j => (nI j, dO (X / 2 ^ (8 * j)))) (k := m) (fun j hj => tyM_go hX (by omega) (hg j hj).1 (hg j hj).2) m 0 fu (by omega)
  rw [show X / 2 ^ (8 * 0) = X by simp] at this
  exact this
theorem put_ok {m : Nat} (hT : TW T) (hX : X < 2 ^ 64) (ho : okB X m) : pB (dO X) T := by
  obtain ⟨o1, o2, o3, o4⟩ := id ho
  have hFU := FU_v
  have hT8 := hT.1
  have eF : FU = 4991 + (8 - m) + 1 + m := by omega
  have bL : ∀ σ, lp (fun t : (Int32 × Int64 × Int32) => bX2_type_8 σ t.1 t.2.1 t.2.2) FU ((0 : Int32), dO X, (0 : Int32)) = some (.inl (nI m, dO 0, nI m)) := fun σ => by
    rw [eF, ty_eq hX o2 o3, o4]
    refine lp_en ?_
    show bX2_type_8 σ (nI m) (dO 0) (nI m) = _
    unfold bX2_type_8
    split
    · rfl
    · rw [if_pos (show lg_cmp (dO 0) 0 = 0 by decide)]
  have bM : ∀ σ, lp (fun t : (Int32 × Int64) => bX4_put_5 σ t.1 t.2) FU ((0 : Int32), dO X) = some (.inl (nI m, dO 0)) := fun σ => by
    rw [eF, tm_eq hX o2 o3, o4]
    refine lp_en ?_
    show bX4_put_5 σ (nI m) (dO 0) = _
    unfold bX4_put_5
    split
    · rfl
    · rw [if_pos (show lg_cmp (dO 0 &&& 255) 0 = 0 by decide)]
  by_cases c : T.length + m ≤ 80
  · refine ⟨nI (T.length + m), T ++ sgn X m, TW_app hT c ho, fun σ h => ?_, fun σ h => ?_⟩
    · obtain ⟨e, he, e1, e2, e3⟩ := tyLay (σ := σ) hX o2 (n := T.length) c h.1 m σ (by omega) (fun _ _ => rfl) (fun _ _ => rfl) (fun i a b => by omega) FU (by omega)
      rw [Nat.sub_self, show X / 2 ^ (8 * 0) = X by simp] at he
      refine ⟨put e.2.2 1 (fun _ => nI (T.length + m)), ?_, by rw [put_s, List.length_append, sgn_len], fun i c' hc => ?_⟩
      · unfold fX2_type
        rw [bL σ, bnd_s]
        show (if nI m = 0 then _ else _) = _
        rw [if_neg (show ¬ nI m = 0 from fun w => absurd ((nI_eq (b := 0) (by omega) (by omega)).mp w) (by omega)), h.1, nI_add, if_pos (show nI (T.length + m) ≤ 80 from (nI_leI (b := 80) (by omega) (by omega)).mpr c)]
        simp only [nm]
        rw [show lp (fun t : (Int64 × Int32 × St) => bX2_type_101 t.1 t.2.1 t.2.2) FU (dO X, nI (T.length + m) - 1, σ) = _ from he, bnd_s]
        rw [e1 1 (by omega), h.1, nI_add, put_s]
      · rw [put_n _ _ (by omega)]
        rcases app_at hc with ⟨a, b⟩ | ⟨a, b, rfl⟩
        · rw [e2 i a]; exact h.2 i c' b
        · exact e3 i a b
    · obtain ⟨e, he, e1, e2, e3⟩ := tyM_lay (σ := σ) hX o2 (n := T.length) c h.1
      refine ⟨put e.2 8 (fun _ => nI (T.length + m)), ?_, ⟨by rw [put_s, List.length_append, sgn_len], fun i c' hc => ?_⟩, fun c' a b => by rw [put_n _ _ b]; exact e1 c' a⟩
      · unfold fX4_put
        rw [bM σ, bnd_s]
        show (if nI m = 0 then _ else _) = _
        rw [if_neg (show ¬ nI m = 0 from fun w => absurd ((nI_eq (b := 0) (by omega) (by omega)).mp w) (by omega)), if_pos (show lg_cmp (dO 0) 0 = 0 by decide), h.1, nI_add, if_pos (show nI (T.length + m) ≤ 80 from (nI_leI (b := 80) (by omega) (by omega)).mpr c), show lp (fun t : (Int32 × St) => bX4_put_86 (dO X) (nI m) t.1 t.2) FU ((0 : Int32), σ) = _ from he, bnd_s]
        simp only [nm]
        rw [e1 8 (by omega), h.1, nI_add, put_s]
      · rw [put_n _ _ (by omega)]
        rcases app_at hc with ⟨a, b⟩ | ⟨a, b, rfl⟩
        · rw [e2 i a]; exact h.2 i c' b
        · exact e3 i a b
  · refine ⟨-4, T, hT, fun σ h => ⟨σ, ?_, h⟩, fun σ h => ⟨σ, ?_, h, fun _ _ _ => rfl⟩⟩
    · unfold fX2_type
      rw [bL σ, bnd_s]
      show (if nI m = 0 then _ else _) = _
      rw [if_neg (show ¬ nI m = 0 from fun w => absurd ((nI_eq (b := 0) (by omega) (by omega)).mp w) (by omega)), h.1, nI_add, if_neg (show ¬ nI (T.length + m) ≤ 80 from fun w => c ((nI_leI (b := 80) (by omega) (by omega)).mp w))]
    · unfold fX4_put
      rw [bM σ, bnd_s]
      show (if nI m = 0 then _ else _) = _
      rw [if_neg (show ¬ nI m = 0 from fun w => absurd ((nI_eq (b := 0) (by omega) (by omega)).mp w) (by omega)), if_pos (show lg_cmp (dO 0) 0 = 0 by decide), h.1, nI_add, if_neg (show ¬ nI (T.length + m) ≤ 80 from fun w => c ((nI_leI (b := 80) (by omega) (by omega)).mp w))]
theorem put_bad {m : Nat} (hT : TW T) (hX : X < 2 ^ 64) (hm : m < 8) (hg : ∀ t, t < m → 33 ≤ byt X t ∧ byt X t ≤ 126) (hb : ¬ (33 ≤ byt X m ∧ byt X m ≤ 126)) (hz : m = 0 ∨ X / 2 ^ (8 * m) ≠ 0) : pB (dO X) T := by
  have hFU := FU_v
  have eF : FU = 4991 + (8 - m) + 1 + m := by omega
  have hp := qw_lt hX m
  have hl := byt_lt X m
  have hbb : X / 2 ^ (8 * m) % 256 = byt X m := rfl
  obtain ⟨c1, c2, c3, -⟩ := dO_lo ⟨byt X m, hl⟩
  have c3 : (dO (byt X m)).toInt32 = nI (byt X m) := c3
  have z1 : ¬ (8 : Int32) ≤ nI m := fun w => absurd ((nI_leI (a := 8) (by omega) (by omega)).mp w) (by omega)
  refine ⟨-2, T, hT, fun σ h => ⟨σ, ?_, h⟩, fun σ h => ⟨σ, ?_, h, fun _ _ _ => rfl⟩⟩
  · unfold fX2_type
    rw [eF, ty_eq hX (by omega) hg]
    by_cases c0 : X / 2 ^ (8 * m) = 0
    · have hm0 : m = 0 := hz.resolve_right (fun w => w c0)
      have b1 : bX2_type_8 σ (nI m) (dO (X / 2 ^ (8 * m))) (nI m) = some (.inr (.inl (nI m, dO (X / 2 ^ (8 * m)), nI m))) := by
        unfold bX2_type_8
        rw [if_neg z1, c0, if_pos (show lg_cmp (dO 0) 0 = 0 by decide)]
      rw [t8_en b1, bnd_s]
      show (if nI m = 0 then _ else _) = _
      rw [hm0, if_pos (show nI 0 = 0 from rfl)]
    · have b1 : bX2_type_8 σ (nI m) (dO (X / 2 ^ (8 * m))) (nI m) = some (.inr (.inr (-2, σ))) := by
        unfold bX2_type_8
        rw [if_neg z1, if_neg (show ¬ lg_cmp (dO (X / 2 ^ (8 * m))) 0 = 0 from fun w => c0 ((dO_inj (v := 0) hp (by omega)).mp ((lgc0 _ _).mp w)))]
        simp only [nm]
        rw [dO_and, hbb]
        by_cases c4 : byt X m < 33
        · rw [if_pos (c1.mpr c4)]
        · rw [if_neg (fun w => c4 (c1.mp w)), if_neg (fun w => hb ⟨by omega, c2.mp w⟩)]
      rw [t8_en b1, bnd_s]
      rfl
  · unfold fX4_put
    rw [eF, tm_eq hX (by omega) hg]
    by_cases c0 : byt X m = 0
    · have b1 : bX4_put_5 σ (nI m) (dO (X / 2 ^ (8 * m))) = some (.inr (.inl (nI m, dO (X / 2 ^ (8 * m))))) := by
        unfold bX4_put_5
        rw [if_neg z1, dO_and, hbb, c0, if_pos (show lg_cmp (dO 0) 0 = 0 by decide)]
      rw [t5_en b1, bnd_s]
      show (if nI m = 0 then _ else (if lg_cmp (dO (X / 2 ^ (8 * m))) 0 = 0 then _ else _)) = _
      by_cases c5 : m = 0
      · rw [c5, if_pos (show nI 0 = 0 from rfl)]
      · rw [if_neg (show ¬ nI m = 0 from fun w => absurd ((nI_eq (b := 0) (by omega) (by omega)).mp w) (by omega)), if_neg (show ¬ lg_cmp (dO (X / 2 ^ (8 * m))) 0 = 0 from fun w => (hz.resolve_left c5) ((dO_inj (v := 0) hp (by omega)).mp ((lgc0 _ _).mp w)))]
    · have b1 : bX4_put_5 σ (nI m) (dO (X / 2 ^ (8 * m))) = some (.inr (.inr (-2, σ))) := by
        unfold bX4_put_5
        rw [if_neg z1, dO_and, hbb, if_neg (show ¬ lg_cmp (dO (byt X m)) 0 = 0 from fun w => c0 ((dO_inj (v := 0) (by omega) (by omega)).mp ((lgc0 _ _).mp w))), c3, show fX4_in (nI (byt X m)) 33 126 = _ from inM_eq (v := byt X m) (lo := 33) (hi := 126) (by omega) (by omega) (by omega), if_neg hb, bnd_s, if_pos (show nI 0 = 0 from rfl)]
      rw [t5_en b1, bnd_s]
      rfl
theorem put_b (hT : TW T) (a : Int64) : pB a T := by
  obtain ⟨X, hX, rfl⟩ := dO_all a
  obtain ⟨m, hm, hmin⟩ := pk_least (fun m => m = 8 ∨ ¬ (33 ≤ byt X m ∧ byt X m ≤ 126)) ⟨8, Or.inl rfl⟩
  have hm8 : m ≤ 8 := Classical.byContradiction fun w => hmin 8 (by omega) (Or.inl rfl)
  have hg : ∀ t, t < m → 33 ≤ byt X t ∧ byt X t ≤ 126 := fun t ht => Classical.byContradiction fun w => hmin t ht (Or.inr w)
  by_cases c : m = 8
  · subst c
    exact put_ok (m := 8) hT hX ⟨by omega, by omega, hg, Nat.div_eq_of_lt hX⟩
  · have hb := hm.resolve_left c
    by_cases c2 : m = 0 ∨ X / 2 ^ (8 * m) ≠ 0
    · exact put_bad hT hX (by omega) hg hb c2
    · exact put_ok (m := m) hT hX ⟨by omega, hm8, hg, Classical.byContradiction fun w => c2 (Or.inr w)⟩
end PU
