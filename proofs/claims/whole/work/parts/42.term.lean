/-! Somebody of a ring gives up a place; breaking ends -/
theorem ring_gives {A : AS} (hw : WF A) {o : Nat} {g : Int32} (hg : isM g (rg A o)) (ho : rch A o o) : ∃ x, x < 8 ∧ bt g x = true ∧ 0 < dcn A x g := by
  refine Classical.byContradiction fun hno => ?_
  have none : ∀ x, x < 8 → bt g x = true → ∀ p, p < 300 → ¬ dsp A x p g := fun x hx hbx p hp hd => hno ⟨x, hx, hbx, @cnt_one (fun p => dsp A x p g) (fun _ => Classical.propDecidable _) 300 p hp hd⟩
  have step : ∀ x y, rg A o x → rg A o y → edg A x y → ∃ (i j : Nat) (r r' : Rq), (aR A)[i]? = some r ∧ r.1 = x ∧ (aR A)[j]? = some r' ∧ r'.1 = y ∧ j < i := by
    intro x y hx hy he
    obtain ⟨i, r, hr, rfl, r1, hr1, p, a, b, c, d, e, q⟩ := he
    rw [hr] at hr1
    cases hr1
    have hr' := List.mem_of_getElem? hr
    have w := hw.2.2.1 r hr'
    rcases q with q | ⟨-, r', hr2, e2, q2, q3, q4⟩
    · exact absurd ⟨r, hr', Ne.symm e, (hg r.1 (by omega)).mpr hx, a, b, by omega, c⟩ (none y d ((hg y (by omega)).mpr hy) p (by omega))
    · obtain ⟨j, hj⟩ := List.getElem?_of_mem hr2
      have hji : j < i := by
        have := (List.getElem?_eq_some_iff.mp hj).1
        rw [List.length_take] at this
        omega
      rw [List.getElem?_take_of_lt hji] at hj
      exact ⟨i, j, r, r', hr, rfl, hj, e2, hji⟩
  have all : ∀ y, rch A o y → rch A y o → ∃ (i j : Nat) (r r' : Rq), (aR A)[i]? = some r ∧ r.1 = o ∧ (aR A)[j]? = some r' ∧ r'.1 = y ∧ j < i := by
    intro y h
    induction h with
    | single h => intro h2; exact step _ _ ⟨ho, ho⟩ ⟨Relation.TransGen.single h, h2⟩ h
    | tail h1 h ih =>
      intro h2
      rename_i z y
      have hz : rch A z o := rch_tr (Relation.TransGen.single h) h2
      obtain ⟨i, j, r, r', q1, q2, q3, q4, q5⟩ := ih hz
      obtain ⟨i', j', t, t', p1, p2, p3, p4, p5⟩ := step z y ⟨h1, hz⟩ ⟨Relation.TransGen.tail h1 h, h2⟩ h
      have := row_inj hw p1 q3 (p2.trans q4.symm)
      exact ⟨i, j', r, t', q1, q2, p3, p4, by omega⟩
  obtain ⟨i, j, r, r', q1, q2, q3, q4, q5⟩ := all o ho ho
  have := row_inj hw q1 q3 (q2.trans q4.symm)
  omega
theorem rg_self {A : AS} {o x : Nat} (h : rg A o x) : rch A o o := rch_tr h.1 h.2
/-- how many locks there are, and room for those of the row -/
def nzo (A : AS) (o : Nat) : Nat := cnt (fun p => aK A o p ≠ 0) 300
def nzn (A : AS) : Nat → Nat
  | 0 => 0
  | n + 1 => nzn A n + nzo A n
def pot (A : AS) : Nat := nzn A 8 + 300 * (aR A).length
theorem nzn_le (A : AS) : ∀ n, nzn A n ≤ 300 * n
  | 0 => Nat.le_refl _
  | n + 1 => by
    have := nzn_le A n
    have h := cnt_le (fun p => aK A n p ≠ 0) 300
    have : nzo A n ≤ 300 := h
    rw [nzn]; omega
theorem pot_le {A : AS} (hw : WF A) : pot A ≤ 4800 := by
  have := nzn_le A 8
  have := hw.len
  unfold pot; omega
theorem nzn_one {A A' : AS} {o d : Nat} (hs : ∀ x, x ≠ o → nzo A' x = nzo A x) : ∀ n, (n ≤ o → nzn A' n = nzn A n) ∧ (o < n → nzn A' n + nzo A o = nzn A n + nzo A' o)
  | 0 => ⟨fun _ => rfl, fun h => by omega⟩
  | n + 1 => by
    obtain ⟨a, b⟩ := nzn_one (d := d) hs n
    refine ⟨fun h => ?_, fun h => ?_⟩
    · rw [nzn, nzn, a (by omega), hs n (by omega)]
    · rw [nzn, nzn]
      by_cases e : n = o
      · subst e
        rw [a (Nat.le_refl _)]
        omega
      · have := b (by omega)
        rw [hs n e]
        omega
theorem pot_giv {A : AS} (hw : WF A) {i : Nat} {r : Rq} (hr : (aR A)[i]? = some r) : pot (givA A r) ≤ pot A := by
  have hl := giv_len hw hr
  have w1 := (hw.2.2.1 r (List.mem_of_getElem? hr)).1
  have hs : ∀ x, x ≠ r.1 → nzo (givA A r) x = nzo A x := fun x hx => cnt_congr fun p hp => by
    have : aK (givA A r) x p = aK A x p := if_neg fun q => hx q.1
    rw [this]
  have h8 := (nzn_one (d := 0) hs 8).2 w1
  have h3 := cnt_le (fun p => aK (givA A r) r.1 p ≠ 0) 300
  have h3 : nzo (givA A r) r.1 ≤ 300 := h3
  unfold pot
  omega
theorem pot_goN {A : AS} (hw : WF A) : ∀ n, pot (goN n A) ≤ pot A
  | 0 => Nat.le_refl _
  | n + 1 => by
    rcases nxt_cases A with ⟨i, r, hi, hr⟩ | hq
    · rw [goN_s hi hr]
      exact Nat.le_trans (pot_goN (hw.givA (List.mem_of_getElem? hr)) n) (pot_giv hw hr)
    · rw [goN_q hq]
      exact Nat.le_refl _
theorem pot_brk {A : AS} (hw : WF A) {b : Nat} {g : Int32} (h : lh A g b) : pot (brk A b g) < pot A := by
  obtain ⟨hb, -, hd, -⟩ := h
  obtain ⟨p, hp, hdp⟩ := @cnt_pos (fun p => dsp A b p g) (fun _ => Classical.propDecidable _) 300 hd
  have hK : ∀ x p, aK (brk A b g) x p = aK (dropU A b g 300) x p := fun _ _ => rfl
  have hs : ∀ x, x ≠ b → nzo (brk A b g) x = nzo A x := fun x hx => cnt_congr fun p hp => by
    rw [hK]
    rcases dropU_K A b g 300 x p with ⟨-, q⟩ | ⟨e, -⟩
    · exact absurd q.1 hx
    · rw [e]
  have h8 := (nzn_one (d := 0) hs 8).2 hb
  have hlt : nzo (brk A b g) b < nzo A b := cnt_lt (fun p hp => by
      rw [hK]
      rcases dropU_K A b g 300 b p with ⟨e, -⟩ | ⟨e, -⟩
      · rw [e]; intro q; exact absurd rfl q
      · rw [e]; exact id) ⟨p, hp, by
      obtain ⟨r, hr, _, _, _, _, q, _⟩ := hdp
      have := (hw.2.2.1 r hr).2.2.1
      omega, by
      rw [hK]
      rcases dropU_K A b g 300 b p with ⟨e, -⟩ | ⟨-, q⟩
      · rw [e]; exact fun q => q rfl
      · exact absurd ⟨rfl, hp, hdp⟩ q⟩
  have hl : (aR (brk A b g)).length = (aR A).length := rfl
  unfold pot
  omega
/-- the ring as a number -/
noncomputable def rgI (A : AS) (o : Nat) : Int32 := @dite _ (∃ z, isM z (rg A o)) (Classical.propDecidable _) (fun h => Classical.choose h) (fun _ => 0)
theorem rgI_eq {A : AS} {o : Nat} {z : Int32} (h : isM z (rg A o)) : rgI A o = z := by
  have hex : ∃ z, isM z (rg A o) := ⟨z, h⟩
  unfold rgI
  rw [dif_pos hex]
  exact isM_eq (Classical.choose_spec hex) h
noncomputable def lhI (A : AS) (g : Int32) : Nat := @dite _ (∃ b, lh A g b) (Classical.propDecidable _) (fun h => Classical.choose h) (fun _ => 0)
theorem lhI_eq {A : AS} {g : Int32} {b : Nat} (h : lh A g b) : lhI A g = b := by
  have hex : ∃ b, lh A g b := ⟨b, h⟩
  unfold lhI
  rw [dif_pos hex]
  exact lh_inj (Classical.choose_spec hex) h
/-- a circle is broken once -/
noncomputable def bk1 (A : AS) (o : Nat) : AS := goA (brk A (lhI A (rgI A o)) (rgI A o))
/-- circles are broken until o is in none -/
noncomputable def bkN : Nat → AS → Nat → AS
  | 0, A, _ => A
  | n + 1, A, o => @ite _ (rch A o o) (Classical.propDecidable _) (bkN n (bk1 A o) o) A
theorem bkN_s {A : AS} {o : Nat} (h : rch A o o) (n : Nat) : bkN (n + 1) A o = bkN n (bk1 A o) o := by rw [bkN, if_pos h]
theorem bkN_e {A : AS} {o : Nat} (h : ¬ rch A o o) : ∀ n, bkN n A o = A
  | 0 => rfl
  | n + 1 => by rw [bkN, if_neg h]
theorem bk1_ok {A : AS} (hw : WF A) {o : Nat} {g : Int32} (hg : isM g (rg A o)) (ho : rch A o o) : ∃ b, lh A g b ∧ bk1 A o = goA (brk A b g) ∧ pot (bk1 A o) < pot A ∧ WF (bk1 A o) ∧ Qt (bk1 A o) := by
  have hex := ring_gives hw hg ho
  have : ∃ b, lh A g b := by
    obtain ⟨n, ⟨x, hx, hbx, hdx, hn⟩, hmin⟩ := pk_least (fun n => ∃ x, x < 8 ∧ bt g x = true ∧ 0 < dcn A x g ∧ dcn A x g = n) (by obtain ⟨x, a, b, c⟩ := hex; exact ⟨_, x, a, b, c, rfl⟩)
    obtain ⟨k, ⟨y, hy, hby, hdy, hny, hky⟩, hmin2⟩ := pk_least (fun k => ∃ x, x < 8 ∧ bt g x = true ∧ 0 < dcn A x g ∧ dcn A x g = n ∧ x + k = 8) ⟨8 - x, x, hx, hbx, hdx, hn, by omega⟩
    refine ⟨y, hy, hby, hdy, fun z hz hbz hdz => ?_⟩
    rcases Nat.lt_or_ge (dcn A z g) n with c | c
    · exact absurd ⟨z, hz, hbz, hdz, rfl⟩ (hmin _ c)
    · by_cases e : dcn A z g = n
      · right
        refine ⟨by omega, ?_⟩
        rcases Nat.lt_or_ge y z with q | q
        · exact absurd ⟨z, hz, hbz, hdz, e, by omega⟩ (hmin2 (8 - z) (by omega))
        · exact q
      · left; omega
  obtain ⟨b, hb⟩ := this
  have e : bk1 A o = goA (brk A b g) := by
    unfold bk1
    rw [rgI_eq hg, lhI_eq hb]
  refine ⟨b, hb, e, ?_, ?_, ?_⟩
  · rw [e]; exact Nat.lt_of_le_of_lt (pot_goN hw.brk 8) (pot_brk hw hb)
  · rw [e]; exact (goA_ok hw.brk).1
  · rw [e]; exact (goA_ok hw.brk).2.1
theorem bk1_row {A : AS} (hw : WF A) {o : Nat} {g : Int32} (hg : isM g (rg A o)) (ho : rch A o o) : ∀ x ∈ aR (bk1 A o), x ∈ aR A := by
  obtain ⟨b, -, e, -⟩ := bk1_ok hw hg ho
  rw [e]
  exact (goA_ok (hw.brk (b := b) (g := g))).2.2
theorem pot0_ring {A : AS} (hw : WF A) {o : Nat} {g : Int32} (hg : isM g (rg A o)) (ho : rch A o o) : 0 < pot A := by
  obtain ⟨b, -, -, h, -⟩ := bk1_ok hw hg ho
  omega
