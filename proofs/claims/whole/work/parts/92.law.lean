/-! The law, from its entry -/
-- ===== end of PART A; then your names; then what follows =====
/-! THE CLAIM OUT OF ONE WALK OF THE LAW'S BODY. Your part is whole_start (and what it stands on); all else here is the same for every law, but numbers. -/
def R_law : String := "MeanLocksLaw"
def lw_P (b : Addr) (xs : List Int32) (args : Array Value) (s : State) : Prop := args = #[.ref b] ∧ s.IntsAt b xs ∧ xs.length ≤ 3072 ∧ (Jvm.Cond.and given_1 narrow_1).before args s = true
def lw_Q (_ : Array Value) (s : State) (o : Outcome) (t : State) : Prop := o = .returned (some (.int 1)) ∧ Framed s o t [] 600000 7302250
def lw_Z (below : List Frame) (a : Array Value) (s : State) : State → Prop := fun t => ∃ o, t.status = .running ∧ Ended t below o ∧ lw_Q a s o t
/-- the law's own end, with 1 on the stack, nothing written that was there before, its room as the claim has it -/
theorem lw_ret {p : Program} {l : Launch} {e : Env} {s : State} {m : MethodId} {below : List Frame} {meth : Method} {c : Code} {b : Nat} (hx : p.tables.exec = Jvm.exec) (hb : c.code = code) (hr : meth.sig.returnType = ret) (hlocks : meth.locks = false) {pc : Nat} {H : Heap} {ls : Array Slot} (hdg : decode code pc = .ok (.ireturn, 1)) : W p l e room_1 s m #[Value.ref b] below meth c H [] 600000 7302250 (lw_Z below #[Value.ref b] s) (F0 m pc ls [.int 1]) := by
  intro T hT X
  obtain ⟨fs, hret, hrun, hended, hW, hframe⟩ := X.leave (v := some (.int 1)) (hlocks := hlocks) (fun h => by rw [hr] at h; cases h)
  have hmeth' : T.vm.method? m = some meth := X.method'
  refine ⟨T.setFrames fs, ?_, .returned (some (.int 1)), hrun, hended, rfl, ⟨_, rfl⟩, hW, hframe⟩
  jvm_step X.here [X.here.top, hx, hb, hdg, hmeth', hr, ret, narrow_b1]
  (try refine ⟨rfl, ?_⟩); (try refine ⟨rfl, ?_⟩)
  first | (intro acts; rw [hret _ acts rfl rfl rfl]) | rw [hret _ _ rfl rfl rfl]
  exact Steps.refl _
/-- what holds at the law's entry: the machine, the code, the tables' words (any of lw_tbl by 'hts w (by decide +kernel)'), the script of L ints xs at the cell b, what the Statement gives of the start (any of its parts by flat_of_before) -/
def lw_At (p : Program) (s : State) (m : MethodId) (meth : Method) (c : Code) (b L : Nat) (xs : Nat → Int32) : Prop :=
  p.tables.exec = Jvm.exec ∧ c.code = code ∧ meth.sig.returnType = ret ∧ c.maxLocals = 4 ∧ s.vm.findClass R_law = some m.cls ∧ (∀ w ∈ lw_tbl, w.before #[Value.ref b] s = true) ∧ va_X b L xs s s.heap ∧ b < s.heap.size ∧ meth.locks = false ∧ (Jvm.Cond.and given_1 narrow_1).before #[Value.ref b] s = true

def wsE : List Cond := [.arrayClass .int, .arrayClass .char, .arrayClass .boolean, .arrayOver (.array .int), .arrayOver (.object "MeanLocks$Locks"), .stringRef RX2 47 "rmwfcxt", .stringRef RX3 227 "rmw", .laysStatic "java/lang/String" "COMPACT_STRINGS" "Z", .initialized "java/lang/String", .instantiable RX0 3, .instantiable RX1 16, .instantiable RX2 8, .instantiable RX3 5, .instantiable RX4 16, .constantLong RL 98 4294967295, .classLink RL 7 RX3, .initialized RX3, .classLink RL 10 RX4, .initialized RX4, .methodLink RL 9 yX3_init, .instanceMethod yX3_init, .methodLink RL 12 yX4_init, .instanceMethod yX4_init]
set_option maxRecDepth 20000 in
theorem wsE_in : ∀ w ∈ wsE, w ∈ lw_tbl := pl_in _ [144, 202, 716, 80, 152, 528, 642, 542, 60, 146, 74, 165, 66, 662, 1041, 65, 52, 661, 56, 67, 68, 663, 664] rfl
set_option maxRecDepth 20000 in
theorem nestW_in : ∀ w ∈ nestW, w ∈ lw_tbl := pl_in _ [75, 147, 166, 227, 270, 254, 257, 260, 623] rfl
/-- the array classes that the class and the reference use -/
theorem lw_ac {A : Array Value} {s : State} {ty : FieldType} (h : (Cond.arrayClass ty).before A s = true) : ∃ cA, ArrOfT s cA ty ∧ s.vm.findClass ("[" ++ ty.toString) = some cA := by
  obtain ⟨cA, kA, comp, hfind, hk, hkind⟩ := Cond.arrayClass_spec h
  exact ⟨cA, fun n z => ⟨fun k h => (by cases h), kA, hk, comp, hkind⟩, hfind⟩
theorem lw_tys {A : Array Value} {s : State} (hts : ∀ w ∈ wsE, w.before A s = true) : ∃ cA : Nat → ClassId, ∀ (k : Nat) (q : ClassId × FieldType), (tysW cA)[k]? = some q → ArrOfT s q.1 q.2 ∧ va_RA s q.1 q.2 := by
  obtain ⟨c0, a0, f0⟩ := lw_ac (hts (.arrayClass .int) (List.mem_of_getElem? (i := 0) rfl))
  obtain ⟨c1, a1, f1⟩ := lw_ac (hts (.arrayClass .char) (List.mem_of_getElem? (i := 1) rfl))
  obtain ⟨c2, a2, f2⟩ := lw_ac (hts (.arrayClass .boolean) (List.mem_of_getElem? (i := 2) rfl))
  obtain ⟨m3, c3, k3, g1, -, g2, g3, g4⟩ := Cond.arrayOver_spec (hts (.arrayOver (.object "MeanLocks$Locks")) (List.mem_of_getElem? (i := 4) rfl))
  obtain ⟨m4, c4, k4, i1, -, i2, i3, i4⟩ := arrayOverA_spec (hts (.arrayOver (.array .int)) (List.mem_of_getElem? (i := 3) rfl))
  refine ⟨fun k => if k = 0 then c0 else if k = 1 then c1 else if k = 2 then c2 else if k = 3 then c3 else c4, fun k q hq => ?_⟩
  match k, hq with
  | 0, hq => cases hq; exact ⟨a0, f0⟩
  | 1, hq => cases hq; exact ⟨a1, f1⟩
  | 2, hq => cases hq; exact ⟨a2, f2⟩
  | 3, hq => cases hq; exact ⟨fun n z => ⟨fun k h => (by cases h), k3, g2, m3, g3⟩, k3, m3, g2, g3, g1, g4⟩
  | 4, hq => cases hq; exact ⟨fun n z => ⟨fun k h => (by cases h), k4, i2, m4, i3⟩, i4⟩
  | k + 5, hq => simp at hq
theorem lw_cls {A : Array Value} {s : State} (hts : ∀ w ∈ lw_tbl, w.before A s = true) : ∃ (dC : Nat → ClassId) (dI : Nat → Nat → Nat), ∀ (k : Nat) (q : vw_C), vwCl[k]? = some q → u_Kn s q.1 q.2.1 q.2.2 (dC k) (dI k) := by
  obtain ⟨c0, i0, h0⟩ := u_known (C := RX0) (T := TX0) (N := 3) (n := 3) hts wsL_in_X00 (hts (.instantiable RX0 3) (wsE_in _ (List.mem_of_getElem? (i := 9) rfl)))
  obtain ⟨c1, i1, h1⟩ := u_known (C := RX1) (T := TX1) (N := 16) (n := 16) hts wsL_in_X10 (hts (.instantiable RX1 16) (wsE_in _ (List.mem_of_getElem? (i := 10) rfl)))
  obtain ⟨c2, i2, h2⟩ := u_known (C := RX2) (T := TX2) (N := 8) (n := 8) hts wsL_in_X20 (hts (.instantiable RX2 8) (wsE_in _ (List.mem_of_getElem? (i := 11) rfl)))
  obtain ⟨c3, i3, h3⟩ := u_known (C := RX3) (T := TX3) (N := 5) (n := 5) hts wsL_in_X30 (hts (.instantiable RX3 5) (wsE_in _ (List.mem_of_getElem? (i := 12) rfl)))
  obtain ⟨c4, i4, h4⟩ := u_known (C := RX4) (T := TX4) (N := 16) (n := 16) hts wsL_in_X40 (hts (.instantiable RX4 16) (wsE_in _ (List.mem_of_getElem? (i := 13) rfl)))
  refine ⟨fun k => if k = 0 then c0 else if k = 1 then c1 else if k = 2 then c2 else if k = 3 then c3 else c4, fun k => if k = 0 then i0 else if k = 1 then i1 else if k = 2 then i2 else if k = 3 then i3 else i4, fun k q hq => ?_⟩
  match k, hq with
  | 0, hq => cases hq; exact h0
  | 1, hq => cases hq; exact h1
  | 2, hq => cases hq; exact h2
  | 3, hq => cases hq; exact h3
  | 4, hq => cases hq; exact h4
  | k + 5, hq => simp [vwCl] at hq
theorem lw_nest {A : Array Value} {s : State} (hts : ∀ w ∈ lw_tbl, w.before A s = true) : cN s := fun w hw => by
  refine va_Nw.of (A := A) ?_ (hts w (nestW_in w hw))
  have hn := nestW_ok w hw
  cases w <;> first | rfl | cases hn
theorem lw_over {A : Array Value} {s : State} (hts : ∀ w ∈ wsE, w.before A s = true) : aN s := ⟨hts (.arrayOver (.array .int)) (List.mem_of_getElem? (i := 3) rfl), hts (.arrayOver (.object "MeanLocks$Locks")) (List.mem_of_getElem? (i := 4) rfl)⟩
/-- the two texts at the start -/
def tmS : Nat → Term := fun i => if i = 0 then .string RX2 47 else .string RX3 227
theorem lw_str {b : Nat} {s : State} (hts : ∀ w ∈ wsE, w.before #[Value.ref b] s = true) (hgv : (Jvm.Cond.and given_1 narrow_1).before #[Value.ref b] s = true) : vS (fun q : Nat => s.heap.size ≤ q) s s.heap := by
  have hs := flat_of_before _ hgv
  have hA : ∀ a : Nat, a < s.heap.size → ¬ (fun q : Nat => s.heap.size ≤ q) a := fun a h => Nat.not_le.mpr h
  have two : ∀ {P : Nat → Prop}, P 0 → P 1 → ∀ i, i < 2 → P i := fun h0 h1 i hi => by
    rcases (show i = 0 ∨ i = 1 by omega) with rfl | rfl
    · exact h0
    · exact h1
  obtain ⟨adK, adV, hS, hK⟩ := vk_Sof (args := #[Value.ref b]) (s := s) (N := 2) (tm := tmS) (len := [7, 3]) (byt := [[114, 109, 119, 102, 99, 120, 116], [114, 109, 119]]) (A := fun q : Nat => s.heap.size ≤ q)
    (two (by decide) (by decide))
    (two (hs (Cond.exactly (.string RX2 47) "java/lang/String") (by decide +kernel)) (hs (Cond.exactly (.string RX3 227) "java/lang/String") (by decide +kernel)))
    (two (hs (Cond.eq (.field (.string RX2 47) "java/lang/String" "coder" "B") (.int 0)) (by decide +kernel)) (hs (Cond.eq (.field (.string RX3 227) "java/lang/String" "coder" "B") (.int 0)) (by decide +kernel)))
    (two (hs (Cond.arrayOf (.field (.string RX2 47) "java/lang/String" "value" "[B") .byte) (by decide +kernel)) (hs (Cond.arrayOf (.field (.string RX3 227) "java/lang/String" "value" "[B") .byte) (by decide +kernel)))
    (two (hs (Cond.eq (.length (.field (.string RX2 47) "java/lang/String" "value" "[B")) (.int 7)) (by decide +kernel)) (hs (Cond.eq (.length (.field (.string RX3 227) "java/lang/String" "value" "[B")) (.int 3)) (by decide +kernel)))
    (two (fun j hj => by
        have hj : j < 7 := hj
        rcases (show j = 0 ∨ j = 1 ∨ j = 2 ∨ j = 3 ∨ j = 4 ∨ j = 5 ∨ j = 6 by omega) with rfl | rfl | rfl | rfl | rfl | rfl | rfl
        · exact hs (Cond.eq (.elem (.field (.string RX2 47) "java/lang/String" "value" "[B") (.int 0)) (.int 114)) (by decide +kernel)
        · exact hs (Cond.eq (.elem (.field (.string RX2 47) "java/lang/String" "value" "[B") (.int 1)) (.int 109)) (by decide +kernel)
        · exact hs (Cond.eq (.elem (.field (.string RX2 47) "java/lang/String" "value" "[B") (.int 2)) (.int 119)) (by decide +kernel)
        · exact hs (Cond.eq (.elem (.field (.string RX2 47) "java/lang/String" "value" "[B") (.int 3)) (.int 102)) (by decide +kernel)
        · exact hs (Cond.eq (.elem (.field (.string RX2 47) "java/lang/String" "value" "[B") (.int 4)) (.int 99)) (by decide +kernel)
        · exact hs (Cond.eq (.elem (.field (.string RX2 47) "java/lang/String" "value" "[B") (.int 5)) (.int 120)) (by decide +kernel)
        · exact hs (Cond.eq (.elem (.field (.string RX2 47) "java/lang/String" "value" "[B") (.int 6)) (.int 116)) (by decide +kernel))
      (fun j hj => by
        have hj : j < 3 := hj
        rcases (show j = 0 ∨ j = 1 ∨ j = 2 by omega) with rfl | rfl | rfl
        · exact hs (Cond.eq (.elem (.field (.string RX3 227) "java/lang/String" "value" "[B") (.int 0)) (.int 114)) (by decide +kernel)
        · exact hs (Cond.eq (.elem (.field (.string RX3 227) "java/lang/String" "value" "[B") (.int 1)) (.int 109)) (by decide +kernel)
        · exact hs (Cond.eq (.elem (.field (.string RX3 227) "java/lang/String" "value" "[B") (.int 2)) (.int 119)) (by decide +kernel)))
    (fun i j hi hj hij => by
      rcases (show (i = 0 ∧ j = 1) ∨ (i = 1 ∧ j = 0) by omega) with ⟨rfl, rfl⟩ | ⟨rfl, rfl⟩
      · exact Or.inl (hs (Cond.not (Cond.eq (.string RX2 47) (.string RX3 227))) (by decide +kernel))
      · exact Or.inr (hs (Cond.not (Cond.eq (.string RX2 47) (.string RX3 227))) (by decide +kernel))) hA
  exact ⟨adK, adV, hS, vk_R.of (A := #[Value.ref b]) (hts (.stringRef RX2 47 "rmwfcxt") (List.mem_of_getElem? (i := 5) rfl)) (hK 0 (by omega)), vk_R.of (A := #[Value.ref b]) (hts (.stringRef RX3 227 "rmw") (List.mem_of_getElem? (i := 6) rfl)) (hK 1 (by omega)), va_Zof (hts (.laysStatic "java/lang/String" "COMPACT_STRINGS" "Z") (List.mem_of_getElem? (i := 7) rfl)) (hts (.initialized "java/lang/String") (List.mem_of_getElem? (i := 8) rfl)) (va_eqi (hs (Cond.eq (.static "java/lang/String" "COMPACT_STRINGS" "Z") (.int 1)) (by decide +kernel))) hA⟩
/-- a new object of the class, and a new reference -/
def A0s : AS := (fun _ _ => 0, [], fun _ _ => 0, fun w => if w = 3 then 1 else 0)
theorem inv0 : INV 0 (put (fun _ _ => 0) 0 (upd (fun _ => 0) 0 1)) (fun _ _ => 0) (fun _ _ => 0) (fun _ => none) (put (fun _ _ => 0) 0 (upd (fun _ => 0) 2 1)) := by
  have no : ∀ {P : Prop} {r : Rq}, r ∈ aR A0s → P := fun hr => absurd (show _ ∈ ([] : List Rq) from hr) List.not_mem_nil
  have no2 : ∀ {P : Prop} {i : Nat} {r : Rq}, (aR A0s)[i]? = some r → P := fun {P i r} hr => absurd (show ([] : List Rq)[i]? = some r from hr) (by simp)
  have no3 : ∀ {P : Prop} {i : Nat} {r : AS}, ([] : List AS)[i]? = some r → P := fun {P i r} hr => absurd hr (by simp)
  have no4 : ∀ {P : Prop} {i c : Nat}, ([] : List Nat)[i]? = some c → P := fun {P i c} hr => absurd hr (by simp)
  have hw : WF A0s := ⟨fun o p _ _ => Nat.zero_le _, List.nodup_nil, fun r hr => no hr, Or.inr rfl, Or.inl rfl, by decide, by decide⟩
  have z : nI 0 = 0 := nI_0
  have hL : RepL (put (fun _ _ => 0) 0 (upd (fun _ => 0) 0 1)) A0s := by
    refine ⟨⟨rfl, rfl, rfl, rfl, rfl, rfl, z.symm⟩, fun i r hr => no2 hr, fun o _ _ => rfl, fun o _ => ⟨rfl, rfl, rfl, rfl⟩, fun k p h1 h2 _ => ?_⟩
    have e : (put (fun _ _ => 0) 0 (upd (fun _ => 0) 0 1) : St) (16 + k) p = 0 := by rw [put_n _ _ (by omega)]
    rw [e]
    refine isM_0 fun x _ hx => ?_
    have : k ≤ 0 := hx.2
    omega
  have hM : RepM ((put (fun _ _ => 0) 0 (upd (fun _ => 0) 2 1) : St) 0) A0s := by
    have u : ∀ j, j ≠ 2 → (put (fun _ _ => 0) 0 (upd (fun _ => 0) 2 1) : St) 0 j = 0 := fun j hj => by
      rw [put_s]
      exact if_neg hj
    refine ⟨⟨u 0 (by omega), u 5 (by omega), u 6 (by omega), ?_, u 3 (by omega), u 4 (by omega), (u 1 (by omega)).trans z.symm⟩, fun i r hr => no2 hr, fun o _ _ => u _ (by omega), fun o _ => ⟨u _ (by omega), u _ (by omega), u _ (by omega), u _ (by omega)⟩, fun o p _ _ => (u _ (by omega)).trans z.symm⟩
    rw [put_s]
    rfl
  have hq : Qt A0s := fun i hi => absurd hi (Nat.not_lt_zero i)
  have hn : ∀ k, k ≠ 0 → (put (fun _ _ => 0) 0 (upd (fun _ => 0) 2 1) : St) k = fun _ => 0 := fun k hk => put_n _ _ hk
  have hHM : HM (put (fun _ _ => 0) 0 (upd (fun _ => 0) 2 1)) [] := ⟨Nat.zero_le _, by rw [hn 3 (by omega)]; exact z.symm, 0, by omega, by rw [hn 2 (by omega)]; exact z.symm, fun i A hA => no3 hA⟩
  have hSM : SM (put (fun _ _ => 0) 0 (upd (fun _ => 0) 2 1)) (fun _ => none) := fun i _ => ⟨fun _ => by rw [hn 5 (by omega)]; exact z.symm, fun B hB => by simp at hB⟩
  have hPL : RepPL (fun _ _ => 0) [] := ⟨z.symm, fun i c hc => no4 hc⟩
  have hPM : RepPM (put (fun _ _ => 0) 0 (upd (fun _ => 0) 2 1)) [] := ⟨by rw [hn 8 (by omega)]; exact z.symm, fun i c hc => no4 hc⟩
  have hHL : HL (fun _ => none) 0 [] := fun i B hB => no3 hB
  have hSL : SL (fun _ => none) (fun _ => none) := fun i _ => ⟨fun _ => rfl, fun B hB => by simp at hB⟩
  exact ⟨A0s, [], fun _ => none, [], 0, hL, hM, ⟨hw, hq⟩, ⟨⟨0, Nat.le_refl _, z.symm⟩, fun r hr => no hr⟩, hHM, hSM, hPL, hPM, TW_nil, ⟨by omega, z.symm, z.symm⟩, hHL, hSL, fun B hB => absurd hB List.not_mem_nil, fun i B _ hB => by simp at hB⟩

def lwC (p : Program) (s : State) (m : MethodId) (meth : Method) (c : Code) (b L : Nat) (xs : Nat → Int32) (dC : Nat → ClassId) (dI : Nat → Nat → Nat) (cA : Nat → ClassId) : Prop := lw_At p s m meth c b L xs ∧ va_K (dC, dI) vwCl (tysW cA) s ∧ aN s ∧ cN s ∧ vS (fun q : Nat => s.heap.size ≤ q) s s.heap
abbrev lwW (cA : Nat → ClassId) (q : Nat → Nat) (h : Nat) (ad : Nat → Nat) (σN σW σP κ : St) (M : Mk) (τ : St) : va_W := wM cA h ad τ ++ wXK cA q σN σW σP κ M
/-- what a road goes on with -/
def lwK (p : Program) (l : Launch) (e : Env) (s : State) (m : MethodId) (below : List Frame) (meth : Method) (c : Code) (b : Nat) (dC : Nat → ClassId) (dI : Nat → Nat → Nat) (cA : Nat → ClassId) (q : Nat → Nat) (h : Nat) (ad : Nat → Nat) (cells slots N : Nat) (Q : State → Prop) (ls : Array Slot) : Prop := ∀ (σN σW σP κ : St) (M : Mk) (τ : St) (H : Heap) (locs : List Loc), INV N σN σP κ M τ → va_P (dC, dI) vwCl (lwW cA q h ad σN σW σP κ M τ) H → va_D (fun q : Nat => s.heap.size ≤ q) (lwW cA q h ad σN σW σP κ M τ) → va_S (fun q : Nat => s.heap.size ≤ q) s.heap H locs → W p l e room_1 s m #[Value.ref b] below meth c H locs (cells + 17) (slots + 1303) Q (F0 m 1027 ls [])
section LA
variable {p : Program} {l : Launch} {e : Env} {s : State} {m : MethodId} {below : List Frame} {meth : Method} {c : Code} {b L : Nat} {xs : Nat → Int32} {dC : Nat → ClassId} {dI : Nat → Nat → Nat} {cA : Nat → ClassId} {q : Nat → Nat} {h : Nat} {ad : Nat → Nat} {H : Heap} {locs : List Loc} {cells slots N i : Nat} {Q : State → Prop} {ls : Array Slot} {σN σW σP κ τ : St} {M : Mk}
/-- the script's int at the place i + k -/
theorem lw_arg {k pc : Nat} {n : Int} {rest : List Value} (hx : p.tables.exec = Jvm.exec) (hb : c.code = code) (hX : va_X b L xs s s.heap) (hbl : b < s.heap.size) (hS : va_S (fun q : Nat => s.heap.size ≤ q) s.heap H locs) (h0 : ls[0]? = some (.val (.ref b))) (h3 : ls[3]? = some (.val (.int (nI i)))) (d0 : decode code pc = .ok (.aload_n 0, 1)) (d1 : decode code (pc + 1) = .ok (.iload_n 3, 1)) (d2 : decode code (pc + 2) = .ok (.iconst n, 1)) (hv : Int32.ofInt n = nI k) (d3 : decode code (pc + 3) = .ok (.iadd, 1)) (d4 : decode code (pc + 4) = .ok (.iaload, 1)) (hk : i + k < L) (hL : L ≤ 3072)
    (kk : W p l e room_1 s m #[Value.ref b] below meth c H locs cells slots Q (F0 m (pc + 5) ls (.int (xs (i + k)) :: rest))) : W p l e room_1 s m #[Value.ref b] below meth c H locs cells slots Q (F0 m pc ls rest) := by
  have hbA : ¬ (fun q : Nat => s.heap.size ≤ q) b := Nat.not_le.mpr hbl
  refine lv_aload_n hx hb d0 rfl h0 ?_
  refine lv_iload_n hx hb d1 rfl h3 ?_
  refine lv_iconst (v := nI k) hx hb d2 hv ?_
  refine lv_iadd hx hb d3 ?_
  rw [nI_add]
  refine va_sld hx hb hX hbl hbA hS (vp_in_nI hk (by omega)) d4 ?_
  rw [nI_cl (show i + k < 2147483648 by omega)]
  exact kk
end LA
