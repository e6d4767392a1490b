/-! States, guarded steps and loops of the pure functions that the methods are tied to; contracts over worlds; the calls' rows. -/
/-- the numbers of an object and its arrays: component, place -/
abbrev St : Type := Nat → Nat → Int32
def put (σ : St) (k : Nat) (f : Nat → Int32) : St := fun j => if j = k then f else σ j
theorem put_s (σ : St) (k : Nat) (f : Nat → Int32) : put σ k f k = f := if_pos rfl
theorem put_n (σ : St) {k j : Nat} (f : Nat → Int32) (h : j ≠ k) : put σ k f j = σ j := if_neg h
def bnd {α β : Type} (o : Option α) (k : α → Option β) : Option β := match o with
  | none => none
  | some a => k a
theorem bnd_some {α β : Type} {o : Option α} {k : α → Option β} {x : β} (h : bnd o k = some x) : ∃ a, o = some a ∧ k a = some x := by
  cases o with
  | none => cases h
  | some a => exact ⟨a, rfl, h⟩
def bn2 {α γ β : Type} (o : Option (α × γ)) (k : α → γ → Option β) : Option β := match o with
  | none => none
  | some a => k a.1 a.2
theorem bn2_some {α γ β : Type} {o : Option (α × γ)} {k : α → γ → Option β} {x : β} (h : bn2 o k = some x) : ∃ a b, o = some (a, b) ∧ k a b = some x := by
  cases o with
  | none => cases h
  | some a => exact ⟨a.1, a.2, rfl, h⟩
def nm {α β : Type} (a : α) (k : α → β) : β := k a
theorem nm_some {α β : Type} {a : α} {k : α → Option β} {x : β} (h : nm a k = some x) : ∃ z, z = a ∧ k z = some x := ⟨a, rfl, h⟩
theorem nm_at {α β : Type} {a z : α} {k : α → Option β} {x : β} (e : z = a) (h : nm a k = some x) : k z = some x := by rw [e]; exact h
/-- a step that needs its place in its row -/
def ax {β : Type} (i : Int32) (n : Nat) (k : Option β) : Option β := if i < 0 ∨ n ≤ i.toNatClampNeg then none else k
theorem ax_some {β : Type} {i : Int32} {n : Nat} {k : Option β} {x : β} (h : ax i n k = some x) : vp_in i n ∧ k = some x := by
  unfold ax at h
  by_cases hc : i < 0 ∨ n ≤ i.toNatClampNeg
  · rw [if_pos hc] at h; cases h
  · rw [if_neg hc] at h; exact ⟨hc, h⟩
theorem ax_in {β : Type} {i : Int32} {n : Nat} {k : Option β} (h : vp_in i n) : ax i n k = k := if_neg h
/-- a step that needs a fact -/
def gd {β : Type} (c : Prop) [Decidable c] (k : Option β) : Option β := if c then k else none
theorem gd_some {β : Type} {c : Prop} [Decidable c] {k : Option β} {x : β} (h : gd c k = some x) : c ∧ k = some x := by
  unfold gd at h
  by_cases hc : c
  · rw [if_pos hc] at h; exact ⟨hc, h⟩
  · rw [if_neg hc] at h; cases h
theorem gd_t {β : Type} {c : Prop} [Decidable c] {k : Option β} (h : c) : gd c k = k := if_pos h
theorem it_t {c : Prop} [Decidable c] {α : Type} {a b : Option α} {x : α} (h : (if c then a else b) = some x) (hc : c) : a = some x := by rw [if_pos hc] at h; exact h
theorem it_f {c : Prop} [Decidable c] {α : Type} {a b : Option α} {x : α} (h : (if c then a else b) = some x) (hc : ¬ c) : b = some x := by rw [if_neg hc] at h; exact h
theorem it_ff {c : Prop} [Decidable c] {α : Type} {a b : Option α} {x : α} (h : (if c then a else b) = some x) (hc : ¬ ¬ c) : a = some x := it_t h (Decidable.of_not_not hc)
/-- a loop: a body that goes on (inl) or ends (inr) -/
def lp {L E : Type} (b : L → Option (L ⊕ E)) : Nat → L → Option E
  | 0, _ => none
  | n + 1, s => match b s with
    | none => none
    | some (.inl s') => lp b n s'
    | some (.inr e) => some e
theorem lp_0 {L E : Type} {b : L → Option (L ⊕ E)} {s : L} {e : E} (h : lp b 0 s = some e) : False := by cases h
theorem lp_s {L E : Type} {b : L → Option (L ⊕ E)} {n : Nat} {s : L} {e : E} (h : lp b (n + 1) s = some e) : ∃ z, b s = some z ∧ ((∃ s', z = .inl s' ∧ lp b n s' = some e) ∨ z = .inr e) := by
  rw [lp] at h
  split at h
  · cases h
  · next s' hb => exact ⟨_, hb, Or.inl ⟨s', rfl, h⟩⟩
  · next e' hb => cases h; exact ⟨_, hb, Or.inr rfl⟩
theorem lp_l {L E : Type} {b : L → Option (L ⊕ E)} {n : Nat} {s' : L} {e : E} {z : L ⊕ E} (hz : some (.inl s' : L ⊕ E) = some z) (h : (∃ s', z = .inl s' ∧ lp b n s' = some e) ∨ z = .inr e) : lp b n s' = some e := by
  cases hz
  rcases h with ⟨s2, h1, h2⟩ | h
  · cases h1; exact h2
  · cases h
theorem lp_r {L E : Type} {b : L → Option (L ⊕ E)} {n : Nat} {e e' : E} {z : L ⊕ E} (hz : some (.inr e' : L ⊕ E) = some z) (h : (∃ s', z = .inl s' ∧ lp b n s' = some e) ∨ z = .inr e) : e = e' := by
  cases hz
  rcases h with ⟨s2, h1, h2⟩ | h
  · cases h1
  · cases h; rfl
def el {L R β : Type} (e : L ⊕ R) (k : L → Option β) (kr : R → Option β) : Option β := match e with
  | .inl s => k s
  | .inr r => kr r
theorem el_l {L R β : Type} {s : L} {k : L → Option β} {kr : R → Option β} {x : β} (h : el (.inl s) k kr = some x) : k s = some x := h
theorem el_r {L R β : Type} {r : R} {k : L → Option β} {kr : R → Option β} {x : β} (h : el (.inr r) k kr = some x) : kr r = some x := h
/-- more rounds than any loop here goes -/
def FU : Nat := 5000
theorem zg_nar {v : Int32} (h : v = 0 ∨ v = 1) : narrow .boolean (.int v) = .int v := by rcases h with rfl | rfl <;> rfl
theorem zg_fit {v : Int32} (h : v = 0 ∨ v = 1) : fits .boolean (.int v) = true := by rcases h with rfl | rfl <;> rfl
theorem cg_nar {v : Int32} (h : (v.toUInt32 % 65536).toInt32 = v) : narrow .char (.int v) = .int v := by
  have := pk_nc v
  rw [h] at this
  exact this
theorem cg_fit {v : Int32} (h : (v.toUInt32 % 65536).toInt32 = v) : fits .char (.int v) = true := by
  have := pk_fc v
  rw [h] at this
  exact this
theorem sw_eq {x n : Int32} {k : Int} (hk : x.toInt = k) (hn : n.toInt = k) : x = n := Int32.toInt_inj.mp (hk.trans hn.symm)
theorem sw_out {x : Int32} {lo hi : Int} (h : ∀ k : Int, lo ≤ k → k ≤ hi → x.toInt = k → False) : x.toInt < lo ∨ hi < x.toInt := by
  rcases Int.lt_or_le x.toInt lo with h1 | h1
  · exact Or.inl h1
  · rcases Int.lt_or_le hi x.toInt with h2 | h2
    · exact Or.inr h2
    · exact (h _ h1 h2 rfl).elim
/-- a method's contract: from the world ws, with these arguments: the answer and the world behind it are as post says -/
def isNestM : Cond → Bool
  | .methodLinkNest .. => true
  | _ => false
def nestW : List Cond := [.methodLinkNest RX3 11 yX1_init "MeanLocks", .methodLinkNest RX3 21 yX0_init "MeanLocks", .methodLinkNest RX3 32 yX2_init "MeanLocks", .methodLinkNest RX0 21 yX1_init "MeanLocks", .methodLinkNest RX1 140 yX3_holds "MeanLocks", .methodLinkNest RX1 69 yX3_isOwner "MeanLocks", .methodLinkNest RX1 73 yX3_isLock "MeanLocks", .methodLinkNest RX1 76 yX3_isRange "MeanLocks", .methodLinkNest RX2 74 yX3_isOwner "MeanLocks"]
/-- the nest mates' links, that no list of words bears -/
def cN (U : State) : Prop := ∀ w ∈ nestW, va_Nw w U
theorem nestW_ok : ∀ w ∈ nestW, isNestM w = true := by decide +kernel
theorem cN.same {u U : State} (h : u.vm = U.vm) (hZ : cN u) : cN U := fun w hw => by
  have hn := nestW_ok w hw
  have hz := hZ w hw
  cases w <;> first | exact va_Nw.same rfl h hz | cases hn
theorem cN.warm {s U : State} (hW : s.WarmedH U.vm) (hZ : cN s) : cN U := fun w hw => by
  have hn := nestW_ok w hw
  have hz := hZ w hw
  cases w <;> first | exact va_Nw.warmM hW hz | cases hn
/-- the two texts of the class, and String's own switch: outside the cells that may change -/
def vS (A : Nat → Prop) (U : State) (H : Heap) : Prop := ∃ adK adV : Nat → Nat, vk_S 2 [7, 3] [[114, 109, 119, 102, 99, 120, 116], [114, 109, 119]] adK adV A U H ∧ vk_R RX2 47 "rmwfcxt" (adK 0) U ∧ vk_R RX3 227 "rmw" (adK 1) U ∧ va_Z "java/lang/String" "COMPACT_STRINGS" "Z" (.int 1) A U H
theorem vS.same {A : Nat → Prop} {u U : State} {H : Heap} (hvm : u.vm.Alike U.vm) (hv : U.vm = u.vm) (h : vS A u H) : vS A U H := by
  obtain ⟨adK, adV, h1, h2, h3, h4⟩ := h
  exact ⟨adK, adV, h1.moved hvm, h2.same hv, h3.same hv, h4.moved hvm⟩
theorem vS.at {A B : Nat → Prop} {s U : State} {H0 H : Heap} {locs : List Loc} (hW : s.WarmedH U.vm) (h : vS A s H0) (hS : va_S A H0 H locs) (hAB : ∀ q, B q → A q) : vS B U H := by
  obtain ⟨adK, adV, h1, h2, h3, h4⟩ := h
  exact ⟨adK, adV, ((h1.kept hS.2.1).narrow hAB).moved hW.alike, h2.warm hW, h3.warm hW, ((h4.kept hS.2.1).narrow hAB).moved hW.alike⟩
abbrev cPre (D : va_G) (cl : List vw_C) (tys : List (ClassId × FieldType)) (ws : va_W) (sz : Nat) (U : State) : Prop := U.heap.size = sz ∧ va_P D cl ws U.heap ∧ va_K D cl tys U ∧ cN U ∧ vS (va_A ws sz) U U.heap ∧ va_D (fun _ => True) ws
abbrev cWd (D : va_G) (cl : List vw_C) (A : Nat → Prop) (u : va_W) (t : State) : Prop := va_P D cl u t.heap ∧ va_D A u
def CGI (l : Launch) (y : MethodName) (wl : List Cond) (rm : Room) (mc ms : Nat) (D : va_G) (cl : List vw_C) (tys : List (ClassId × FieldType)) (av : List Value) (ws : va_W) (post : Int32 → va_W → Prop) : Prop :=
  ∀ sz : Nat, Met l y wl rm (va_Pc av (cPre D cl tys ws sz)) (va_Qi post (cWd D cl (va_A ws sz)) (va_A ws sz)) mc ms (va_A ws sz)
def CGV (l : Launch) (y : MethodName) (wl : List Cond) (rm : Room) (mc ms : Nat) (D : va_G) (cl : List vw_C) (tys : List (ClassId × FieldType)) (av : List Value) (ws : va_W) (post : va_W → Prop) : Prop :=
  ∀ sz : Nat, Met l y wl rm (va_Pc av (cPre D cl tys ws sz)) (va_Qv post (cWd D cl (va_A ws sz)) (va_A ws sz)) mc ms (va_A ws sz)
abbrev CI (l : Launch) (y : MethodName) (wl : List Cond) (rm : Room) (D : va_G) (cl : List vw_C) (tys : List (ClassId × FieldType)) (av : List Value) (ws : va_W) (r0 : Int32) (ws' : va_W) : Prop := CGI l y wl rm 0 0 D cl tys av ws (fun r u => r = r0 ∧ u = ws')
abbrev CV (l : Launch) (y : MethodName) (wl : List Cond) (rm : Room) (D : va_G) (cl : List vw_C) (tys : List (ClassId × FieldType)) (av : List Value) (ws ws' : va_W) : Prop := CGV l y wl rm 0 0 D cl tys av ws (fun u => u = ws')
abbrev qI (D : va_G) (A : Nat → Prop) (r0 : Int32) (ws' : va_W) : Array Value → State → Outcome → State → Prop := va_Qi (fun (r : Int32) (u : va_W) => r = r0 ∧ u = ws') (cWd D vwCl A) A
abbrev qV (D : va_G) (A : Nat → Prop) (ws' : va_W) : Array Value → State → Outcome → State → Prop := va_Qv (fun u : va_W => u = ws') (cWd D vwCl A) A
theorem cPre_blind {D : va_G} {cl : List vw_C} {tys : List (ClassId × FieldType)} {ws : va_W} {sz : Nat} {av : List Value} : FrameBlind (va_Pc av (cPre D cl tys ws sz)) := fun a U g mk q => by
  obtain ⟨q0, q1, qP, qK, qN, qV, qD⟩ := q
  exact ⟨q0, q1, qP, va_K.moved (u := U) (U := U.calling g mk a) (Vm.Alike.refl U.vm) qK, cN.same (u := U) (U := U.calling g mk a) rfl qN, vS.same (u := U) (U := U.calling g mk a) (Vm.Alike.refl U.vm) rfl qV, qD⟩
/-- what holds at a method's entry -/
def cAt (p : Program) (s : State) (m : MethodId) (args : Array Value) (meth : Method) (c : Code) (cc : ByteArray) (nL : Nat) (ret : Option FieldType) (wl : List Cond) (own : String) (D : va_G) (cl : List vw_C) (tys : List (ClassId × FieldType)) (A : Nat → Prop) (ws : va_W) (H : Heap) (locs : List Loc) : Prop :=
  CallFix p m c cc nL s args wl own ∧ meth.sig.returnType = ret ∧ meth.locks = false ∧ vS A s s.heap ∧ cN s ∧ va_K D cl tys s ∧ va_P D cl ws H ∧ va_D A ws ∧ va_S A s.heap H locs ∧ ∀ q : Nat, s.heap.size ≤ q → A q
section CO
variable {l : Launch} {y : MethodName} {wl wl' : List Cond} {rm : Room} {mc ms nL : Nat} {D : va_G} {cl : List vw_C} {tys : List (ClassId × FieldType)} {av : List Value} {ws : va_W} {cc : ByteArray} {ret : Option FieldType}
theorem CGI_of {post : Int32 → va_W → Prop} (hy : plainName y.cls = true) (hw : wl = Cond.code y cc nL ret :: wl') (hlen : (lg_sl av).length ≤ nL)
    (body : ∀ p e s m args below meth c A ls H locs, cAt p s m args meth c cc nL ret wl y.cls D cl tys A ws H locs → lv_has ls nL (lv_args 0 av) → W p l e (headSpec wl rm).room s m args below meth c H locs 0 0 (MQ below (va_Qi post (cWd D cl A) A) args s mc ms A) (F0 m 0 ls [])) : CGI l y wl rm mc ms D cl tys av ws post := by
  intro sz
  refine Met.ofW (cc := cc) (maxL := nL) (ret := ret) hy hw ?_
  intro p e s m args below meth c s₁ B hml hv
  obtain ⟨rfl, hsz, hP, hK, hN, hV, hD0⟩ := hv
  have hts := atoms_spec (ws := wl) B.pre
  have hown : s.vm.findClass y.cls = some m.cls := findClass_of_methodNamed B.named
  subst hsz
  have hl := lv_entry av (n := nL) hlen
  rw [lg_entry_eq]
  exact body p e s m _ below meth c _ _ _ _ ⟨⟨B.exec, B.bytes, hml, hown, hts⟩, B.returns, B.notSynchronized, hV, hN, hK, hP, hD0.self, va_S.rf, fun q h => Or.inr h⟩ hl
theorem CGV_of {post : va_W → Prop} (hy : plainName y.cls = true) (hw : wl = Cond.code y cc nL ret :: wl') (hlen : (lg_sl av).length ≤ nL)
    (body : ∀ p e s m args below meth c A ls H locs, cAt p s m args meth c cc nL ret wl y.cls D cl tys A ws H locs → lv_has ls nL (lv_args 0 av) → W p l e (headSpec wl rm).room s m args below meth c H locs 0 0 (MQ below (va_Qv post (cWd D cl A) A) args s mc ms A) (F0 m 0 ls [])) : CGV l y wl rm mc ms D cl tys av ws post := by
  intro sz
  refine Met.ofW (cc := cc) (maxL := nL) (ret := ret) hy hw ?_
  intro p e s m args below meth c s₁ B hml hv
  obtain ⟨rfl, hsz, hP, hK, hN, hV, hD0⟩ := hv
  have hts := atoms_spec (ws := wl) B.pre
  have hown : s.vm.findClass y.cls = some m.cls := findClass_of_methodNamed B.named
  subst hsz
  have hl := lv_entry av (n := nL) hlen
  rw [lg_entry_eq]
  exact body p e s m _ below meth c _ _ _ _ ⟨⟨B.exec, B.bytes, hml, hown, hts⟩, B.returns, B.notSynchronized, hV, hN, hK, hP, hD0.self, va_S.rf, fun q h => Or.inr h⟩ hl
end CO
/-- the caller's cells around the callee's -/
theorem fr_join {A0 : Nat → Prop} {D : va_G} {cl : List vw_C} {pre ws suf ws1 : va_W} {H H1 : Heap} (hP : va_P D cl (pre ++ (ws ++ suf)) H) (hD : va_D A0 (pre ++ (ws ++ suf)))
    (hk : ∀ q : Nat, q < H.size → ¬ va_A ws H.size q → H1[q]? = H[q]?) (hF : ∀ q, va_A ws H.size q → A0 q) (hP1 : va_P D cl ws1 H1) (hD1 : va_D (va_A ws H.size) ws1) : va_P D cl (pre ++ (ws1 ++ suf)) H1 ∧ va_D A0 (pre ++ (ws1 ++ suf)) := by
  have gp : ∀ (k : Nat) (q : Nat × va_E), pre[k]? = some q → (pre ++ (ws ++ suf))[k]? = some q := fun k q h => by
    rw [List.getElem?_append_left (List.getElem?_eq_some_iff.mp h).1]; exact h
  have gw : ∀ (k : Nat) (q : Nat × va_E), ws[k]? = some q → (pre ++ (ws ++ suf))[pre.length + k]? = some q := fun k q h => by
    rw [List.getElem?_append_right (by omega), Nat.add_sub_cancel_left, List.getElem?_append_left (List.getElem?_eq_some_iff.mp h).1]; exact h
  have gs : ∀ (k : Nat) (q : Nat × va_E), suf[k]? = some q → (pre ++ (ws ++ suf))[pre.length + (ws.length + k)]? = some q := fun k q h => by
    rw [List.getElem?_append_right (by omega), Nat.add_sub_cancel_left, List.getElem?_append_right (by omega), Nat.add_sub_cancel_left]; exact h
  have ap : ∀ (q : Nat × va_E) (j : Nat), (pre ++ (ws ++ suf))[j]? = some q → (∀ k : Nat, k < ws.length → j ≠ pre.length + k) → q.1 < H.size ∧ ¬ va_A ws H.size q.1 := by
    intro q j hj hne
    have hl := (hP j q hj).lt
    refine ⟨hl, fun h => ?_⟩
    rcases h with ⟨k, e, h⟩ | h
    · have := hD.1 j (pre.length + k) q (q.1, e) hj (gw k _ h) rfl
      exact hne k (List.getElem?_eq_some_iff.mp h).1 this
    · omega
  have app : ∀ (k : Nat) (q : Nat × va_E), pre[k]? = some q → q.1 < H.size ∧ ¬ va_A ws H.size q.1 := fun k q h => ap q k (gp k q h) (fun j _ => by have := (List.getElem?_eq_some_iff.mp h).1; omega)
  have aps : ∀ (k : Nat) (q : Nat × va_E), suf[k]? = some q → q.1 < H.size ∧ ¬ va_A ws H.size q.1 := fun k q h => ap q _ (gs k q h) (fun j _ => by omega)
  refine ⟨va_P.app (fun k q h => ?_) (va_P.app hP1 (fun k q h => ?_)), va_D.app ⟨fun i j x z hx hz e => ?_, fun k q h => hD.2 _ q (gp k q h)⟩ (va_D.app (hD1.weaken (fun k q _ h => hF q.1 h)) ⟨fun i j x z hx hz e => ?_, fun k q h => hD.2 _ q (gs k q h)⟩ (fun i j x z hx hz e => ?_)) (fun i j x z hx hz e => ?_)⟩
  · obtain ⟨g1, g2⟩ := app k q h
    exact (hP k q (gp k q h)).kept (hk q.1 g1 g2)
  · obtain ⟨g1, g2⟩ := aps k q h
    exact (hP _ q (gs k q h)).kept (hk q.1 g1 g2)
  · exact hD.1 i j x z (gp i x hx) (gp j z hz) e
  · have := hD.1 _ _ x z (gs i x hx) (gs j z hz) e
    omega
  · exact (aps j z hz).2 (by rw [← e]; exact hD1.2 i x hx)
  · have hxl := (List.getElem?_eq_some_iff.mp hx).1
    by_cases hj : j < ws1.length
    · rw [List.getElem?_append_left hj] at hz
      exact (app i x hx).2 (by rw [e]; exact hD1.2 j z hz)
    · rw [List.getElem?_append_right (by omega)] at hz
      have := hD.1 _ _ x z (gp i x hx) (gs _ z hz) e
      omega
theorem va_perm {D : va_G} {cl : List vw_C} {w w' : va_W} {H : Heap} (h : w.Perm w') (hP : va_P D cl w H) : va_P D cl w' H := by
  intro k q hq
  obtain ⟨i, hi⟩ := List.getElem?_of_mem (h.mem_iff.mpr (List.mem_of_getElem? hq))
  exact hP i q hi
theorem va_D_iff {A : Nat → Prop} {w : va_W} : va_D A w ↔ (w.map Prod.fst).Nodup ∧ ∀ q ∈ w, A q.1 := by
  constructor
  · intro h
    refine ⟨?_, fun q hq => by obtain ⟨i, hi⟩ := List.getElem?_of_mem hq; exact h.2 i q hi⟩
    rw [List.Nodup, List.pairwise_iff_getElem]
    intro i j hi hj hij e
    rw [List.getElem_map, List.getElem_map] at e
    rw [List.length_map] at hi hj
    have := h.1 i j _ _ (List.getElem?_eq_getElem hi) (List.getElem?_eq_getElem hj) e
    omega
  · rintro ⟨h1, h2⟩
    refine ⟨fun i j p q hi hj e => ?_, fun k q hk => h2 q (List.mem_of_getElem? hk)⟩
    have hi' := (List.getElem?_eq_some_iff.mp hi)
    have hj' := (List.getElem?_eq_some_iff.mp hj)
    obtain ⟨li, ei⟩ := hi'
    obtain ⟨lj, ej⟩ := hj'
    rw [List.Nodup, List.pairwise_iff_getElem] at h1
    rcases Nat.lt_trichotomy i j with h | h | h
    · exact absurd (by rw [List.getElem_map, List.getElem_map, ei, ej]; exact e) (h1 i j (by rw [List.length_map]; exact li) (by rw [List.length_map]; exact lj) h)
    · exact h
    · exact absurd (by rw [List.getElem_map, List.getElem_map, ei, ej]; exact e.symm) (h1 j i (by rw [List.length_map]; exact lj) (by rw [List.length_map]; exact li) h)
theorem va_Dperm {A : Nat → Prop} {w w' : va_W} (h : w.Perm w') (hD : va_D A w) : va_D A w' := by
  rw [va_D_iff] at hD ⊢
  exact ⟨(h.map Prod.fst).nodup hD.1, fun q hq => hD.2 q (h.mem_iff.mpr hq)⟩
section XR
variable {p : Program} {l : Launch} {e : Env} {R : Room} {s : State} {m : MethodId} {args : Array Value} {below : List Frame} {meth : Method} {c : Code} {H : Heap} {locs : List Loc} {cells slots : Nat} {Q : State → Prop}
variable {cc bytes : ByteArray} {pc : Nat} {ls : Array Slot} {rest st0 : List Value} {D : va_G} {cl : List vw_C} {A : Nat → Prop} {tys : List (ClassId × FieldType)}
variable {Ts wl : List Cond} {nL maxL index n mc ms : Nat} {own C host : String} {y : MethodName} {ret : Option FieldType} {rm : Room} {b : Nat} {As : List Value} {ws ws' pre suf : va_W} {r0 : Int32}
theorem x_pre {av : List Value} (hS : va_S A s.heap H locs) (hA : ∀ q, s.heap.size ≤ q → A q) (hV : vS A s s.heap) (hN : cN s) (hK : va_K D cl tys s) (hP : va_P D cl (pre ++ (ws ++ suf)) H) (hD : va_D A (pre ++ (ws ++ suf))) : ∀ U : State, U.heap = H → s.WarmedH U.vm → va_Pc av (cPre D cl tys ws H.size) av.toArray U := by
  intro U hU hW
  refine ⟨rfl, by rw [hU], ?_, va_K.moved hW.alike hK, hN.warm hW, ?_, ⟨fun i j x z hx hz e => ?_, fun _ _ _ => trivial⟩⟩
  · rw [hU]
    intro k q h
    exact hP (pre.length + k) q (by rw [List.getElem?_append_right (by omega), Nat.add_sub_cancel_left, List.getElem?_append_left (List.getElem?_eq_some_iff.mp h).1]; exact h)
  · rw [hU]
    exact vS.at hW hV hS (fun q h => by
      rcases h with ⟨k, e, h⟩ | h
      · exact hD.2 (pre.length + k) (q, e) (by rw [List.getElem?_append_right (by omega), Nat.add_sub_cancel_left, List.getElem?_append_left (List.getElem?_eq_some_iff.mp h).1]; exact h)
      · exact hA q (Nat.le_trans hS.1 h))
  · have := hD.1 (pre.length + i) (pre.length + j) x z (by rw [List.getElem?_append_right (by omega), Nat.add_sub_cancel_left, List.getElem?_append_left (List.getElem?_eq_some_iff.mp hx).1]; exact hx) (by rw [List.getElem?_append_right (by omega), Nat.add_sub_cancel_left, List.getElem?_append_left (List.getElem?_eq_some_iff.mp hz).1]; exact hz) e
    omega
theorem x_free (hD : va_D A (pre ++ (ws ++ suf))) (hS : va_S A s.heap H locs) (hA : ∀ q, s.heap.size ≤ q → A q) : ∀ q, va_A ws H.size q → A q := by
  intro q h
  rcases h with ⟨k, e, h⟩ | h
  · exact hD.2 (pre.length + k) (q, e) (by rw [List.getElem?_append_right (by omega), Nat.add_sub_cancel_left, List.getElem?_append_left (List.getElem?_eq_some_iff.mp h).1]; exact h)
  · exact hA q (Nat.le_trans hS.1 h)
/-- behind a call that answers an int -/
theorem x_endI {post : Int32 → va_W → Prop} {a : Array Value} (hr : va_Run p l e R s m args below meth c H locs cells slots mc ms (F0 m pc ls st0) rest (va_Qi post (cWd D cl (va_A ws H.size)) (va_A ws H.size) a) (va_A ws H.size)) (hP : va_P D cl (pre ++ (ws ++ suf)) H) (hD : va_D A (pre ++ (ws ++ suf))) (hS : va_S A s.heap H locs) (hA : ∀ q, s.heap.size ≤ q → A q)
    (kk : ∀ (r : Int32) (u : va_W) (H1 : Heap) (locs1 : List Loc), post r u → va_P D cl (pre ++ (u ++ suf)) H1 → va_D A (pre ++ (u ++ suf)) → va_S A s.heap H1 locs1 → W p l e R s m args below meth c H1 locs1 (cells + mc) (slots + ms) Q (F0 m (pc + 3) ls (.int r :: rest))) : W p l e R s m args below meth c H locs cells slots Q (F0 m pc ls st0) := by
  have hF := x_free hD hS hA
  refine va_calli hr hS (fun q _ h => hF q h) hF (fun r u t H1 locs1 ht hvm hw hB hz1 hk1 hS1 => ?_)
  obtain ⟨hP1, hD1⟩ := hB
  rw [ht] at hP1
  obtain ⟨hP2, hD2⟩ := fr_join hP hD hk1 hF hP1 hD1
  exact kk r u H1 locs1 hw hP2 hD2 hS1
theorem x_endV {post : va_W → Prop} {a : Array Value} (hr : va_Run p l e R s m args below meth c H locs cells slots mc ms (F0 m pc ls st0) rest (va_Qv post (cWd D cl (va_A ws H.size)) (va_A ws H.size) a) (va_A ws H.size)) (hP : va_P D cl (pre ++ (ws ++ suf)) H) (hD : va_D A (pre ++ (ws ++ suf))) (hS : va_S A s.heap H locs) (hA : ∀ q, s.heap.size ≤ q → A q)
    (kk : ∀ (u : va_W) (H1 : Heap) (locs1 : List Loc), post u → va_P D cl (pre ++ (u ++ suf)) H1 → va_D A (pre ++ (u ++ suf)) → va_S A s.heap H1 locs1 → W p l e R s m args below meth c H1 locs1 (cells + mc) (slots + ms) Q (F0 m (pc + 3) ls rest)) : W p l e R s m args below meth c H locs cells slots Q (F0 m pc ls st0) := by
  have hF := x_free hD hS hA
  refine va_callv hr hS (fun q _ h => hF q h) hF (fun u t H1 locs1 ht hvm hw hB hz1 hk1 hS1 => ?_)
  obtain ⟨hP1, hD1⟩ := hB
  rw [ht] at hP1
  obtain ⟨hP2, hD2⟩ := fr_join hP hD hk1 hF hP1 hD1
  exact kk u H1 locs1 hw hP2 hD2 hS1
theorem x_recv {q0 ci : Nat} {rc : vw_C} {fs : List Value} (hK : va_K D cl tys s) (hP : va_P D cl ws H) (hc : cl[ci]? = some rc) (he : ws[q0]? = some (b, .inr (ci, fs))) (hC : rc.1 = C) : ∃ cell : Cell, H[b]? = some cell ∧ cell.vm.isStatics = false ∧ s.vm.findClass C = some cell.cls := by
  subst hC
  exact va_recv hK hP hc he
/-- a call of a method of an object whose cells are the caller's whole world -/
theorem x_VI (S : CallFix p m c cc nL s args Ts own) (hM : CI l y wl rm D cl tys (.ref b :: As) ws r0 ws') (cw : CallW R s args own C index y bytes maxL ret wl rm 0 0 n)
    (q0 ci : Nat) {rc : vw_C} {fs : List Value} (hV : vS A s s.heap) (hN : cN s) (hK : va_K D cl tys s) (hP : va_P D cl ws H) (hD : va_D A ws) (hS : va_S A s.heap H locs) (hA : ∀ q, s.heap.size ≤ q → A q) (hc : cl[ci]? = some rc) (he : ws[q0]? = some (b, .inr (ci, fs))) (hC : rc.1 = C)
    (hn : As.length = n) (hsize : ls.size = nL) (hstack : st0 = As.reverse ++ .ref b :: rest) (hW : (rest.map fun v => v.category).sum ≤ 8) (hf : cells ≤ R.cells ∧ slots ≤ R.slots) (hdg : decode cc pc = .ok (.invokevirtual index, 3))
    (kk : ∀ (H1 : Heap) (locs1 : List Loc), va_P D cl ws' H1 → va_D A ws' → va_S A s.heap H1 locs1 → W p l e R s m args below meth c H1 locs1 cells slots Q (F0 m (pc + 3) ls (.int r0 :: rest))) : W p l e R s m args below meth c H locs cells slots Q (F0 m pc ls st0) := by
  have hP0 : va_P D cl ([] ++ (ws ++ [])) H := by rw [List.append_nil]; exact hP
  have hD0 : va_D A ([] ++ (ws ++ [])) := by rw [List.append_nil]; exact hD
  refine x_endI (va_runV (g := F0 m pc ls st0) S (hM H.size) cw ⟨cPre_blind, x_recv hK hP hc he hC, x_pre hS hA hV hN hK hP0 hD0⟩ rfl hn hsize hstack (lv_room hW) hdg hf) hP0 hD0 hS hA (fun r u H1 locs1 hw hP1 hD1 hS1 => ?_)
  obtain ⟨rfl, rfl⟩ := hw
  rw [List.append_nil] at hP1 hD1
  exact kk H1 locs1 hP1 hD1 hS1
theorem x_VV (S : CallFix p m c cc nL s args Ts own) (hM : CV l y wl rm D cl tys (.ref b :: As) ws ws') (cw : CallW R s args own C index y bytes maxL ret wl rm 0 0 n)
    (q0 ci : Nat) {rc : vw_C} {fs : List Value} (hV : vS A s s.heap) (hN : cN s) (hK : va_K D cl tys s) (hP : va_P D cl ws H) (hD : va_D A ws) (hS : va_S A s.heap H locs) (hA : ∀ q, s.heap.size ≤ q → A q) (hc : cl[ci]? = some rc) (he : ws[q0]? = some (b, .inr (ci, fs))) (hC : rc.1 = C)
    (hn : As.length = n) (hsize : ls.size = nL) (hstack : st0 = As.reverse ++ .ref b :: rest) (hW : (rest.map fun v => v.category).sum ≤ 8) (hf : cells ≤ R.cells ∧ slots ≤ R.slots) (hdg : decode cc pc = .ok (.invokevirtual index, 3))
    (kk : ∀ (H1 : Heap) (locs1 : List Loc), va_P D cl ws' H1 → va_D A ws' → va_S A s.heap H1 locs1 → W p l e R s m args below meth c H1 locs1 cells slots Q (F0 m (pc + 3) ls rest)) : W p l e R s m args below meth c H locs cells slots Q (F0 m pc ls st0) := by
  have hP0 : va_P D cl ([] ++ (ws ++ [])) H := by rw [List.append_nil]; exact hP
  have hD0 : va_D A ([] ++ (ws ++ [])) := by rw [List.append_nil]; exact hD
  refine x_endV (va_runV (g := F0 m pc ls st0) S (hM H.size) cw ⟨cPre_blind, x_recv hK hP hc he hC, x_pre hS hA hV hN hK hP0 hD0⟩ rfl hn hsize hstack (lv_room hW) hdg hf) hP0 hD0 hS hA (fun u H1 locs1 hw hP1 hD1 hS1 => ?_)
  obtain rfl := hw
  rw [List.append_nil] at hP1 hD1
  exact kk H1 locs1 hP1 hD1 hS1
/-- a call of a method of an object whose cells are a part of the caller's world -/
theorem x_PI {w w' wr : va_W} (S : CallFix p m c cc nL s args Ts own) (hM : CI l y wl rm D cl tys (.ref b :: As) ws r0 ws') (cw : CallW R s args own C index y bytes maxL ret wl rm 0 0 n)
    (q0 ci : Nat) {rc : vw_C} {fs : List Value} (hV : vS A s s.heap) (hN : cN s) (hK : va_K D cl tys s) (hP : va_P D cl w H) (hD : va_D A w) (hS : va_S A s.heap H locs) (hA : ∀ q, s.heap.size ≤ q → A q) (h1 : w.Perm (ws ++ wr)) (h2 : (ws' ++ wr).Perm w') (hc : cl[ci]? = some rc) (he : w[q0]? = some (b, .inr (ci, fs))) (hC : rc.1 = C)
    (hn : As.length = n) (hsize : ls.size = nL) (hstack : st0 = As.reverse ++ .ref b :: rest) (hW : (rest.map fun v => v.category).sum ≤ 8) (hf : cells ≤ R.cells ∧ slots ≤ R.slots) (hdg : decode cc pc = .ok (.invokevirtual index, 3))
    (kk : ∀ (H1 : Heap) (locs1 : List Loc), va_P D cl w' H1 → va_D A w' → va_S A s.heap H1 locs1 → W p l e R s m args below meth c H1 locs1 cells slots Q (F0 m (pc + 3) ls (.int r0 :: rest))) : W p l e R s m args below meth c H locs cells slots Q (F0 m pc ls st0) := by
  have hP0 : va_P D cl ([] ++ (ws ++ wr)) H := va_perm h1 hP
  have hD0 : va_D A ([] ++ (ws ++ wr)) := va_Dperm h1 hD
  refine x_endI (va_runV (g := F0 m pc ls st0) S (hM H.size) cw ⟨cPre_blind, x_recv hK hP hc he hC, x_pre hS hA hV hN hK hP0 hD0⟩ rfl hn hsize hstack (lv_room hW) hdg hf) hP0 hD0 hS hA (fun r u H1 locs1 hw hP1 hD1 hS1 => ?_)
  obtain ⟨rfl, rfl⟩ := hw
  exact kk H1 locs1 (va_perm h2 hP1) (va_Dperm h2 hD1) hS1
theorem x_PV {w w' wr : va_W} (S : CallFix p m c cc nL s args Ts own) (hM : CV l y wl rm D cl tys (.ref b :: As) ws ws') (cw : CallW R s args own C index y bytes maxL ret wl rm 0 0 n)
    (q0 ci : Nat) {rc : vw_C} {fs : List Value} (hV : vS A s s.heap) (hN : cN s) (hK : va_K D cl tys s) (hP : va_P D cl w H) (hD : va_D A w) (hS : va_S A s.heap H locs) (hA : ∀ q, s.heap.size ≤ q → A q) (h1 : w.Perm (ws ++ wr)) (h2 : (ws' ++ wr).Perm w') (hc : cl[ci]? = some rc) (he : w[q0]? = some (b, .inr (ci, fs))) (hC : rc.1 = C)
    (hn : As.length = n) (hsize : ls.size = nL) (hstack : st0 = As.reverse ++ .ref b :: rest) (hW : (rest.map fun v => v.category).sum ≤ 8) (hf : cells ≤ R.cells ∧ slots ≤ R.slots) (hdg : decode cc pc = .ok (.invokevirtual index, 3))
    (kk : ∀ (H1 : Heap) (locs1 : List Loc), va_P D cl w' H1 → va_D A w' → va_S A s.heap H1 locs1 → W p l e R s m args below meth c H1 locs1 cells slots Q (F0 m (pc + 3) ls rest)) : W p l e R s m args below meth c H locs cells slots Q (F0 m pc ls st0) := by
  have hP0 : va_P D cl ([] ++ (ws ++ wr)) H := va_perm h1 hP
  have hD0 : va_D A ([] ++ (ws ++ wr)) := va_Dperm h1 hD
  refine x_endV (va_runV (g := F0 m pc ls st0) S (hM H.size) cw ⟨cPre_blind, x_recv hK hP hc he hC, x_pre hS hA hV hN hK hP0 hD0⟩ rfl hn hsize hstack (lv_room hW) hdg hf) hP0 hD0 hS hA (fun u H1 locs1 hw hP1 hD1 hS1 => ?_)
  obtain rfl := hw
  exact kk H1 locs1 (va_perm h2 hP1) (va_Dperm h2 hD1) hS1
/-- a call of a static method: no cells of its own -/
theorem x_SI (S : CallFix p m c cc nL s args Ts own) (hM : CI l y wl rm D cl tys As [] r0 []) (cw : CallB R s args own index y bytes maxL ret wl rm 0 0 n ∧ (Cond.static y).before args s = true)
    (hV : vS A s s.heap) (hN : cN s) (hK : va_K D cl tys s) (hP : va_P D cl ws H) (hD : va_D A ws) (hS : va_S A s.heap H locs) (hA : ∀ q, s.heap.size ≤ q → A q)
    (hn : As.length = n) (hsize : ls.size = nL) (hstack : st0 = As.reverse ++ rest) (hW : (rest.map fun v => v.category).sum ≤ 8) (hf : cells ≤ R.cells ∧ slots ≤ R.slots) (hdg : decode cc pc = .ok (.invokestatic index, 3))
    (kk : ∀ (H1 : Heap) (locs1 : List Loc), va_P D cl ws H1 → va_D A ws → va_S A s.heap H1 locs1 → W p l e R s m args below meth c H1 locs1 cells slots Q (F0 m (pc + 3) ls (.int r0 :: rest))) : W p l e R s m args below meth c H locs cells slots Q (F0 m pc ls st0) := by
  refine x_endI (pre := []) (ws := []) (suf := ws) (va_runS (g := F0 m pc ls st0) S (hM H.size) cw ⟨cPre_blind, x_pre (pre := []) (suf := ws) hS hA hV hN hK hP hD⟩ rfl hn hsize hstack (lv_room hW) hdg hf) hP hD hS hA (fun r u H1 locs1 hw hP1 hD1 hS1 => ?_)
  obtain ⟨rfl, rfl⟩ := hw
  exact kk H1 locs1 hP1 hD1 hS1
theorem x_SNI (S : CallFix p m c cc nL s args Ts own) (hM : CI l y wl rm D cl tys As [] r0 []) (cw : va_CN R s args own index y host bytes maxL ret wl rm 0 0 n ∧ (Cond.static y).before args s = true ∧ True)
    (hV : vS A s s.heap) (hN : cN s) (hK : va_K D cl tys s) (hP : va_P D cl ws H) (hD : va_D A ws) (hS : va_S A s.heap H locs) (hA : ∀ q, s.heap.size ≤ q → A q)
    (hn : As.length = n) (hsize : ls.size = nL) (hstack : st0 = As.reverse ++ rest) (hW : (rest.map fun v => v.category).sum ≤ 8) (hf : cells ≤ R.cells ∧ slots ≤ R.slots) (hdg : decode cc pc = .ok (.invokestatic index, 3))
    (kk : ∀ (H1 : Heap) (locs1 : List Loc), va_P D cl ws H1 → va_D A ws → va_S A s.heap H1 locs1 → W p l e R s m args below meth c H1 locs1 cells slots Q (F0 m (pc + 3) ls (.int r0 :: rest))) : W p l e R s m args below meth c H locs cells slots Q (F0 m pc ls st0) := by
  refine x_endI (pre := []) (ws := []) (suf := ws) (va_runSN (g := F0 m pc ls st0) S (hM H.size) cw ⟨cPre_blind, x_pre (pre := []) (suf := ws) hS hA hV hN hK hP hD⟩ rfl hn hsize hstack (lv_room hW) hdg hf) hP hD hS hA (fun r u H1 locs1 hw hP1 hD1 hS1 => ?_)
  obtain ⟨rfl, rfl⟩ := hw
  exact kk H1 locs1 hP1 hD1 hS1
/-- the end of a method -/
theorem x_retI {pc : Nat} {ls : Array Slot} {v : Int32} {post : Int32 → va_W → Prop} {locs : List Loc} {H : Heap} {ty : FieldType} (S : CallFix p m c cc nL s args Ts own) (hr : meth.sig.returnType = some ty) (hlocks : meth.locks = false) (hn : narrow ty (.int v) = .int v) (hP : va_P D cl ws H) (hD : va_D A ws) (hS : va_S A s.heap H locs) (hdg : decode cc pc = .ok (.ireturn, 1)) (hp : post v ws) : W p l e R s m args below meth c H locs cells slots (MQ below (va_Qi post (cWd D cl A) A) args s cells slots A) (F0 m pc ls [.int v]) :=
  W.zret S.1 S.2.1 hr hn (fun t ht hW => ⟨⟨v, ws, rfl, hp, by rw [ht]; exact hP, hD⟩, hS.F ht⟩) hS.2.2 hdg hlocks
theorem x_retV {pc : Nat} {ls : Array Slot} {post : va_W → Prop} {locs : List Loc} {H : Heap} (S : CallFix p m c cc nL s args Ts own) (hr : meth.sig.returnType = none) (hlocks : meth.locks = false) (hP : va_P D cl ws H) (hD : va_D A ws) (hS : va_S A s.heap H locs) (hdg : decode cc pc = .ok (.return_, 1)) (hp : post ws) : W p l e R s m args below meth c H locs cells slots (MQ below (va_Qv post (cWd D cl A) A) args s cells slots A) (F0 m pc ls []) :=
  W.vret S.1 S.2.1 hr (fun t ht hW => ⟨⟨ws, rfl, hp, by rw [ht]; exact hP, hD⟩, hS.F ht⟩) hS.2.2 hdg hlocks
/-- a store, with the world behind it named -/
theorem x_iast (S : CallFix p m c cc nL s args Ts own) (hK : va_K D cl tys s) (hP : va_P D cl ws H) (hD : va_D A ws) (hS : va_S A s.heap H locs) (q0 t0 : Nat) {a : Nat} {cA : ClassId} {n : Nat} {f : Nat → Int32} (ha : ws[q0]? = some (a, .inl (cA, n, .inl f))) (ht : tys[t0]? = some (cA, .int)) {i : Int32} {x : Int32} (hw : ws' = ws.set q0 (a, .inl (cA, n, .inl (upd f i.toNatClampNeg x)))) (hin : vp_in i n) (hdg : decode cc pc = .ok (.iastore, 1))
    (kk : ∀ (H1 : Heap) (locs1 : List Loc), va_P D cl ws' H1 → va_D A ws' → va_S A s.heap H1 locs1 → W p l e R s m args below meth c H1 locs1 cells slots Q (F0 m (pc + 1) ls rest)) : W p l e R s m args below meth c H locs cells slots Q (F0 m pc ls (.int x :: .int i :: .ref a :: rest)) := by
  subst hw
  exact va_iast S.1 S.2.1 hK hP hD hS q0 t0 ha ht hin hdg kk
theorem x_cast (S : CallFix p m c cc nL s args Ts own) (hK : va_K D cl tys s) (hP : va_P D cl ws H) (hD : va_D A ws) (hS : va_S A s.heap H locs) (q0 t0 : Nat) {a : Nat} {cA : ClassId} {n : Nat} {f : Nat → Int32} (ha : ws[q0]? = some (a, .inl (cA, n, .inl f))) (ht : tys[t0]? = some (cA, .char)) {i : Int32} {x : Int32} (hw : ws' = ws.set q0 (a, .inl (cA, n, .inl (upd f i.toNatClampNeg (vp_nar .char x))))) (hin : vp_in i n) (hdg : decode cc pc = .ok (.castore, 1))
    (kk : ∀ (H1 : Heap) (locs1 : List Loc), va_P D cl ws' H1 → va_D A ws' → va_S A s.heap H1 locs1 → W p l e R s m args below meth c H1 locs1 cells slots Q (F0 m (pc + 1) ls rest)) : W p l e R s m args below meth c H locs cells slots Q (F0 m pc ls (.int x :: .int i :: .ref a :: rest)) := by
  subst hw
  exact va_cast S.1 S.2.1 hK hP hD hS q0 t0 ha ht hin hdg kk
theorem x_zast (S : CallFix p m c cc nL s args Ts own) (hK : va_K D cl tys s) (hP : va_P D cl ws H) (hD : va_D A ws) (hS : va_S A s.heap H locs) (q0 t0 : Nat) {a : Nat} {cA : ClassId} {n : Nat} {f : Nat → Int32} (ha : ws[q0]? = some (a, .inl (cA, n, .inl f))) (ht : tys[t0]? = some (cA, .boolean)) {i : Int32} {x : Int32} (hw : ws' = ws.set q0 (a, .inl (cA, n, .inl (upd f i.toNatClampNeg (vp_nar .boolean x))))) (hin : vp_in i n) (hdg : decode cc pc = .ok (.bastore, 1))
    (kk : ∀ (H1 : Heap) (locs1 : List Loc), va_P D cl ws' H1 → va_D A ws' → va_S A s.heap H1 locs1 → W p l e R s m args below meth c H1 locs1 cells slots Q (F0 m (pc + 1) ls rest)) : W p l e R s m args below meth c H locs cells slots Q (F0 m pc ls (.int x :: .int i :: .ref a :: rest)) := by
  subst hw
  exact va_zast S.1 S.2.1 hK hP hD hS q0 t0 ha ht hin hdg kk
theorem x_put (S : CallFix p m c cc nL s args Ts own) {ref : String} {T : u_T} {N ci index : Nat} (hin : ∀ w ∈ u_ws C T N, w ∈ Ts) (ty0 : Nat → FieldType) (hty : ∀ k, k < N → parseFieldDescriptor (T k).2.2.1 = some (ty0 k)) (hnm : ∀ a, a < N → ∀ b, b < N → a ≠ b → (T a).2.1 ≠ (T b).2.1) (hK : va_K D cl tys s) (hP : va_P D cl ws H) (hD : va_D A ws) (hS0 : va_S A s.heap H locs) (q0 : Nat) {a : Nat} {fs : List Value} (he : ws[q0]? = some (a, .inr (ci, fs))) (hc : cl[ci]? = some (C, T, N)) (k : Nat) (hk : k < N) (hlink : (Cond.fieldLink own index ref (T k).2.1 (T k).2.2.1).before args s = true) (hsame : (T k).1 = ref) (hfin : (T k).2.2.2 = false) {ty : FieldType} {v : Value} (hn : narrow ty v = v) (hfit : fits ty v = true) (hd : parseFieldDescriptor (T k).2.2.1 = some ty) (hl : k < fs.length)
    (hw : ws' = ws.set q0 (a, .inr (ci, fs.set k v))) (hdg : decode cc pc = .ok (.putfield index, 3)) (kk : ∀ (H1 : Heap) (locs1 : List Loc), va_P D cl ws' H1 → va_D A ws' → va_S A s.heap H1 locs1 → W p l e R s m args below meth c H1 locs1 cells slots Q (F0 m (pc + 3) ls rest)) : W p l e R s m args below meth c H locs cells slots Q (F0 m pc ls (v :: .ref a :: rest)) := by
  subst hw
  exact va_put S.1 S.2.1 S.2.2.2.2 hin ty0 hty hnm S.2.2.2.1 hK hP hD hS0 q0 he hc k hk hlink (fun _ h9 => by rw [← hsame]; exact h9) hfin hd hn hfit hl hdg kk
theorem x_copy (S : CallFix p m c cc nL s args Ts own) (hml : c.maxLocals = ls.size) (hlink : (Cond.methodLink own index arraycopyName).before args s = true) (hnat : (Cond.native arraycopyName).before args s = true) (hstat : (Cond.static arraycopyName).before args s = true) (hini : (Cond.initialized "java/lang/System").before args s = true)
    (hK : va_K D cl tys s) (hP : va_P D cl ws H) (hD : va_D A ws) (hS : va_S A s.heap H locs) (q0 q1 t0 t1 : Nat) {a a0 : Nat} {c0 c1 : ClassId} {n0 n1 : Nat} {f g : Nat → Int32} {ty : FieldType} (ha0 : ws[q0]? = some (a0, .inl (c0, n0, .inl f))) (ha1 : ws[q1]? = some (a, .inl (c1, n1, .inl g))) (ht0 : tys[t0]? = some (c0, ty)) (ht1 : tys[t1]? = some (c1, ty)) (hprim : refKind ty = false)
    {sp dp n : Int32} (h1 : ¬ sp < 0) (h2 : ¬ dp < 0) (h3 : ¬ n < 0) (h4 : sp.toNatClampNeg + n.toNatClampNeg ≤ n0) (h5 : dp.toNatClampNeg + n.toNatClampNeg ≤ n1) (hfit : ∀ i, i < n.toNatClampNeg → fits ty (.int (f (sp.toNatClampNeg + i))) = true)
    (hframes : 1 ≤ R.frames) (hlocals : (rest.map fun v => v.category).sum + (nativeFrameWords "java/lang/System" "arraycopy" 5 + 11) ≤ R.locals) (hw : ws' = ws.set q1 (a, .inl (c1, n1, .inl (va_cpy f g sp.toNatClampNeg dp.toNatClampNeg n.toNatClampNeg)))) (hdg : decode cc pc = .ok (.invokestatic index, 3))
    (kk : ∀ (H1 : Heap) (locs1 : List Loc), va_P D cl ws' H1 → va_D A ws' → va_S A s.heap H1 locs1 → W p l e R s m args below meth c H1 locs1 cells slots Q (F0 m (pc + 3) ls rest)) : W p l e R s m args below meth c H locs cells slots Q (F0 m pc ls (.int n :: .int dp :: .ref a :: .int sp :: .ref a0 :: rest)) := by
  subst hw
  exact va_copyi S.1 S.2.1 hml S.2.2.2.1 hlink hnat hstat hini hK hP hD hS q0 q1 t0 t1 ha0 ha1 ht0 ht1 hprim h1 h2 h3 h4 h5 hfit hframes hlocals hdg kk
/-- an array of arrays of ints: a place of it read -/
theorem x_aldA (hexec : p.tables.exec = Jvm.exec) (hb : c.code = cc) (hK : va_K D cl tys s) (hP : va_P D cl ws H) (q0 t0 : Nat) {a : Nat} {cA : ClassId} {ty : FieldType} {n : Nat} {f : Nat → Option Nat} (ha : ws[q0]? = some (a, .inl (cA, n, .inr (.inr (.inr (.inr f)))))) (ht : tys[t0]? = some (cA, .array ty)) {i : Int32} (hin : vp_in i n) {x : Nat} (hx : f i.toNatClampNeg = some x) (hdg : decode cc pc = .ok (.aaload, 1))
    (kk : W p l e R s m args below meth c H locs cells slots Q (F0 m (pc + 1) ls (.ref x :: rest))) : W p l e R s m args below meth c H locs cells slots Q (F0 m pc ls (.int i :: .ref a :: rest)) := by
  have hlt : i.toNatClampNeg < n := Nat.not_le.mp fun q => hin (Or.inr q)
  exact W.aald (v := .ref x) (ty := .array ty) hexec hb (hP q0 _ ha) ((hK.2 t0 _ ht).1 n (fun j => va_rf (f j))) rfl (fun q => by cases q) (by show ¬ (i < 0 ∨ (arrV _ _ _).slots.size ≤ _); rw [arrV_size]; exact hin) (by show (arrV _ _ _).slots[_]? = _; rw [arrV_read _ _ hlt, hx]; rfl) rfl rfl hdg kk
end XR
