/-! The two texts of the class, and String.indexOf on them -/
abbrev sLen : List Nat := [7, 3]
abbrev sByt : List (List Int32) := [[114, 109, 119, 102, 99, 120, 116], [114, 109, 119]]
def sN (i : Nat) : Nat := sLen.getD i 0
def sB (i j : Nat) : Int32 := (sByt.getD i []).getD j 0
abbrev cPreS (adK adV : Nat → Nat) (sz : Nat) (U : State) : Prop := U.heap.size = sz ∧ vk_S 2 sLen sByt adK adV (va_A [] sz) U U.heap ∧ va_Z "java/lang/String" "COMPACT_STRINGS" "Z" (.int 1) (va_A [] sz) U U.heap
abbrev qS (A : Nat → Prop) (r0 : Int32) : Array Value → State → Outcome → State → Prop := va_Qi (fun (r : Int32) (_ : Unit) => r = r0) (fun _ _ => True) A
def CS (l : Launch) (y : MethodName) (wl : List Cond) (rm : Room) (av : List Value) (adK adV : Nat → Nat) (r0 : Int32) : Prop :=
  ∀ sz : Nat, Met l y wl rm (va_Pc av (cPreS adK adV sz)) (qS (va_A [] sz) r0) 0 0 (va_A [] sz)
theorem cPreS_blind {adK adV : Nat → Nat} {sz : Nat} {av : List Value} : FrameBlind (va_Pc av (cPreS adK adV sz)) := fun a U g mk q => by
  obtain ⟨q0, q1, qV, qZ⟩ := q
  exact ⟨q0, q1, qV.moved (u := U) (U := U.calling g mk a) (Vm.Alike.refl U.vm), qZ.moved (u := U) (U := U.calling g mk a) (Vm.Alike.refl U.vm)⟩
def cAtS (p : Program) (s : State) (m : MethodId) (args : Array Value) (meth : Method) (c : Code) (cc : ByteArray) (nL : Nat) (ret : Option FieldType) (wl : List Cond) (own : String) (adK adV : Nat → Nat) (A : Nat → Prop) (H : Heap) (locs : List Loc) : Prop :=
  CallFix p m c cc nL s args wl own ∧ meth.sig.returnType = ret ∧ meth.locks = false ∧ vk_S 2 sLen sByt adK adV A s s.heap ∧ va_Z "java/lang/String" "COMPACT_STRINGS" "Z" (.int 1) A s s.heap ∧ va_S A s.heap H locs ∧ ∀ q : Nat, s.heap.size ≤ q → A q
theorem CS_of {l : Launch} {y : MethodName} {wl wl' : List Cond} {rm : Room} {nL : Nat} {av : List Value} {cc : ByteArray} {ret : Option FieldType} {adK adV : Nat → Nat} {r0 : Int32} (hy : plainName y.cls = true) (hw : wl = Cond.code y cc nL ret :: wl') (hlen : (lg_sl av).length ≤ nL)
    (body : ∀ p e s m args below meth c A ls H locs, cAtS p s m args meth c cc nL ret wl y.cls adK adV A H locs → lv_has ls nL (lv_args 0 av) → W p l e (headSpec wl rm).room s m args below meth c H locs 0 0 (MQ below (qS A r0) args s 0 0 A) (F0 m 0 ls [])) : CS l y wl rm av adK adV r0 := by
  intro sz
  refine Met.ofW (cc := cc) (maxL := nL) (ret := ret) hy hw ?_
  intro p e s m args below meth c s₁ B hml hv
  obtain ⟨rfl, hsz, hV, hZ⟩ := hv
  have hts := atoms_spec (ws := wl) B.pre
  have hown : s.vm.findClass y.cls = some m.cls := findClass_of_methodNamed B.named
  subst hsz
  have hl := lv_entry av (n := nL) hlen
  rw [lg_entry_eq]
  exact body p e s m _ below meth c _ _ _ _ ⟨⟨B.exec, B.bytes, hml, hown, hts⟩, B.returns, B.notSynchronized, hV, hZ, va_S.rf, fun q h => Or.inr h⟩ hl
section XS
variable {p : Program} {l : Launch} {e : Env} {R : Room} {s : State} {m : MethodId} {args : Array Value} {below : List Frame} {meth : Method} {c : Code} {H : Heap} {locs : List Loc} {cells slots : Nat} {Q : State → Prop}
variable {cc bytes : ByteArray} {pc : Nat} {ls : Array Slot} {rest st0 : List Value} {A : Nat → Prop}
variable {Ts wl : List Cond} {nL maxL index n : Nat} {own C : String} {y : MethodName} {ret : Option FieldType} {rm : Room} {b : Nat} {As : List Value} {r0 : Int32} {adK adV : Nat → Nat}
theorem xs_sub (hS : va_S A s.heap H locs) (hA : ∀ q, s.heap.size ≤ q → A q) : ∀ q, va_A [] H.size q → A q := fun q h => by
  rcases h with ⟨k, e, h⟩ | h
  · simp at h
  · exact hA q (Nat.le_trans hS.1 h)
theorem xs_pre {av : List Value} (hE : vk_S 2 sLen sByt adK adV A s s.heap) (hZ : va_Z "java/lang/String" "COMPACT_STRINGS" "Z" (.int 1) A s s.heap) (hS : va_S A s.heap H locs) (hA : ∀ q, s.heap.size ≤ q → A q) : ∀ U : State, U.heap = H → s.WarmedH U.vm → va_Pc av (cPreS adK adV H.size) av.toArray U := by
  intro U hU hW
  refine ⟨rfl, by rw [hU], ?_, ?_⟩
  · rw [hU]; exact ((hE.kept hS.2.1).narrow (xs_sub hS hA)).moved hW.alike
  · rw [hU]; exact ((hZ.kept hS.2.1).narrow (xs_sub hS hA)).moved hW.alike
theorem xs_end {a : Array Value} (hr : va_Run p l e R s m args below meth c H locs cells slots 0 0 (F0 m pc ls st0) rest (qS (va_A [] H.size) r0 a) (va_A [] H.size)) (hS : va_S A s.heap H locs) (hA : ∀ q, s.heap.size ≤ q → A q)
    (kk : ∀ (H1 : Heap) (locs1 : List Loc), (∀ q : Nat, q < H.size → H1[q]? = H[q]?) → va_S A s.heap H1 locs1 → W p l e R s m args below meth c H1 locs1 cells slots Q (F0 m (pc + 3) ls (.int r0 :: rest))) : W p l e R s m args below meth c H locs cells slots Q (F0 m pc ls st0) := by
  refine va_calli hr hS (fun q _ h => xs_sub hS hA q h) (xs_sub hS hA) (fun r u t H1 locs1 ht hvm hw hB hz1 hk1 hS1 => ?_)
  subst hw
  refine kk H1 locs1 (fun q hq => hk1 q hq (fun h => ?_)) hS1
  rcases h with ⟨k, e, h⟩ | h
  · simp at h
  · omega
theorem xs_V (S : CallFix p m c cc nL s args Ts own) (hM : CS l y wl rm (.ref b :: As) adK adV r0) (cw : CallW R s args own C index y bytes maxL ret wl rm 0 0 n) (hE : vk_S 2 sLen sByt adK adV A s s.heap) (hZ : va_Z "java/lang/String" "COMPACT_STRINGS" "Z" (.int 1) A s s.heap) (hS : va_S A s.heap H locs) (hA : ∀ q, s.heap.size ≤ q → A q) (hrc : ∃ cell : Cell, H[b]? = some cell ∧ cell.vm.isStatics = false ∧ s.vm.findClass C = some cell.cls)
    (hn : As.length = n) (hsize : ls.size = nL) (hstack : st0 = As.reverse ++ .ref b :: rest) (hW : (rest.map fun v => v.category).sum ≤ 8) (hf : cells ≤ R.cells ∧ slots ≤ R.slots) (hdg : decode cc pc = .ok (.invokevirtual index, 3))
    (kk : ∀ (H1 : Heap) (locs1 : List Loc), (∀ q : Nat, q < H.size → H1[q]? = H[q]?) → va_S A s.heap H1 locs1 → W p l e R s m args below meth c H1 locs1 cells slots Q (F0 m (pc + 3) ls (.int r0 :: rest))) : W p l e R s m args below meth c H locs cells slots Q (F0 m pc ls st0) :=
  xs_end (va_runV (g := F0 m pc ls st0) S (hM H.size) cw ⟨cPreS_blind, hrc, xs_pre hE hZ hS hA⟩ rfl hn hsize hstack (lv_room hW) hdg hf) hS hA kk
theorem xs_S (S : CallFix p m c cc nL s args Ts own) (hM : CS l y wl rm As adK adV r0) (cw : CallB R s args own index y bytes maxL ret wl rm 0 0 n ∧ (Cond.static y).before args s = true) (hE : vk_S 2 sLen sByt adK adV A s s.heap) (hZ : va_Z "java/lang/String" "COMPACT_STRINGS" "Z" (.int 1) A s s.heap) (hS : va_S A s.heap H locs) (hA : ∀ q, s.heap.size ≤ q → A q)
    (hn : As.length = n) (hsize : ls.size = nL) (hstack : st0 = As.reverse ++ rest) (hW : (rest.map fun v => v.category).sum ≤ 8) (hf : cells ≤ R.cells ∧ slots ≤ R.slots) (hdg : decode cc pc = .ok (.invokestatic index, 3))
    (kk : ∀ (H1 : Heap) (locs1 : List Loc), (∀ q : Nat, q < H.size → H1[q]? = H[q]?) → va_S A s.heap H1 locs1 → W p l e R s m args below meth c H1 locs1 cells slots Q (F0 m (pc + 3) ls (.int r0 :: rest))) : W p l e R s m args below meth c H locs cells slots Q (F0 m pc ls st0) :=
  xs_end (va_runS (g := F0 m pc ls st0) S (hM H.size) cw ⟨cPreS_blind, xs_pre hE hZ hS hA⟩ rfl hn hsize hstack (lv_room hW) hdg hf) hS hA kk
theorem xs_ret {pc : Nat} {ls : Array Slot} {v : Int32} {locs : List Loc} {H : Heap} {ty : FieldType} (S : CallFix p m c cc nL s args Ts own) (hr : meth.sig.returnType = some ty) (hlocks : meth.locks = false) (hn : narrow ty (.int v) = .int v) (hS : va_S A s.heap H locs) (hdg : decode cc pc = .ok (.ireturn, 1)) (hp : v = r0) : W p l e R s m args below meth c H locs cells slots (MQ below (qS A r0) args s cells slots A) (F0 m pc ls [.int v]) :=
  W.zret S.1 S.2.1 hr hn (fun t ht hW => ⟨⟨v, (), rfl, hp, trivial⟩, hS.F ht⟩) hS.2.2 hdg hlocks
end XS
