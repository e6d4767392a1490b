/-! Contracts of methods that make objects -/
def aN (U : State) : Prop := va_AOA .int U ∧ va_AO "MeanLocks$Locks" U
theorem aN.moved {u U : State} (hvm : u.vm.Alike U.vm) (h : aN u) : aN U := ⟨va_AOA.moved hvm h.1, va_AO.moved hvm h.2⟩
abbrev cPreA (D : va_G) (cl : List vw_C) (tys : List (ClassId × FieldType)) (ws : va_W) (sz : Nat) (U : State) : Prop := aN U ∧ cPre D cl tys ws sz U
def CGVa (l : Launch) (y : MethodName) (wl : List Cond) (rm : Room) (mc ms : Nat) (D : va_G) (cl : List vw_C) (tys : List (ClassId × FieldType)) (av : List Value) (ws : va_W) (post : va_W → Prop) : Prop :=
  ∀ sz : Nat, Met l y wl rm (va_Pc av (cPreA D cl tys ws sz)) (va_Qv post (cWd D cl (va_A ws sz)) (va_A ws sz)) mc ms (va_A ws sz)
def CGIa (l : Launch) (y : MethodName) (wl : List Cond) (rm : Room) (mc ms : Nat) (D : va_G) (cl : List vw_C) (tys : List (ClassId × FieldType)) (av : List Value) (ws : va_W) (post : Int32 → va_W → Prop) : Prop :=
  ∀ sz : Nat, Met l y wl rm (va_Pc av (cPreA D cl tys ws sz)) (va_Qi post (cWd D cl (va_A ws sz)) (va_A ws sz)) mc ms (va_A ws sz)
theorem cPreA_blind {D : va_G} {cl : List vw_C} {tys : List (ClassId × FieldType)} {ws : va_W} {sz : Nat} {av : List Value} : FrameBlind (va_Pc av (cPreA D cl tys ws sz)) := fun a U g mk q => by
  obtain ⟨q0, qa, q1⟩ := q
  exact ⟨q0, aN.moved (u := U) (U := U.calling g mk a) (Vm.Alike.refl U.vm) qa, (cPre_blind a U g mk ⟨q0, q1⟩).2⟩
section COA
variable {l : Launch} {y : MethodName} {wl wl' : List Cond} {rm : Room} {mc ms nL : Nat} {D : va_G} {cl : List vw_C} {tys : List (ClassId × FieldType)} {av : List Value} {ws : va_W} {cc : ByteArray} {ret : Option FieldType}
theorem CGIa_of {post : Int32 → va_W → Prop} (hy : plainName y.cls = true) (hw : wl = Cond.code y cc nL ret :: wl') (hlen : (lg_sl av).length ≤ nL)
    (body : ∀ p e s m args below meth c A ls H locs, aN s → cAt p s m args meth c cc nL ret wl y.cls D cl tys A ws H locs → lv_has ls nL (lv_args 0 av) → W p l e (headSpec wl rm).room s m args below meth c H locs 0 0 (MQ below (va_Qi post (cWd D cl A) A) args s mc ms A) (F0 m 0 ls [])) : CGIa l y wl rm mc ms D cl tys av ws post := by
  intro sz
  refine Met.ofW (cc := cc) (maxL := nL) (ret := ret) hy hw ?_
  intro p e s m args below meth c s₁ B hml hv
  obtain ⟨rfl, hO, hsz, hP, hK, hN, hV, hD0⟩ := hv
  have hts := atoms_spec (ws := wl) B.pre
  have hown : s.vm.findClass y.cls = some m.cls := findClass_of_methodNamed B.named
  subst hsz
  have hl := lv_entry av (n := nL) hlen
  rw [lg_entry_eq]
  exact body p e s m _ below meth c _ _ _ _ hO ⟨⟨B.exec, B.bytes, hml, hown, hts⟩, B.returns, B.notSynchronized, hV, hN, hK, hP, hD0.self, va_S.rf, fun q h => Or.inr h⟩ hl
theorem CGVa_of {post : va_W → Prop} (hy : plainName y.cls = true) (hw : wl = Cond.code y cc nL ret :: wl') (hlen : (lg_sl av).length ≤ nL)
    (body : ∀ p e s m args below meth c A ls H locs, meth.name = y.name → aN s → cAt p s m args meth c cc nL ret wl y.cls D cl tys A ws H locs → lv_has ls nL (lv_args 0 av) → W p l e (headSpec wl rm).room s m args below meth c H locs 0 0 (MQ below (va_Qv post (cWd D cl A) A) args s mc ms A) (F0 m 0 ls [])) : CGVa l y wl rm mc ms D cl tys av ws post := by
  intro sz
  refine Met.ofW (cc := cc) (maxL := nL) (ret := ret) hy hw ?_
  intro p e s m args below meth c s₁ B hml hv
  obtain ⟨rfl, hO, hsz, hP, hK, hN, hV, hD0⟩ := hv
  have hts := atoms_spec (ws := wl) B.pre
  have hown : s.vm.findClass y.cls = some m.cls := findClass_of_methodNamed B.named
  have hnm : meth.name = y.name := (name_of_methodNamed B.named B.method).1
  subst hsz
  have hl := lv_entry av (n := nL) hlen
  rw [lg_entry_eq]
  exact body p e s m _ below meth c _ _ _ _ hnm hO ⟨⟨B.exec, B.bytes, hml, hown, hts⟩, B.returns, B.notSynchronized, hV, hN, hK, hP, hD0.self, va_S.rf, fun q h => Or.inr h⟩ hl
end COA
section XA
variable {p : Program} {l : Launch} {e : Env} {R : Room} {s : State} {m : MethodId} {args : Array Value} {below : List Frame} {meth : Method} {c : Code} {H : Heap} {locs : List Loc} {cells slots : Nat} {Q : State → Prop}
variable {cc bytes : ByteArray} {pc : Nat} {ls : Array Slot} {rest st0 : List Value} {D : va_G} {cl : List vw_C} {A : Nat → Prop} {tys : List (ClassId × FieldType)}
variable {Ts wl : List Cond} {nL maxL index n mc ms : Nat} {own C host : String} {y : MethodName} {ret : Option FieldType} {rm : Room} {b : Nat} {As : List Value} {ws wr w w' : va_W}
theorem x_preA {av : List Value} {pre suf : va_W} (hO : aN s) (hS : va_S A s.heap H locs) (hA : ∀ q, s.heap.size ≤ q → A q) (hV : vS A s s.heap) (hN : cN s) (hK : va_K D cl tys s) (hP : va_P D cl (pre ++ (ws ++ suf)) H) (hD : va_D A (pre ++ (ws ++ suf))) : ∀ U : State, U.heap = H → s.WarmedH U.vm → va_Pc av (cPreA D cl tys ws H.size) av.toArray U := fun U hU hW =>
  have h := x_pre (av := av) hS hA hV hN hK hP hD U hU hW
  ⟨h.1, aN.moved hW.alike hO, h.2⟩
/-- a call that answers nothing of a method that makes objects -/
theorem x_AV {post : va_W → Prop} (S : CallFix p m c cc nL s args Ts own) (hM : CGVa l y wl rm mc ms D cl tys (.ref b :: As) ws post) (cw : CallW R s args own C index y bytes maxL ret wl rm mc ms n)
    (q0 ci : Nat) {rc : vw_C} {fs : List Value} (hO : aN s) (hV : vS A s s.heap) (hN : cN s) (hK : va_K D cl tys s) (hP : va_P D cl w H) (hD : va_D A w) (hS : va_S A s.heap H locs) (hA : ∀ q, s.heap.size ≤ q → A q) (h1 : w.Perm (ws ++ wr)) (hc : cl[ci]? = some rc) (he : w[q0]? = some (b, .inr (ci, fs))) (hC : rc.1 = C)
    (hn : As.length = n) (hsize : ls.size = nL) (hstack : st0 = As.reverse ++ .ref b :: rest) (hW : (rest.map fun v => v.category).sum ≤ 8) (hf : cells + mc ≤ R.cells ∧ slots + ms ≤ R.slots) (hdg : decode cc pc = .ok (.invokevirtual index, 3))
    (kk : ∀ (u : va_W) (H1 : Heap) (locs1 : List Loc), post u → va_P D cl (u ++ wr) H1 → va_D A (u ++ wr) → va_S A s.heap H1 locs1 → W p l e R s m args below meth c H1 locs1 (cells + mc) (slots + ms) Q (F0 m (pc + 3) ls rest)) : W p l e R s m args below meth c H locs cells slots Q (F0 m pc ls st0) := by
  have hP0 : va_P D cl ([] ++ (ws ++ wr)) H := va_perm h1 hP
  have hD0 : va_D A ([] ++ (ws ++ wr)) := va_Dperm h1 hD
  exact x_endV (va_runV (g := F0 m pc ls st0) S (hM H.size) cw ⟨cPreA_blind, x_recv hK hP hc he hC, x_preA hO hS hA hV hN hK hP0 hD0⟩ rfl hn hsize hstack (lv_room hW) hdg hf) hP0 hD0 hS hA kk
theorem x_AI {post : Int32 → va_W → Prop} (S : CallFix p m c cc nL s args Ts own) (hM : CGIa l y wl rm mc ms D cl tys (.ref b :: As) ws post) (cw : CallW R s args own C index y bytes maxL ret wl rm mc ms n)
    (q0 ci : Nat) {rc : vw_C} {fs : List Value} (hO : aN s) (hV : vS A s s.heap) (hN : cN s) (hK : va_K D cl tys s) (hP : va_P D cl w H) (hD : va_D A w) (hS : va_S A s.heap H locs) (hA : ∀ q, s.heap.size ≤ q → A q) (h1 : w.Perm (ws ++ wr)) (hc : cl[ci]? = some rc) (he : w[q0]? = some (b, .inr (ci, fs))) (hC : rc.1 = C)
    (hn : As.length = n) (hsize : ls.size = nL) (hstack : st0 = As.reverse ++ .ref b :: rest) (hW : (rest.map fun v => v.category).sum ≤ 8) (hf : cells + mc ≤ R.cells ∧ slots + ms ≤ R.slots) (hdg : decode cc pc = .ok (.invokevirtual index, 3))
    (kk : ∀ (r : Int32) (u : va_W) (H1 : Heap) (locs1 : List Loc), post r u → va_P D cl (u ++ wr) H1 → va_D A (u ++ wr) → va_S A s.heap H1 locs1 → W p l e R s m args below meth c H1 locs1 (cells + mc) (slots + ms) Q (F0 m (pc + 3) ls (.int r :: rest))) : W p l e R s m args below meth c H locs cells slots Q (F0 m pc ls st0) := by
  have hP0 : va_P D cl ([] ++ (ws ++ wr)) H := va_perm h1 hP
  have hD0 : va_D A ([] ++ (ws ++ wr)) := va_Dperm h1 hD
  exact x_endI (va_runV (g := F0 m pc ls st0) S (hM H.size) cw ⟨cPreA_blind, x_recv hK hP hc he hC, x_preA hO hS hA hV hN hK hP0 hD0⟩ rfl hn hsize hstack (lv_room hW) hdg hf) hP0 hD0 hS hA kk
/-- a call of a constructor that makes objects -/
theorem x_NV {post : va_W → Prop} (S : CallFix p m c cc nL s args Ts own) (hM : CGVa l y wl rm mc ms D cl tys (.ref b :: As) ws post) (cw : CallB R s args own index y bytes maxL none wl rm mc ms n ∧ y.name = "<init>" ∧ (Cond.instanceMethod y).before args s = true)
    (hO : aN s) (hV : vS A s s.heap) (hN : cN s) (hK : va_K D cl tys s) (hP : va_P D cl w H) (hD : va_D A w) (hS : va_S A s.heap H locs) (hA : ∀ q, s.heap.size ≤ q → A q) (h1 : w.Perm (ws ++ wr))
    (hn : As.length = n) (hsize : ls.size = nL) (hstack : st0 = As.reverse ++ .ref b :: rest) (hW : (rest.map fun v => v.category).sum ≤ 8) (hf : cells + mc ≤ R.cells ∧ slots + ms ≤ R.slots) (hdg : decode cc pc = .ok (.invokespecial index, 3))
    (kk : ∀ (u : va_W) (H1 : Heap) (locs1 : List Loc), post u → va_P D cl (u ++ wr) H1 → va_D A (u ++ wr) → va_S A s.heap H1 locs1 → W p l e R s m args below meth c H1 locs1 (cells + mc) (slots + ms) Q (F0 m (pc + 3) ls rest)) : W p l e R s m args below meth c H locs cells slots Q (F0 m pc ls st0) := by
  have hP0 : va_P D cl ([] ++ (ws ++ wr)) H := va_perm h1 hP
  have hD0 : va_D A ([] ++ (ws ++ wr)) := va_Dperm h1 hD
  exact x_endV (va_runI (g := F0 m pc ls st0) S (hM H.size) cw ⟨cPreA_blind, x_preA hO hS hA hV hN hK hP0 hD0⟩ rfl hn hsize hstack (lv_room hW) hdg hf) hP0 hD0 hS hA kk
/-- the same through a nest mate's link -/
theorem x_NN {post : va_W → Prop} (S : CallFix p m c cc nL s args Ts own) (hM : CGVa l y wl rm mc ms D cl tys (.ref b :: As) ws post) (cw : va_CN R s args own index y host bytes maxL none wl rm mc ms n ∧ y.name = "<init>" ∧ (Cond.instanceMethod y).before args s = true)
    (hO : aN s) (hV : vS A s s.heap) (hN : cN s) (hK : va_K D cl tys s) (hP : va_P D cl w H) (hD : va_D A w) (hS : va_S A s.heap H locs) (hA : ∀ q, s.heap.size ≤ q → A q) (h1 : w.Perm (ws ++ wr))
    (hn : As.length = n) (hsize : ls.size = nL) (hstack : st0 = As.reverse ++ .ref b :: rest) (hW : (rest.map fun v => v.category).sum ≤ 8) (hf : cells + mc ≤ R.cells ∧ slots + ms ≤ R.slots) (hdg : decode cc pc = .ok (.invokespecial index, 3))
    (kk : ∀ (u : va_W) (H1 : Heap) (locs1 : List Loc), post u → va_P D cl (u ++ wr) H1 → va_D A (u ++ wr) → va_S A s.heap H1 locs1 → W p l e R s m args below meth c H1 locs1 (cells + mc) (slots + ms) Q (F0 m (pc + 3) ls rest)) : W p l e R s m args below meth c H locs cells slots Q (F0 m pc ls st0) := by
  have hP0 : va_P D cl ([] ++ (ws ++ wr)) H := va_perm h1 hP
  have hD0 : va_D A ([] ++ (ws ++ wr)) := va_Dperm h1 hD
  exact x_endV (va_runIN (g := F0 m pc ls st0) S (hM H.size) cw ⟨cPreA_blind, x_preA hO hS hA hV hN hK hP0 hD0⟩ rfl hn hsize hstack (lv_room hW) hdg hf) hP0 hD0 hS hA kk
end XA
/-! Classes of rows: each name has one -/
theorem kc0 {D : va_G} {cl : List vw_C} {cA : Nat → ClassId} {c : ClassId} {s : State} (h : va_K D cl (tysW cA ++ [(c, .int)]) s) : c = cA 0 := by
  have h1 := (h.2 0 (cA 0, .int) rfl).2
  have h2 := (h.2 5 (c, .int) rfl).2
  exact Option.some.inj ((va_nm_int h2).symm.trans (va_nm_int h1))
theorem kc1 {D : va_G} {cl : List vw_C} {cA : Nat → ClassId} {c : ClassId} {s : State} (h : va_K D cl (tysW cA ++ [(c, .char)]) s) : c = cA 1 := by
  have h1 := (h.2 1 (cA 1, .char) rfl).2
  have h2 := (h.2 5 (c, .char) rfl).2
  exact Option.some.inj ((va_nm_char h2).symm.trans (va_nm_char h1))
theorem kc2 {D : va_G} {cl : List vw_C} {cA : Nat → ClassId} {c : ClassId} {s : State} (h : va_K D cl (tysW cA ++ [(c, .boolean)]) s) : c = cA 2 := by
  have h1 := (h.2 2 (cA 2, .boolean) rfl).2
  have h2 := (h.2 5 (c, .boolean) rfl).2
  exact Option.some.inj ((va_nm_boolean h2).symm.trans (va_nm_boolean h1))
theorem kc3 {D : va_G} {cl : List vw_C} {cA : Nat → ClassId} {c : ClassId} {s : State} (h : va_K D cl (tysW cA ++ [(c, .object "MeanLocks$Locks")]) s) : c = cA 3 := by
  have h1 := (h.2 3 (cA 3, .object "MeanLocks$Locks") rfl).2
  have h2 := (h.2 5 (c, .object "MeanLocks$Locks") rfl).2
  exact Option.some.inj ((va_nmO h2 rfl).symm.trans (va_nmO h1 rfl))
theorem kc4 {D : va_G} {cl : List vw_C} {cA : Nat → ClassId} {c : ClassId} {s : State} (h : va_K D cl (tysW cA ++ [(c, .array .int)]) s) : c = cA 4 := by
  have h1 : s.vm.findClass ("[" ++ (FieldType.array .int).toString) = some (cA 4) := (h.2 4 (cA 4, .array .int) rfl).2
  have h2 : s.vm.findClass ("[" ++ (FieldType.array .int).toString) = some c := (h.2 5 (c, .array .int) rfl).2
  exact Option.some.inj (h2.symm.trans h1)
/-! The same cells otherwise written -/
theorem va_Pm {D : va_G} {cl : List vw_C} {ws : va_W} {H : Heap} : va_P D cl ws H ↔ ∀ q ∈ ws, va_at D cl q H := by
  constructor
  · intro h q hq
    obtain ⟨i, hi⟩ := List.getElem?_of_mem hq
    exact h i q hi
  · exact fun h k q hk => h q (List.mem_of_getElem? hk)
theorem va_Dfst {A : Nat → Prop} {w w' : va_W} (h : w.map Prod.fst = w'.map Prod.fst) (hD : va_D A w) : va_D A w' := by
  rw [va_D_iff] at hD ⊢
  refine ⟨by rw [← h]; exact hD.1, fun q hq => ?_⟩
  have : q.1 ∈ w.map Prod.fst := by rw [h]; exact List.mem_map.mpr ⟨q, hq, rfl⟩
  obtain ⟨q', hq', e⟩ := List.mem_map.mp this
  rw [← e]
  exact hD.2 q' hq'
theorem arrV_cg {c : ClassId} {n : Nat} {f g : Nat → Value} (h : ∀ i, i < n → f i = g i) : arrV c n f = arrV c n g := by
  have : (fun j : Fin n => f j.val) = fun j => g j.val := funext fun j => h j.val j.isLt
  unfold arrV
  rw [this]
theorem va_Pq {D : va_G} {cl : List vw_C} {pre suf : va_W} {a n : Nat} {c : ClassId} {f g : Nat → Option Nat} {H : Heap} (h : ∀ i, i < n → f i = g i) (hP : va_P D cl (pre ++ ((a, .inl (c, n, .inr (.inr (.inr (.inr f))))) :: suf)) H) : va_P D cl (pre ++ ((a, .inl (c, n, .inr (.inr (.inr (.inr g))))) :: suf)) H := va_Pm.mpr fun q hq => by
  have hP := va_Pm.mp hP
  rcases List.mem_append.mp hq with h1 | h1
  · exact hP q (List.mem_append.mpr (Or.inl h1))
  · rcases List.mem_cons.mp h1 with rfl | h1
    · have h2 : H[a]? = some (vp_cell c (n, .inr (.inr (.inr (.inr f))))) := hP _ (List.mem_append.mpr (Or.inr List.mem_cons_self))
      show H[a]? = some (vp_cell c (n, .inr (.inr (.inr (.inr g)))))
      rw [h2, vp_cell_q, vp_cell_q, arrV_cg (g := fun j => va_rf (g j)) (fun i hi => by rw [h i hi])]
    · exact hP q (List.mem_append.mpr (Or.inr (List.mem_cons_of_mem _ h1)))
theorem mna4 (r : Nat → Nat) (f : Nat → va_E) (v : va_E) : va_pl ([] ++ (List.range 4).map r) (vr_up f ((List.range 4).map r) v) = [(r 0, v), (r 1, v), (r 2, v), (r 3, v)] := by
  have h : ∀ k, k < 4 → vr_up f ((List.range 4).map r) v (r k) = v := fun k hk => vr_up_in (List.mem_map.mpr ⟨k, List.mem_range.mpr hk, rfl⟩)
  show [(r 0, vr_up f ((List.range 4).map r) v (r 0)), (r 1, vr_up f ((List.range 4).map r) v (r 1)), (r 2, vr_up f ((List.range 4).map r) v (r 2)), (r 3, vr_up f ((List.range 4).map r) v (r 3))] = _
  rw [h 0 (by omega), h 1 (by omega), h 2 (by omega), h 3 (by omega)]
theorem inner300 (c : ClassId) : Jvm.Free.Multi.innerC c 300 (defaultValue .int) = vp_cell c (300, .inl (fun _ => (0 : Int32))) := by
  show ({ cls := c, slots := Array.replicate 300 (defaultValue .int), vm := .none } : Cell) = _
  rw [arrV_new]
  rfl
/-- a state of locks written with other names of the same addresses -/
theorem wL_cv {cA : Nat → ClassId} {h : Nat} {ad ad' : Nat → Nat} {σ : St} (e : ∀ k, k < 20 → ad' k = ad k) {D : va_G} {cl : List vw_C} {A : Nat → Prop} {pre suf : va_W} {H : Heap} (hP : va_P D cl (pre ++ (wL cA h ad σ ++ suf)) H) (hD : va_D A (pre ++ (wL cA h ad σ ++ suf))) : va_P D cl (pre ++ (wL cA h ad' σ ++ suf)) H ∧ va_D A (pre ++ (wL cA h ad' σ ++ suf)) := by
  have E : wL cA h ad' σ = [(h, .inr (1, [.ref (ad 0), .int (σ 1 0), .ref (ad 2), .ref (ad 3), .int (σ 4 0), .ref (ad 5), .ref (ad 6), .ref (ad 7), .ref (ad 8), .ref (ad 9), .ref (ad 10), .ref (ad 11), .ref (ad 12), .int (σ 13 0), .int (σ 14 0), .ref (ad 15)])), (ad 0, .inl (cA 0, 3, .inl (σ 0)))] ++ ((ad 2, .inl (cA 4, 4, .inr (.inr (.inr (.inr (fun i => some (ad' (16 + i)))))))) :: [(ad 3, .inl (cA 0, 8, .inl (σ 3))), (ad 5, .inl (cA 0, 8, .inl (σ 5))), (ad 6, .inl (cA 0, 8, .inl (σ 6))), (ad 7, .inl (cA 0, 8, .inl (σ 7))), (ad 8, .inl (cA 0, 8, .inl (σ 8))), (ad 9, .inl (cA 0, 8, .inl (σ 9))), (ad 10, .inl (cA 0, 8, .inl (σ 10))), (ad 11, .inl (cA 0, 8, .inl (σ 11))), (ad 12, .inl (cA 0, 8, .inl (σ 12))), (ad 15, .inl (cA 0, 8, .inl (σ 15))), (ad 16, .inl (cA 0, 300, .inl (σ 16))), (ad 17, .inl (cA 0, 300, .inl (σ 17))), (ad 18, .inl (cA 0, 300, .inl (σ 18))), (ad 19, .inl (cA 0, 300, .inl (σ 19)))]) := by
    unfold wL
    rw [e 0 (by omega), e 2 (by omega), e 3 (by omega), e 5 (by omega), e 6 (by omega), e 7 (by omega), e 8 (by omega), e 9 (by omega), e 10 (by omega), e 11 (by omega), e 12 (by omega), e 15 (by omega), e 16 (by omega), e 17 (by omega), e 18 (by omega), e 19 (by omega)]
    rfl
  constructor
  · have h1 : va_P D cl ((pre ++ [(h, .inr (1, [.ref (ad 0), .int (σ 1 0), .ref (ad 2), .ref (ad 3), .int (σ 4 0), .ref (ad 5), .ref (ad 6), .ref (ad 7), .ref (ad 8), .ref (ad 9), .ref (ad 10), .ref (ad 11), .ref (ad 12), .int (σ 13 0), .int (σ 14 0), .ref (ad 15)])), (ad 0, .inl (cA 0, 3, .inl (σ 0)))]) ++ ((ad 2, .inl (cA 4, 4, .inr (.inr (.inr (.inr (fun i => some (ad (16 + i)))))))) :: ([(ad 3, .inl (cA 0, 8, .inl (σ 3))), (ad 5, .inl (cA 0, 8, .inl (σ 5))), (ad 6, .inl (cA 0, 8, .inl (σ 6))), (ad 7, .inl (cA 0, 8, .inl (σ 7))), (ad 8, .inl (cA 0, 8, .inl (σ 8))), (ad 9, .inl (cA 0, 8, .inl (σ 9))), (ad 10, .inl (cA 0, 8, .inl (σ 10))), (ad 11, .inl (cA 0, 8, .inl (σ 11))), (ad 12, .inl (cA 0, 8, .inl (σ 12))), (ad 15, .inl (cA 0, 8, .inl (σ 15))), (ad 16, .inl (cA 0, 300, .inl (σ 16))), (ad 17, .inl (cA 0, 300, .inl (σ 17))), (ad 18, .inl (cA 0, 300, .inl (σ 18))), (ad 19, .inl (cA 0, 300, .inl (σ 19)))] ++ suf))) H := by
      rw [List.append_assoc]; exact hP
    have h2 := va_Pq (g := fun i => some (ad' (16 + i))) (fun i hi => by rw [e (16 + i) (by omega)]) h1
    rw [List.append_assoc] at h2
    rw [E]
    exact h2
  · refine va_Dfst ?_ hD
    rw [E]
    simp only [List.map_append]
    rfl
