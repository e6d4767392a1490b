/-! The law's roads: set, request, free -/
section LB
variable {p : Program} {l : Launch} {e : Env} {s : State} {m : MethodId} {below : List Frame} {meth : Method} {c : Code} {b L : Nat} {xs : Nat → Int32} {dC : Nat → ClassId} {dI : Nat → Nat → Nat} {cA : Nat → ClassId} {q : Nat → Nat} {h : Nat} {ad : Nat → Nat} {H : Heap} {locs : List Loc} {cells slots N i : Nat} {Q : State → Prop} {ls : Array Slot} {σN σW σP κ τ : St} {M : Mk}
set_option maxHeartbeats 4000000 in
set_option maxRecDepth 100000 in
theorem cs_set (C : lwC p s m meth c b L xs dC dI cA) (hl : lv_has ls 4 [(0, .ref b), (1, .ref (q 0)), (2, .ref h), (3, .int (nI i))]) (hi : i + 6 ≤ L) (hL : L ≤ 3072) (hN : N + 8100 < 2147483648) (hf : cells + 17 ≤ 600000 ∧ slots + 1303 ≤ 7302250) (I : INV N σN σP κ M τ) (hP : va_P (dC, dI) vwCl (lwW cA q h ad σN σW σP κ M τ) H) (hD : va_D (fun q : Nat => s.heap.size ≤ q) (lwW cA q h ad σN σW σP κ M τ)) (hS : va_S (fun q : Nat => s.heap.size ≤ q) s.heap H locs) (kk : lwK p l e s m below meth c b dC dI cA q h ad cells slots (N + 8100) Q ls) : W p l e room_1 s m #[Value.ref b] below meth c H locs cells slots Q (F0 m 156 ls []) := by
  obtain ⟨⟨hx, hb, hr, hml, hown, hts0, hX, hbl, hlocks, hgv⟩, hK, hO, hN0, hV⟩ := C
  have hts : ∀ w ∈ wsL_law, w.before #[Value.ref b] s = true := fun w hw => hts0 w (wsL_law_in w hw)
  have hC : CallFix p m c code 4 s #[Value.ref b] wsL_law RL := ⟨hx, hb, hml, hown, hts⟩
  have hA : ∀ z : Nat, s.heap.size ≤ z → (fun q : Nat => s.heap.size ≤ q) z := fun _ h => h
  have hf0 : cells ≤ 600000 ∧ slots ≤ 7302250 := by omega
  obtain ⟨A, v, σN2, κ2, τ2, sp, hAN, hw, hsp, hκ, e1, e2, e3, kI⟩ := I.chg (N' := N + 8100) (cl := fX1_change (xs (i + 1)) (xs (i + 2))) (rf := fX4_set (xs (i + 1)) (xs (i + 2))) (by omega) (fun A hA hB => set_b hA (hB.mono (by omega)) (xs (i + 1)) (xs (i + 2)))
  have e4 : fX4_set (xs (i + 1)) (xs (i + 2)) τ = some (v, τ2) := e3
  refine lv_aload_n hx hb dL_law_156 rfl (lv_at hl 1 rfl) ?_
  refine lw_arg (k := 1) hx hb hX hbl hS (lv_at hl 0 rfl) (lv_at hl 3 rfl) dL_law_157 dL_law_158 dL_law_159 (by decide) dL_law_160 dL_law_161 (by omega) (by omega) ?_
  refine lw_arg (k := 2) hx hb hX hbl hS (lv_at hl 0 rfl) (lv_at hl 3 rfl) dL_law_162 dL_law_163 dL_law_164 (by decide) dL_law_165 dL_law_166 (by omega) (by omega) ?_
  refine x_AI (As := [.int (xs (i + 1)), .int (xs (i + 2))]) (rest := []) (wr := wM cA h ad τ) hC (kX3_set l dC dI cA q (xs (i + 1)) (xs (i + 2)) σN σW σP κ M hAN hw hsp hκ e1 e2) (cwV 2 hts gL_law_X3_set rfl rfl rfl (by decide +kernel) ⟨(Nat.le_of_ble_eq_true rfl), (Nat.le_of_ble_eq_true rfl)⟩) 11 3 hO hV hN0 hK hP hD hS hA List.perm_append_comm rfl rfl rfl rfl hl.1 rfl (Nat.le_of_ble_eq_true rfl) hf dL_law_167 (fun r u H locs hu hP hD hS => ?_)
  obtain ⟨er, h1, ad1, σ1, hR1, rfl⟩ := hu
  rw [er]
  have hP := va_perm List.perm_append_comm hP
  have hD := va_Dperm List.perm_append_comm hD
  refine lv_aload_n hx hb dL_law_170 rfl (lv_at hl 2 rfl) ?_
  refine lw_arg (k := 1) hx hb hX hbl hS (lv_at hl 0 rfl) (lv_at hl 3 rfl) dL_law_171 dL_law_172 dL_law_173 (by decide) dL_law_174 dL_law_175 (by omega) (by omega) ?_
  refine lw_arg (k := 2) hx hb hX hbl hS (lv_at hl 0 rfl) (lv_at hl 3 rfl) dL_law_176 dL_law_177 dL_law_178 (by decide) dL_law_179 dL_law_180 (by omega) (by omega) ?_
  refine x_PI (As := [.int (xs (i + 1)), .int (xs (i + 2))]) (rest := [.int v]) (wr := wXK cA q σN2 σW σP κ2 (upM M sp (h1, ad1, σ1))) (w' := wM cA h ad τ2 ++ wXK cA q σN2 σW σP κ2 (upM M sp (h1, ad1, σ1))) hC (kX4_set l dC dI cA h ad (xs (i + 1)) (xs (i + 2)) τ v τ2 e4) (cwV 2 hts gL_law_X4_set rfl rfl rfl (by decide +kernel) ⟨(Nat.le_of_ble_eq_true rfl), (Nat.le_of_ble_eq_true rfl)⟩) 0 4 hV hN0 hK hP hD hS hA (List.Perm.refl _) (List.Perm.refl _) rfl rfl rfl rfl hl.1 rfl (Nat.le_of_ble_eq_true rfl) hf dL_law_181 (fun H locs hP hD hS => ?_)
  refine lv_icmp_eq (tgt := 1027) hx hb dL_law_184 (by decide) (fun _ => ?_) (fun hc => absurd rfl hc)
  exact kk _ _ _ _ _ _ _ _ ((kI h1 ad1 σ1 hR1)) hP hD hS
set_option maxHeartbeats 4000000 in
set_option maxRecDepth 100000 in
theorem cs_request (C : lwC p s m meth c b L xs dC dI cA) (hl : lv_has ls 4 [(0, .ref b), (1, .ref (q 0)), (2, .ref h), (3, .int (nI i))]) (hi : i + 6 ≤ L) (hL : L ≤ 3072) (hN : N + 8100 < 2147483648) (hf : cells + 17 ≤ 600000 ∧ slots + 1303 ≤ 7302250) (I : INV N σN σP κ M τ) (hP : va_P (dC, dI) vwCl (lwW cA q h ad σN σW σP κ M τ) H) (hD : va_D (fun q : Nat => s.heap.size ≤ q) (lwW cA q h ad σN σW σP κ M τ)) (hS : va_S (fun q : Nat => s.heap.size ≤ q) s.heap H locs) (kk : lwK p l e s m below meth c b dC dI cA q h ad cells slots (N + 8100) Q ls) : W p l e room_1 s m #[Value.ref b] below meth c H locs cells slots Q (F0 m 189 ls []) := by
  obtain ⟨⟨hx, hb, hr, hml, hown, hts0, hX, hbl, hlocks, hgv⟩, hK, hO, hN0, hV⟩ := C
  have hts : ∀ w ∈ wsL_law, w.before #[Value.ref b] s = true := fun w hw => hts0 w (wsL_law_in w hw)
  have hC : CallFix p m c code 4 s #[Value.ref b] wsL_law RL := ⟨hx, hb, hml, hown, hts⟩
  have hA : ∀ z : Nat, s.heap.size ≤ z → (fun q : Nat => s.heap.size ≤ q) z := fun _ h => h
  have hf0 : cells ≤ 600000 ∧ slots ≤ 7302250 := by omega
  obtain ⟨A, v, σN2, κ2, τ2, sp, hAN, hw, hsp, hκ, e1, e2, e3, kI⟩ := I.chg (N' := N + 8100) (cl := fX1_ask (xs (i + 1)) (xs (i + 2)) (xs (i + 3)) (xs (i + 4)) (xs (i + 5))) (rf := fX4_tryRequest (xs (i + 1)) (xs (i + 2)) (xs (i + 3)) (xs (i + 4)) (xs (i + 5)) (kpI true)) (by omega) (fun A hA hB => ask_b (kp := true) hA (hB.mono (by omega)) (xs (i + 1)) (xs (i + 2)) (xs (i + 3)) (xs (i + 4)) (xs (i + 5)))
  have e4 : fX4_request (xs (i + 1)) (xs (i + 2)) (xs (i + 3)) (xs (i + 4)) (xs (i + 5)) τ = some (v, τ2) := by
    unfold fX4_request
    rw [show fX4_tryRequest (xs (i + 1)) (xs (i + 2)) (xs (i + 3)) (xs (i + 4)) (xs (i + 5)) (1 : Int32) τ = some (v, τ2) from e3]
    rfl
  refine lv_aload_n hx hb dL_law_189 rfl (lv_at hl 1 rfl) ?_
  refine lw_arg (k := 1) hx hb hX hbl hS (lv_at hl 0 rfl) (lv_at hl 3 rfl) dL_law_190 dL_law_191 dL_law_192 (by decide) dL_law_193 dL_law_194 (by omega) (by omega) ?_
  refine lw_arg (k := 2) hx hb hX hbl hS (lv_at hl 0 rfl) (lv_at hl 3 rfl) dL_law_195 dL_law_196 dL_law_197 (by decide) dL_law_198 dL_law_199 (by omega) (by omega) ?_
  refine lw_arg (k := 3) hx hb hX hbl hS (lv_at hl 0 rfl) (lv_at hl 3 rfl) dL_law_200 dL_law_201 dL_law_202 (by decide) dL_law_203 dL_law_204 (by omega) (by omega) ?_
  refine lw_arg (k := 4) hx hb hX hbl hS (lv_at hl 0 rfl) (lv_at hl 3 rfl) dL_law_205 dL_law_206 dL_law_207 (by decide) dL_law_208 dL_law_209 (by omega) (by omega) ?_
  refine lw_arg (k := 5) hx hb hX hbl hS (lv_at hl 0 rfl) (lv_at hl 3 rfl) dL_law_210 dL_law_211 dL_law_212 (by decide) dL_law_213 dL_law_214 (by omega) (by omega) ?_
  refine x_AI (As := [.int (xs (i + 1)), .int (xs (i + 2)), .int (xs (i + 3)), .int (xs (i + 4)), .int (xs (i + 5))]) (rest := []) (wr := wM cA h ad τ) hC (kX3_request l dC dI cA q (xs (i + 1)) (xs (i + 2)) (xs (i + 3)) (xs (i + 4)) (xs (i + 5)) σN σW σP κ M hAN hw hsp hκ e1 e2) (cwV 5 hts gL_law_X3_request rfl rfl rfl (by decide +kernel) ⟨(Nat.le_of_ble_eq_true rfl), (Nat.le_of_ble_eq_true rfl)⟩) 11 3 hO hV hN0 hK hP hD hS hA List.perm_append_comm rfl rfl rfl rfl hl.1 rfl (Nat.le_of_ble_eq_true rfl) hf dL_law_215 (fun r u H locs hu hP hD hS => ?_)
  obtain ⟨er, h1, ad1, σ1, hR1, rfl⟩ := hu
  rw [er]
  have hP := va_perm List.perm_append_comm hP
  have hD := va_Dperm List.perm_append_comm hD
  refine lv_aload_n hx hb dL_law_218 rfl (lv_at hl 2 rfl) ?_
  refine lw_arg (k := 1) hx hb hX hbl hS (lv_at hl 0 rfl) (lv_at hl 3 rfl) dL_law_219 dL_law_220 dL_law_221 (by decide) dL_law_222 dL_law_223 (by omega) (by omega) ?_
  refine lw_arg (k := 2) hx hb hX hbl hS (lv_at hl 0 rfl) (lv_at hl 3 rfl) dL_law_224 dL_law_225 dL_law_226 (by decide) dL_law_227 dL_law_228 (by omega) (by omega) ?_
  refine lw_arg (k := 3) hx hb hX hbl hS (lv_at hl 0 rfl) (lv_at hl 3 rfl) dL_law_229 dL_law_230 dL_law_231 (by decide) dL_law_232 dL_law_233 (by omega) (by omega) ?_
  refine lw_arg (k := 4) hx hb hX hbl hS (lv_at hl 0 rfl) (lv_at hl 3 rfl) dL_law_234 dL_law_235 dL_law_236 (by decide) dL_law_237 dL_law_238 (by omega) (by omega) ?_
  refine lw_arg (k := 5) hx hb hX hbl hS (lv_at hl 0 rfl) (lv_at hl 3 rfl) dL_law_239 dL_law_240 dL_law_241 (by decide) dL_law_242 dL_law_243 (by omega) (by omega) ?_
  refine x_PI (As := [.int (xs (i + 1)), .int (xs (i + 2)), .int (xs (i + 3)), .int (xs (i + 4)), .int (xs (i + 5))]) (rest := [.int v]) (wr := wXK cA q σN2 σW σP κ2 (upM M sp (h1, ad1, σ1))) (w' := wM cA h ad τ2 ++ wXK cA q σN2 σW σP κ2 (upM M sp (h1, ad1, σ1))) hC (kX4_request l dC dI cA h ad (xs (i + 1)) (xs (i + 2)) (xs (i + 3)) (xs (i + 4)) (xs (i + 5)) τ v τ2 e4) (cwV 5 hts gL_law_X4_request rfl rfl rfl (by decide +kernel) ⟨(Nat.le_of_ble_eq_true rfl), (Nat.le_of_ble_eq_true rfl)⟩) 0 4 hV hN0 hK hP hD hS hA (List.Perm.refl _) (List.Perm.refl _) rfl rfl rfl rfl hl.1 rfl (Nat.le_of_ble_eq_true rfl) hf dL_law_244 (fun H locs hP hD hS => ?_)
  refine lv_icmp_eq (tgt := 1027) hx hb dL_law_247 (by decide) (fun _ => ?_) (fun hc => absurd rfl hc)
  exact kk _ _ _ _ _ _ _ _ ((kI h1 ad1 σ1 hR1)) hP hD hS
set_option maxHeartbeats 4000000 in
set_option maxRecDepth 100000 in
theorem cs_free (C : lwC p s m meth c b L xs dC dI cA) (hl : lv_has ls 4 [(0, .ref b), (1, .ref (q 0)), (2, .ref h), (3, .int (nI i))]) (hi : i + 6 ≤ L) (hL : L ≤ 3072) (hN : N + 8100 < 2147483648) (hf : cells + 17 ≤ 600000 ∧ slots + 1303 ≤ 7302250) (I : INV N σN σP κ M τ) (hP : va_P (dC, dI) vwCl (lwW cA q h ad σN σW σP κ M τ) H) (hD : va_D (fun q : Nat => s.heap.size ≤ q) (lwW cA q h ad σN σW σP κ M τ)) (hS : va_S (fun q : Nat => s.heap.size ≤ q) s.heap H locs) (kk : lwK p l e s m below meth c b dC dI cA q h ad cells slots (N + 8100) Q ls) : W p l e room_1 s m #[Value.ref b] below meth c H locs cells slots Q (F0 m 252 ls []) := by
  obtain ⟨⟨hx, hb, hr, hml, hown, hts0, hX, hbl, hlocks, hgv⟩, hK, hO, hN0, hV⟩ := C
  have hts : ∀ w ∈ wsL_law, w.before #[Value.ref b] s = true := fun w hw => hts0 w (wsL_law_in w hw)
  have hC : CallFix p m c code 4 s #[Value.ref b] wsL_law RL := ⟨hx, hb, hml, hown, hts⟩
  have hA : ∀ z : Nat, s.heap.size ≤ z → (fun q : Nat => s.heap.size ≤ q) z := fun _ h => h
  have hf0 : cells ≤ 600000 ∧ slots ≤ 7302250 := by omega
  obtain ⟨A, v, σN2, κ2, τ2, sp, hAN, hw, hsp, hκ, e1, e2, e3, kI⟩ := I.chg (N' := N + 8100) (cl := fX1_release (xs (i + 1)) (xs (i + 2)) (xs (i + 3))) (rf := fX4_tryFree (xs (i + 1)) (xs (i + 2)) (xs (i + 3)) (kpI true)) (by omega) (fun A hA hB => free_b (kp := true) hA (hB.mono (by omega)) (xs (i + 1)) (xs (i + 2)) (xs (i + 3)))
  have e4 : fX4_free (xs (i + 1)) (xs (i + 2)) (xs (i + 3)) τ = some (v, τ2) := by
    unfold fX4_free
    rw [show fX4_tryFree (xs (i + 1)) (xs (i + 2)) (xs (i + 3)) (1 : Int32) τ = some (v, τ2) from e3]
    rfl
  refine lv_aload_n hx hb dL_law_252 rfl (lv_at hl 1 rfl) ?_
  refine lw_arg (k := 1) hx hb hX hbl hS (lv_at hl 0 rfl) (lv_at hl 3 rfl) dL_law_253 dL_law_254 dL_law_255 (by decide) dL_law_256 dL_law_257 (by omega) (by omega) ?_
  refine lw_arg (k := 2) hx hb hX hbl hS (lv_at hl 0 rfl) (lv_at hl 3 rfl) dL_law_258 dL_law_259 dL_law_260 (by decide) dL_law_261 dL_law_262 (by omega) (by omega) ?_
  refine lw_arg (k := 3) hx hb hX hbl hS (lv_at hl 0 rfl) (lv_at hl 3 rfl) dL_law_263 dL_law_264 dL_law_265 (by decide) dL_law_266 dL_law_267 (by omega) (by omega) ?_
  refine x_AI (As := [.int (xs (i + 1)), .int (xs (i + 2)), .int (xs (i + 3))]) (rest := []) (wr := wM cA h ad τ) hC (kX3_free l dC dI cA q (xs (i + 1)) (xs (i + 2)) (xs (i + 3)) σN σW σP κ M hAN hw hsp hκ e1 e2) (cwV 3 hts gL_law_X3_free rfl rfl rfl (by decide +kernel) ⟨(Nat.le_of_ble_eq_true rfl), (Nat.le_of_ble_eq_true rfl)⟩) 11 3 hO hV hN0 hK hP hD hS hA List.perm_append_comm rfl rfl rfl rfl hl.1 rfl (Nat.le_of_ble_eq_true rfl) hf dL_law_268 (fun r u H locs hu hP hD hS => ?_)
  obtain ⟨er, h1, ad1, σ1, hR1, rfl⟩ := hu
  rw [er]
  have hP := va_perm List.perm_append_comm hP
  have hD := va_Dperm List.perm_append_comm hD
  refine lv_aload_n hx hb dL_law_271 rfl (lv_at hl 2 rfl) ?_
  refine lw_arg (k := 1) hx hb hX hbl hS (lv_at hl 0 rfl) (lv_at hl 3 rfl) dL_law_272 dL_law_273 dL_law_274 (by decide) dL_law_275 dL_law_276 (by omega) (by omega) ?_
  refine lw_arg (k := 2) hx hb hX hbl hS (lv_at hl 0 rfl) (lv_at hl 3 rfl) dL_law_277 dL_law_278 dL_law_279 (by decide) dL_law_280 dL_law_281 (by omega) (by omega) ?_
  refine lw_arg (k := 3) hx hb hX hbl hS (lv_at hl 0 rfl) (lv_at hl 3 rfl) dL_law_282 dL_law_283 dL_law_284 (by decide) dL_law_285 dL_law_286 (by omega) (by omega) ?_
  refine x_PI (As := [.int (xs (i + 1)), .int (xs (i + 2)), .int (xs (i + 3))]) (rest := [.int v]) (wr := wXK cA q σN2 σW σP κ2 (upM M sp (h1, ad1, σ1))) (w' := wM cA h ad τ2 ++ wXK cA q σN2 σW σP κ2 (upM M sp (h1, ad1, σ1))) hC (kX4_free l dC dI cA h ad (xs (i + 1)) (xs (i + 2)) (xs (i + 3)) τ v τ2 e4) (cwV 3 hts gL_law_X4_free rfl rfl rfl (by decide +kernel) ⟨(Nat.le_of_ble_eq_true rfl), (Nat.le_of_ble_eq_true rfl)⟩) 0 4 hV hN0 hK hP hD hS hA (List.Perm.refl _) (List.Perm.refl _) rfl rfl rfl rfl hl.1 rfl (Nat.le_of_ble_eq_true rfl) hf dL_law_287 (fun H locs hP hD hS => ?_)
  refine lv_icmp_eq (tgt := 1027) hx hb dL_law_290 (by decide) (fun _ => ?_) (fun hc => absurd rfl hc)
  exact kk _ _ _ _ _ _ _ _ ((kI h1 ad1 σ1 hR1)) hP hD hS
end LB
