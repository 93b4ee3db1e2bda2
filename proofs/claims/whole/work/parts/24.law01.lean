/-! THE CLAIM OUT OF ONE WALK OF THE LAW'S BODY. Your part is whole_start (and what it stands on); all else here is the same for every law, but numbers. -/
def R_law : String := "FellInFieldLaw"
def lw_P (b : Addr) (xs : List Int32) (args : Array Value) (s : State) : Prop := args = #[.ref b] ∧ s.IntsAt b xs ∧ xs.length ≤ 3072 ∧ (Jvm.Cond.and given_1 narrow_1).before args s = true
def lw_Q (_ : Array Value) (s : State) (o : Outcome) (t : State) : Prop := o = .returned (some (.int 1)) ∧ Framed s o t [] 600000 7302250
def lw_Z (below : List Frame) (a : Array Value) (s : State) : State → Prop := fun t => ∃ o, t.status = .running ∧ Ended t below o ∧ lw_Q a s o t
/-- the law's own end, with 1 on the stack, nothing written that was there before, its room as the claim has it -/
theorem lw_ret {p : Program} {l : Launch} {e : Env} {s : State} {m : MethodId} {below : List Frame} {meth : Method} {c : Code} {b : Nat} (hx : p.tables.exec = Jvm.exec) (hb : c.code = code) (hr : meth.sig.returnType = ret) (hlocks : meth.locks = false) {pc : Nat} {H : Heap} {ls : Array Slot} (hdg : decode code pc = .ok (.ireturn, 1)) : W p l e room_1 s m #[Value.ref b] below meth c H [] 600000 7302250 (lw_Z below #[Value.ref b] s) (F0 m pc ls [.int 1]) := by
  intro T hT X
  obtain ⟨fs, hret, hrun, hended, hW, hframe⟩ := X.leave (v := some (.int 1)) (hlocks := hlocks) (fun h => by rw [hr] at h; cases h)
  have hmeth' : T.vm.method? m = some meth := X.method'
  refine ⟨T.setFrames fs, ?_, .returned (some (.int 1)), hrun, hended, rfl, ⟨_, rfl⟩, hW, hframe⟩
  jvm_step X.here [X.here.top, hx, hb, hdg, hmeth', hr, ret, narrow_b1]
  (try refine ⟨rfl, ?_⟩); (try refine ⟨rfl, ?_⟩)
  first | (intro acts; rw [hret _ acts rfl rfl rfl]) | rw [hret _ _ rfl rfl rfl]
  exact Steps.refl _
/-- what holds at the law's entry: the machine, the code, the tables' words (any of lw_tbl by 'hts w (by decide +kernel)'), the script of L ints xs at the cell b, what the Statement gives of the start (any of its parts by flat_of_before) -/
def lw_At (p : Program) (s : State) (m : MethodId) (meth : Method) (c : Code) (b L : Nat) (xs : Nat → Int32) : Prop :=
  p.tables.exec = Jvm.exec ∧ c.code = code ∧ meth.sig.returnType = ret ∧ c.maxLocals = 4 ∧ s.vm.findClass R_law = some m.cls ∧ (∀ w ∈ lw_tbl, w.before #[Value.ref b] s = true) ∧ va_X b L xs s s.heap ∧ b < s.heap.size ∧ meth.locks = false ∧ (Jvm.Cond.and given_1 narrow_1).before #[Value.ref b] s = true
set_option maxHeartbeats 4000000 in
theorem law_field {p : Program} {l : Launch} {e : Env} {s : State} {m : MethodId} {below : List Frame} {meth : Method} {c : Code} {H : Heap} {locs : List Loc} {cells slots : Nat} {Q : State → Prop} {ls : Array Slot} {X1 X2 : WX} {u v : St} {b L i n : Nat} {xs : Nat → Int32} {Rel : St → St → Prop} (A : LA X1 X2 p s m meth c b L xs) (hw : W2 X1 X2 s u v H locs) (hl : lv_has ls 4 [(0, .ref b), (1, .ref (xq X1 0)), (2, .ref (xq X2 0)), (3, .int (nI i))]) (hi : i + 6 ≤ L) (hf : cells ≤ room_1.cells ∧ slots ≤ room_1.slots) (B : S_field Rel n) (hR : Rel u v) (kk : ∀ (u' v' : St) (H : Heap) (locs : List Loc), Rel u' v' → W2 X1 X2 s u' v' H locs → W p l e room_1 s m #[Value.ref b] below meth c H locs cells slots Q (F0 m 1560 ls [])) : W p l e room_1 s m #[Value.ref b] below meth c H locs cells slots Q (F0 m 220 ls []) := by
  obtain ⟨hx, hb, hml, hown, hts⟩ := id A.1
  refine lv_aload_n hx hb dL_law_220 rfl (lv_at hl 1 rfl) ?_
  refine lv_aload_n hx hb dL_law_221 rfl (lv_at hl 0 rfl) ?_
  refine lv_iload_n hx hb dL_law_222 rfl (lv_at hl 3 rfl) ?_
  refine lv_iconst (v := 1) hx hb dL_law_223 (by decide) ?_
  refine lv_iadd hx hb dL_law_224 ?_
  refine l_ld A hw (l_in (j := 1) hi A.2.2.2.2.1 (by decide) rfl) dL_law_225 ?_
  refine lv_aload_n hx hb dL_law_226 rfl (lv_at hl 0 rfl) ?_
  refine lv_iload_n hx hb dL_law_227 rfl (lv_at hl 3 rfl) ?_
  refine lv_iconst (v := 2) hx hb dL_law_228 (by decide) ?_
  refine lv_iadd hx hb dL_law_229 ?_
  refine l_ld A hw (l_in (j := 2) hi A.2.2.2.2.1 (by decide) rfl) dL_law_230 ?_
  obtain ⟨r, u', v', h1, h2, hR'⟩ := B u v (xs (nI i + 1).toNatClampNeg) (xs (nI i + 2).toNatClampNeg) hR
  refine l_callCI (rest := []) A hw (zX11_field l _ u (xs (nI i + 1).toNatClampNeg) (xs (nI i + 2).toNatClampNeg) (r, u') h1) km_L_13 ki_yX11_field kv_X11_field kz_X11 kc_X11_field rfl ok_yX11_field ⟨Nat.le_of_ble_eq_true rfl, Nat.le_of_ble_eq_true rfl⟩ rfl rfl rfl rfl hl.1 (Nat.le_of_ble_eq_true rfl) dL_law_231 hf (fun H locs hw => ?_)
  refine lv_aload_n hx hb dL_law_234 rfl (lv_at hl 2 rfl) ?_
  refine lv_aload_n hx hb dL_law_235 rfl (lv_at hl 0 rfl) ?_
  refine lv_iload_n hx hb dL_law_236 rfl (lv_at hl 3 rfl) ?_
  refine lv_iconst (v := 1) hx hb dL_law_237 (by decide) ?_
  refine lv_iadd hx hb dL_law_238 ?_
  refine l_ld A hw (l_in (j := 1) hi A.2.2.2.2.1 (by decide) rfl) dL_law_239 ?_
  refine lv_aload_n hx hb dL_law_240 rfl (lv_at hl 0 rfl) ?_
  refine lv_iload_n hx hb dL_law_241 rfl (lv_at hl 3 rfl) ?_
  refine lv_iconst (v := 2) hx hb dL_law_242 (by decide) ?_
  refine lv_iadd hx hb dL_law_243 ?_
  refine l_ld A hw (l_in (j := 2) hi A.2.2.2.2.1 (by decide) rfl) dL_law_244 ?_
  refine l_callMI (rest := [.int (r)]) A hw (zX12_field l _ v (xs (nI i + 1).toNatClampNeg) (xs (nI i + 2).toNatClampNeg) (r, v') h2) km_L_17 ki_yX12_field kv_X12_field kz_X12 kc_X12_field rfl ok_yX12_field ⟨Nat.le_of_ble_eq_true rfl, Nat.le_of_ble_eq_true rfl⟩ rfl rfl rfl rfl hl.1 (Nat.le_of_ble_eq_true rfl) dL_law_245 hf (fun H locs hw => ?_)
  refine lv_icmp_eq (tgt := 1560) hx hb dL_law_248 (by decide) (fun c1 => kk _ _ _ _ hR' hw) (fun c1 => absurd rfl c1)
set_option maxHeartbeats 4000000 in
theorem law_fall {p : Program} {l : Launch} {e : Env} {s : State} {m : MethodId} {below : List Frame} {meth : Method} {c : Code} {H : Heap} {locs : List Loc} {cells slots : Nat} {Q : State → Prop} {ls : Array Slot} {X1 X2 : WX} {u v : St} {b L i n : Nat} {xs : Nat → Int32} {Rel : St → St → Prop} (A : LA X1 X2 p s m meth c b L xs) (hw : W2 X1 X2 s u v H locs) (hl : lv_has ls 4 [(0, .ref b), (1, .ref (xq X1 0)), (2, .ref (xq X2 0)), (3, .int (nI i))]) (hi : i + 6 ≤ L) (hf : cells ≤ room_1.cells ∧ slots ≤ room_1.slots) (B : S_fall Rel n) (hR : Rel u v) (kk : ∀ (u' v' : St) (H : Heap) (locs : List Loc), Rel u' v' → W2 X1 X2 s u' v' H locs → W p l e room_1 s m #[Value.ref b] below meth c H locs cells slots Q (F0 m 1560 ls [])) : W p l e room_1 s m #[Value.ref b] below meth c H locs cells slots Q (F0 m 253 ls []) := by
  obtain ⟨hx, hb, hml, hown, hts⟩ := id A.1
  refine lv_aload_n hx hb dL_law_253 rfl (lv_at hl 1 rfl) ?_
  refine lv_aload_n hx hb dL_law_254 rfl (lv_at hl 0 rfl) ?_
  refine lv_iload_n hx hb dL_law_255 rfl (lv_at hl 3 rfl) ?_
  refine lv_iconst (v := 1) hx hb dL_law_256 (by decide) ?_
  refine lv_iadd hx hb dL_law_257 ?_
  refine l_ld A hw (l_in (j := 1) hi A.2.2.2.2.1 (by decide) rfl) dL_law_258 ?_
  refine lv_aload_n hx hb dL_law_259 rfl (lv_at hl 0 rfl) ?_
  refine lv_iload_n hx hb dL_law_260 rfl (lv_at hl 3 rfl) ?_
  refine lv_iconst (v := 2) hx hb dL_law_261 (by decide) ?_
  refine lv_iadd hx hb dL_law_262 ?_
  refine l_ld A hw (l_in (j := 2) hi A.2.2.2.2.1 (by decide) rfl) dL_law_263 ?_
  obtain ⟨r, u', v', h1, h2, hR'⟩ := B u v (xs (nI i + 1).toNatClampNeg) (xs (nI i + 2).toNatClampNeg) hR
  refine l_callCI (rest := []) A hw (zX11_fall l _ u (xs (nI i + 1).toNatClampNeg) (xs (nI i + 2).toNatClampNeg) (r, u') h1) km_L_18 ki_yX11_fall kv_X11_fall kz_X11 kc_X11_fall rfl ok_yX11_fall ⟨Nat.le_of_ble_eq_true rfl, Nat.le_of_ble_eq_true rfl⟩ rfl rfl rfl rfl hl.1 (Nat.le_of_ble_eq_true rfl) dL_law_264 hf (fun H locs hw => ?_)
  refine lv_aload_n hx hb dL_law_267 rfl (lv_at hl 2 rfl) ?_
  refine lv_aload_n hx hb dL_law_268 rfl (lv_at hl 0 rfl) ?_
  refine lv_iload_n hx hb dL_law_269 rfl (lv_at hl 3 rfl) ?_
  refine lv_iconst (v := 1) hx hb dL_law_270 (by decide) ?_
  refine lv_iadd hx hb dL_law_271 ?_
  refine l_ld A hw (l_in (j := 1) hi A.2.2.2.2.1 (by decide) rfl) dL_law_272 ?_
  refine lv_aload_n hx hb dL_law_273 rfl (lv_at hl 0 rfl) ?_
  refine lv_iload_n hx hb dL_law_274 rfl (lv_at hl 3 rfl) ?_
  refine lv_iconst (v := 2) hx hb dL_law_275 (by decide) ?_
  refine lv_iadd hx hb dL_law_276 ?_
  refine l_ld A hw (l_in (j := 2) hi A.2.2.2.2.1 (by decide) rfl) dL_law_277 ?_
  refine l_callMI (rest := [.int (r)]) A hw (zX12_fall l _ v (xs (nI i + 1).toNatClampNeg) (xs (nI i + 2).toNatClampNeg) (r, v') h2) km_L_21 ki_yX12_fall kv_X12_fall kz_X12 kc_X12_fall rfl ok_yX12_fall ⟨Nat.le_of_ble_eq_true rfl, Nat.le_of_ble_eq_true rfl⟩ rfl rfl rfl rfl hl.1 (Nat.le_of_ble_eq_true rfl) dL_law_278 hf (fun H locs hw => ?_)
  refine lv_icmp_eq (tgt := 1560) hx hb dL_law_281 (by decide) (fun c1 => kk _ _ _ _ hR' hw) (fun c1 => absurd rfl c1)
set_option maxHeartbeats 4000000 in
theorem law_falls {p : Program} {l : Launch} {e : Env} {s : State} {m : MethodId} {below : List Frame} {meth : Method} {c : Code} {H : Heap} {locs : List Loc} {cells slots : Nat} {Q : State → Prop} {ls : Array Slot} {X1 X2 : WX} {u v : St} {b L i n : Nat} {xs : Nat → Int32} {Rel : St → St → Prop} (A : LA X1 X2 p s m meth c b L xs) (hw : W2 X1 X2 s u v H locs) (hl : lv_has ls 4 [(0, .ref b), (1, .ref (xq X1 0)), (2, .ref (xq X2 0)), (3, .int (nI i))]) (hi : i + 6 ≤ L) (hf : cells ≤ room_1.cells ∧ slots ≤ room_1.slots) (B : S_falls Rel n) (hR : Rel u v) (kk : ∀ (u' v' : St) (H : Heap) (locs : List Loc), Rel u' v' → W2 X1 X2 s u' v' H locs → W p l e room_1 s m #[Value.ref b] below meth c H locs cells slots Q (F0 m 1560 ls [])) : W p l e room_1 s m #[Value.ref b] below meth c H locs cells slots Q (F0 m 286 ls []) := by
  obtain ⟨hx, hb, hml, hown, hts⟩ := id A.1
  refine lv_aload_n hx hb dL_law_286 rfl (lv_at hl 1 rfl) ?_
  refine lv_aload_n hx hb dL_law_287 rfl (lv_at hl 0 rfl) ?_
  refine lv_iload_n hx hb dL_law_288 rfl (lv_at hl 3 rfl) ?_
  refine lv_iconst (v := 1) hx hb dL_law_289 (by decide) ?_
  refine lv_iadd hx hb dL_law_290 ?_
  refine l_ld A hw (l_in (j := 1) hi A.2.2.2.2.1 (by decide) rfl) dL_law_291 ?_
  refine lv_aload_n hx hb dL_law_292 rfl (lv_at hl 0 rfl) ?_
  refine lv_iload_n hx hb dL_law_293 rfl (lv_at hl 3 rfl) ?_
  refine lv_iconst (v := 2) hx hb dL_law_294 (by decide) ?_
  refine lv_iadd hx hb dL_law_295 ?_
  refine l_ld A hw (l_in (j := 2) hi A.2.2.2.2.1 (by decide) rfl) dL_law_296 ?_
  refine lv_aload_n hx hb dL_law_297 rfl (lv_at hl 0 rfl) ?_
  refine lv_iload_n hx hb dL_law_298 rfl (lv_at hl 3 rfl) ?_
  refine lv_iconst (v := 3) hx hb dL_law_299 (by decide) ?_
  refine lv_iadd hx hb dL_law_300 ?_
  refine l_ld A hw (l_in (j := 3) hi A.2.2.2.2.1 (by decide) rfl) dL_law_301 ?_
  obtain ⟨r, u', v', h1, h2, hR'⟩ := B u v (xs (nI i + 1).toNatClampNeg) (xs (nI i + 2).toNatClampNeg) (xs (nI i + 3).toNatClampNeg) hR
  refine l_callCI (rest := []) A hw (zX11_falls l _ n u (xs (nI i + 1).toNatClampNeg) (xs (nI i + 2).toNatClampNeg) (xs (nI i + 3).toNatClampNeg) (r, u') h1) km_L_22 ki_yX11_falls kv_X11_falls kz_X11 kc_X11_falls rfl ok_yX11_falls ⟨Nat.le_of_ble_eq_true rfl, Nat.le_of_ble_eq_true rfl⟩ rfl rfl rfl rfl hl.1 (Nat.le_of_ble_eq_true rfl) dL_law_302 hf (fun H locs hw => ?_)
  refine lv_aload_n hx hb dL_law_305 rfl (lv_at hl 2 rfl) ?_
  refine lv_aload_n hx hb dL_law_306 rfl (lv_at hl 0 rfl) ?_
  refine lv_iload_n hx hb dL_law_307 rfl (lv_at hl 3 rfl) ?_
  refine lv_iconst (v := 1) hx hb dL_law_308 (by decide) ?_
  refine lv_iadd hx hb dL_law_309 ?_
  refine l_ld A hw (l_in (j := 1) hi A.2.2.2.2.1 (by decide) rfl) dL_law_310 ?_
  refine lv_aload_n hx hb dL_law_311 rfl (lv_at hl 0 rfl) ?_
  refine lv_iload_n hx hb dL_law_312 rfl (lv_at hl 3 rfl) ?_
  refine lv_iconst (v := 2) hx hb dL_law_313 (by decide) ?_
  refine lv_iadd hx hb dL_law_314 ?_
  refine l_ld A hw (l_in (j := 2) hi A.2.2.2.2.1 (by decide) rfl) dL_law_315 ?_
  refine lv_aload_n hx hb dL_law_316 rfl (lv_at hl 0 rfl) ?_
  refine lv_iload_n hx hb dL_law_317 rfl (lv_at hl 3 rfl) ?_
  refine lv_iconst (v := 3) hx hb dL_law_318 (by decide) ?_
  refine lv_iadd hx hb dL_law_319 ?_
  refine l_ld A hw (l_in (j := 3) hi A.2.2.2.2.1 (by decide) rfl) dL_law_320 ?_
  refine l_callMI (rest := [.int (r)]) A hw (zX12_falls l _ n v (xs (nI i + 1).toNatClampNeg) (xs (nI i + 2).toNatClampNeg) (xs (nI i + 3).toNatClampNeg) (r, v') h2) km_L_26 ki_yX12_falls kv_X12_falls kz_X12 kc_X12_falls rfl ok_yX12_falls ⟨Nat.le_of_ble_eq_true rfl, Nat.le_of_ble_eq_true rfl⟩ rfl rfl rfl rfl hl.1 (Nat.le_of_ble_eq_true rfl) dL_law_321 hf (fun H locs hw => ?_)
  refine lv_icmp_eq (tgt := 1560) hx hb dL_law_324 (by decide) (fun c1 => kk _ _ _ _ hR' hw) (fun c1 => absurd rfl c1)
set_option maxHeartbeats 4000000 in
theorem law_cry {p : Program} {l : Launch} {e : Env} {s : State} {m : MethodId} {below : List Frame} {meth : Method} {c : Code} {H : Heap} {locs : List Loc} {cells slots : Nat} {Q : State → Prop} {ls : Array Slot} {X1 X2 : WX} {u v : St} {b L i n : Nat} {xs : Nat → Int32} {Rel : St → St → Prop} (A : LA X1 X2 p s m meth c b L xs) (hw : W2 X1 X2 s u v H locs) (hl : lv_has ls 4 [(0, .ref b), (1, .ref (xq X1 0)), (2, .ref (xq X2 0)), (3, .int (nI i))]) (hi : i + 6 ≤ L) (hf : cells ≤ room_1.cells ∧ slots ≤ room_1.slots) (B : S_cry Rel n) (hR : Rel u v) (kk : ∀ (u' v' : St) (H : Heap) (locs : List Loc), Rel u' v' → W2 X1 X2 s u' v' H locs → W p l e room_1 s m #[Value.ref b] below meth c H locs cells slots Q (F0 m 1560 ls [])) : W p l e room_1 s m #[Value.ref b] below meth c H locs cells slots Q (F0 m 329 ls []) := by
  obtain ⟨hx, hb, hml, hown, hts⟩ := id A.1
  refine lv_aload_n hx hb dL_law_329 rfl (lv_at hl 1 rfl) ?_
  refine lv_aload_n hx hb dL_law_330 rfl (lv_at hl 0 rfl) ?_
  refine lv_iload_n hx hb dL_law_331 rfl (lv_at hl 3 rfl) ?_
  refine lv_iconst (v := 1) hx hb dL_law_332 (by decide) ?_
  refine lv_iadd hx hb dL_law_333 ?_
  refine l_ld A hw (l_in (j := 1) hi A.2.2.2.2.1 (by decide) rfl) dL_law_334 ?_
  refine lv_aload_n hx hb dL_law_335 rfl (lv_at hl 0 rfl) ?_
  refine lv_iload_n hx hb dL_law_336 rfl (lv_at hl 3 rfl) ?_
  refine lv_iconst (v := 2) hx hb dL_law_337 (by decide) ?_
  refine lv_iadd hx hb dL_law_338 ?_
  refine l_ld A hw (l_in (j := 2) hi A.2.2.2.2.1 (by decide) rfl) dL_law_339 ?_
  obtain ⟨r, u', v', h1, h2, hR'⟩ := B u v (xs (nI i + 1).toNatClampNeg) (xs (nI i + 2).toNatClampNeg) hR
  refine l_callCI (rest := []) A hw (zX11_cry l _ u (xs (nI i + 1).toNatClampNeg) (xs (nI i + 2).toNatClampNeg) (r, u') h1) km_L_27 ki_yX11_cry kv_X11_cry kz_X11 kc_X11_cry rfl ok_yX11_cry ⟨Nat.le_of_ble_eq_true rfl, Nat.le_of_ble_eq_true rfl⟩ rfl rfl rfl rfl hl.1 (Nat.le_of_ble_eq_true rfl) dL_law_340 hf (fun H locs hw => ?_)
  refine lv_aload_n hx hb dL_law_343 rfl (lv_at hl 2 rfl) ?_
  refine lv_aload_n hx hb dL_law_344 rfl (lv_at hl 0 rfl) ?_
  refine lv_iload_n hx hb dL_law_345 rfl (lv_at hl 3 rfl) ?_
  refine lv_iconst (v := 1) hx hb dL_law_346 (by decide) ?_
  refine lv_iadd hx hb dL_law_347 ?_
  refine l_ld A hw (l_in (j := 1) hi A.2.2.2.2.1 (by decide) rfl) dL_law_348 ?_
  refine lv_aload_n hx hb dL_law_349 rfl (lv_at hl 0 rfl) ?_
  refine lv_iload_n hx hb dL_law_350 rfl (lv_at hl 3 rfl) ?_
  refine lv_iconst (v := 2) hx hb dL_law_351 (by decide) ?_
  refine lv_iadd hx hb dL_law_352 ?_
  refine l_ld A hw (l_in (j := 2) hi A.2.2.2.2.1 (by decide) rfl) dL_law_353 ?_
  refine l_callMI (rest := [.int (r)]) A hw (zX12_cry l _ v (xs (nI i + 1).toNatClampNeg) (xs (nI i + 2).toNatClampNeg) (r, v') h2) km_L_30 ki_yX12_cry kv_X12_cry kz_X12 kc_X12_cry rfl ok_yX12_cry ⟨Nat.le_of_ble_eq_true rfl, Nat.le_of_ble_eq_true rfl⟩ rfl rfl rfl rfl hl.1 (Nat.le_of_ble_eq_true rfl) dL_law_354 hf (fun H locs hw => ?_)
  refine lv_icmp_eq (tgt := 1560) hx hb dL_law_357 (by decide) (fun c1 => kk _ _ _ _ hR' hw) (fun c1 => absurd rfl c1)
set_option maxHeartbeats 4000000 in
theorem law_mend {p : Program} {l : Launch} {e : Env} {s : State} {m : MethodId} {below : List Frame} {meth : Method} {c : Code} {H : Heap} {locs : List Loc} {cells slots : Nat} {Q : State → Prop} {ls : Array Slot} {X1 X2 : WX} {u v : St} {b L i n : Nat} {xs : Nat → Int32} {Rel : St → St → Prop} (A : LA X1 X2 p s m meth c b L xs) (hw : W2 X1 X2 s u v H locs) (hl : lv_has ls 4 [(0, .ref b), (1, .ref (xq X1 0)), (2, .ref (xq X2 0)), (3, .int (nI i))]) (hi : i + 6 ≤ L) (hf : cells ≤ room_1.cells ∧ slots ≤ room_1.slots) (B : S_mend Rel n) (hR : Rel u v) (kk : ∀ (u' v' : St) (H : Heap) (locs : List Loc), Rel u' v' → W2 X1 X2 s u' v' H locs → W p l e room_1 s m #[Value.ref b] below meth c H locs cells slots Q (F0 m 1560 ls [])) : W p l e room_1 s m #[Value.ref b] below meth c H locs cells slots Q (F0 m 362 ls []) := by
  obtain ⟨hx, hb, hml, hown, hts⟩ := id A.1
  refine lv_aload_n hx hb dL_law_362 rfl (lv_at hl 1 rfl) ?_
  refine lv_aload_n hx hb dL_law_363 rfl (lv_at hl 0 rfl) ?_
  refine lv_iload_n hx hb dL_law_364 rfl (lv_at hl 3 rfl) ?_
  refine lv_iconst (v := 1) hx hb dL_law_365 (by decide) ?_
  refine lv_iadd hx hb dL_law_366 ?_
  refine l_ld A hw (l_in (j := 1) hi A.2.2.2.2.1 (by decide) rfl) dL_law_367 ?_
  refine lv_aload_n hx hb dL_law_368 rfl (lv_at hl 0 rfl) ?_
  refine lv_iload_n hx hb dL_law_369 rfl (lv_at hl 3 rfl) ?_
  refine lv_iconst (v := 2) hx hb dL_law_370 (by decide) ?_
  refine lv_iadd hx hb dL_law_371 ?_
  refine l_ld A hw (l_in (j := 2) hi A.2.2.2.2.1 (by decide) rfl) dL_law_372 ?_
  refine lv_aload_n hx hb dL_law_373 rfl (lv_at hl 0 rfl) ?_
  refine lv_iload_n hx hb dL_law_374 rfl (lv_at hl 3 rfl) ?_
  refine lv_iconst (v := 3) hx hb dL_law_375 (by decide) ?_
  refine lv_iadd hx hb dL_law_376 ?_
  refine l_ld A hw (l_in (j := 3) hi A.2.2.2.2.1 (by decide) rfl) dL_law_377 ?_
  obtain ⟨r, u', v', h1, h2, hR'⟩ := B u v (xs (nI i + 1).toNatClampNeg) (xs (nI i + 2).toNatClampNeg) (xs (nI i + 3).toNatClampNeg) hR
  refine l_callCI (rest := []) A hw (zX11_mend l _ u (xs (nI i + 1).toNatClampNeg) (xs (nI i + 2).toNatClampNeg) (xs (nI i + 3).toNatClampNeg) (r, u') h1) km_L_31 ki_yX11_mend kv_X11_mend kz_X11 kc_X11_mend rfl ok_yX11_mend ⟨Nat.le_of_ble_eq_true rfl, Nat.le_of_ble_eq_true rfl⟩ rfl rfl rfl rfl hl.1 (Nat.le_of_ble_eq_true rfl) dL_law_378 hf (fun H locs hw => ?_)
  refine lv_aload_n hx hb dL_law_381 rfl (lv_at hl 2 rfl) ?_
  refine lv_aload_n hx hb dL_law_382 rfl (lv_at hl 0 rfl) ?_
  refine lv_iload_n hx hb dL_law_383 rfl (lv_at hl 3 rfl) ?_
  refine lv_iconst (v := 1) hx hb dL_law_384 (by decide) ?_
  refine lv_iadd hx hb dL_law_385 ?_
  refine l_ld A hw (l_in (j := 1) hi A.2.2.2.2.1 (by decide) rfl) dL_law_386 ?_
  refine lv_aload_n hx hb dL_law_387 rfl (lv_at hl 0 rfl) ?_
  refine lv_iload_n hx hb dL_law_388 rfl (lv_at hl 3 rfl) ?_
  refine lv_iconst (v := 2) hx hb dL_law_389 (by decide) ?_
  refine lv_iadd hx hb dL_law_390 ?_
  refine l_ld A hw (l_in (j := 2) hi A.2.2.2.2.1 (by decide) rfl) dL_law_391 ?_
  refine lv_aload_n hx hb dL_law_392 rfl (lv_at hl 0 rfl) ?_
  refine lv_iload_n hx hb dL_law_393 rfl (lv_at hl 3 rfl) ?_
  refine lv_iconst (v := 3) hx hb dL_law_394 (by decide) ?_
  refine lv_iadd hx hb dL_law_395 ?_
  refine l_ld A hw (l_in (j := 3) hi A.2.2.2.2.1 (by decide) rfl) dL_law_396 ?_
  refine l_callMI (rest := [.int (r)]) A hw (zX12_mend l _ n v (xs (nI i + 1).toNatClampNeg) (xs (nI i + 2).toNatClampNeg) (xs (nI i + 3).toNatClampNeg) (r, v') h2) km_L_34 ki_yX12_mend kv_X12_mend kz_X12 kc_X12_mend rfl ok_yX12_mend ⟨Nat.le_of_ble_eq_true rfl, Nat.le_of_ble_eq_true rfl⟩ rfl rfl rfl rfl hl.1 (Nat.le_of_ble_eq_true rfl) dL_law_397 hf (fun H locs hw => ?_)
  refine lv_icmp_eq (tgt := 1560) hx hb dL_law_400 (by decide) (fun c1 => kk _ _ _ _ hR' hw) (fun c1 => absurd rfl c1)
set_option maxHeartbeats 4000000 in
theorem law_of {p : Program} {l : Launch} {e : Env} {s : State} {m : MethodId} {below : List Frame} {meth : Method} {c : Code} {H : Heap} {locs : List Loc} {cells slots : Nat} {Q : State → Prop} {ls : Array Slot} {X1 X2 : WX} {u v : St} {b L i n : Nat} {xs : Nat → Int32} {Rel : St → St → Prop} (A : LA X1 X2 p s m meth c b L xs) (hw : W2 X1 X2 s u v H locs) (hl : lv_has ls 4 [(0, .ref b), (1, .ref (xq X1 0)), (2, .ref (xq X2 0)), (3, .int (nI i))]) (hi : i + 6 ≤ L) (hf : cells ≤ room_1.cells ∧ slots ≤ room_1.slots) (B : S_of Rel n) (hR : Rel u v) (kk : ∀ (u' v' : St) (H : Heap) (locs : List Loc), Rel u' v' → W2 X1 X2 s u' v' H locs → W p l e room_1 s m #[Value.ref b] below meth c H locs cells slots Q (F0 m 1560 ls [])) : W p l e room_1 s m #[Value.ref b] below meth c H locs cells slots Q (F0 m 405 ls []) := by
  obtain ⟨hx, hb, hml, hown, hts⟩ := id A.1
  refine lv_aload_n hx hb dL_law_405 rfl (lv_at hl 1 rfl) ?_
  refine lv_aload_n hx hb dL_law_406 rfl (lv_at hl 0 rfl) ?_
  refine lv_iload_n hx hb dL_law_407 rfl (lv_at hl 3 rfl) ?_
  refine lv_iconst (v := 1) hx hb dL_law_408 (by decide) ?_
  refine lv_iadd hx hb dL_law_409 ?_
  refine l_ld A hw (l_in (j := 1) hi A.2.2.2.2.1 (by decide) rfl) dL_law_410 ?_
  refine lv_aload_n hx hb dL_law_411 rfl (lv_at hl 0 rfl) ?_
  refine lv_iload_n hx hb dL_law_412 rfl (lv_at hl 3 rfl) ?_
  refine lv_iconst (v := 2) hx hb dL_law_413 (by decide) ?_
  refine lv_iadd hx hb dL_law_414 ?_
  refine l_ld A hw (l_in (j := 2) hi A.2.2.2.2.1 (by decide) rfl) dL_law_415 ?_
  obtain ⟨r, u', v', h1, h2, hR'⟩ := B u v (xs (nI i + 1).toNatClampNeg) (xs (nI i + 2).toNatClampNeg) hR
  obtain ⟨h1, h1e⟩ := h1
  rw [h1e] at hR'
  refine l_callCI (rest := []) A hw (zX11_of l _ u (xs (nI i + 1).toNatClampNeg) (xs (nI i + 2).toNatClampNeg) r h1) km_L_35 ki_yX11_of kv_X11_of kz_X11 kc_X11_of rfl ok_yX11_of ⟨Nat.le_of_ble_eq_true rfl, Nat.le_of_ble_eq_true rfl⟩ rfl rfl rfl rfl hl.1 (Nat.le_of_ble_eq_true rfl) dL_law_416 hf (fun H locs hw => ?_)
  refine lv_aload_n hx hb dL_law_419 rfl (lv_at hl 2 rfl) ?_
  refine lv_aload_n hx hb dL_law_420 rfl (lv_at hl 0 rfl) ?_
  refine lv_iload_n hx hb dL_law_421 rfl (lv_at hl 3 rfl) ?_
  refine lv_iconst (v := 1) hx hb dL_law_422 (by decide) ?_
  refine lv_iadd hx hb dL_law_423 ?_
  refine l_ld A hw (l_in (j := 1) hi A.2.2.2.2.1 (by decide) rfl) dL_law_424 ?_
  refine lv_aload_n hx hb dL_law_425 rfl (lv_at hl 0 rfl) ?_
  refine lv_iload_n hx hb dL_law_426 rfl (lv_at hl 3 rfl) ?_
  refine lv_iconst (v := 2) hx hb dL_law_427 (by decide) ?_
  refine lv_iadd hx hb dL_law_428 ?_
  refine l_ld A hw (l_in (j := 2) hi A.2.2.2.2.1 (by decide) rfl) dL_law_429 ?_
  obtain ⟨h2, h2e⟩ := h2
  rw [h2e] at hR'
  refine l_callMI (rest := [.int (r)]) A hw (zX12_of l _ v (xs (nI i + 1).toNatClampNeg) (xs (nI i + 2).toNatClampNeg) r h2) km_L_38 ki_yX12_of kv_X12_of kz_X12 kc_X12_of rfl ok_yX12_of ⟨Nat.le_of_ble_eq_true rfl, Nat.le_of_ble_eq_true rfl⟩ rfl rfl rfl rfl hl.1 (Nat.le_of_ble_eq_true rfl) dL_law_430 hf (fun H locs hw => ?_)
  refine lv_icmp_eq (tgt := 1560) hx hb dL_law_433 (by decide) (fun c1 => kk _ _ _ _ hR' hw) (fun c1 => absurd rfl c1)
set_option maxHeartbeats 4000000 in
theorem law_feed {p : Program} {l : Launch} {e : Env} {s : State} {m : MethodId} {below : List Frame} {meth : Method} {c : Code} {H : Heap} {locs : List Loc} {cells slots : Nat} {Q : State → Prop} {ls : Array Slot} {X1 X2 : WX} {u v : St} {b L i n : Nat} {xs : Nat → Int32} {Rel : St → St → Prop} (A : LA X1 X2 p s m meth c b L xs) (hw : W2 X1 X2 s u v H locs) (hl : lv_has ls 4 [(0, .ref b), (1, .ref (xq X1 0)), (2, .ref (xq X2 0)), (3, .int (nI i))]) (hi : i + 6 ≤ L) (hf : cells ≤ room_1.cells ∧ slots ≤ room_1.slots) (B : S_feed Rel n) (hR : Rel u v) (kk : ∀ (u' v' : St) (H : Heap) (locs : List Loc), Rel u' v' → W2 X1 X2 s u' v' H locs → W p l e room_1 s m #[Value.ref b] below meth c H locs cells slots Q (F0 m 1560 ls [])) : W p l e room_1 s m #[Value.ref b] below meth c H locs cells slots Q (F0 m 438 ls []) := by
  obtain ⟨hx, hb, hml, hown, hts⟩ := id A.1
  refine lv_aload_n hx hb dL_law_438 rfl (lv_at hl 1 rfl) ?_
  refine lv_aload_n hx hb dL_law_439 rfl (lv_at hl 0 rfl) ?_
  refine lv_iload_n hx hb dL_law_440 rfl (lv_at hl 3 rfl) ?_
  refine lv_iconst (v := 1) hx hb dL_law_441 (by decide) ?_
  refine lv_iadd hx hb dL_law_442 ?_
  refine l_ld A hw (l_in (j := 1) hi A.2.2.2.2.1 (by decide) rfl) dL_law_443 ?_
  obtain ⟨r, u', v', h1, h2, hR'⟩ := B u v (xs (nI i + 1).toNatClampNeg) hR
  refine l_callCI (rest := []) A hw (zX11_feed l _ u (xs (nI i + 1).toNatClampNeg) (r, u') h1) km_L_39 ki_yX11_feed kv_X11_feed kz_X11 kc_X11_feed rfl ok_yX11_feed ⟨Nat.le_of_ble_eq_true rfl, Nat.le_of_ble_eq_true rfl⟩ rfl rfl rfl rfl hl.1 (Nat.le_of_ble_eq_true rfl) dL_law_444 hf (fun H locs hw => ?_)
  refine lv_aload_n hx hb dL_law_447 rfl (lv_at hl 2 rfl) ?_
  refine lv_aload_n hx hb dL_law_448 rfl (lv_at hl 0 rfl) ?_
  refine lv_iload_n hx hb dL_law_449 rfl (lv_at hl 3 rfl) ?_
  refine lv_iconst (v := 1) hx hb dL_law_450 (by decide) ?_
  refine lv_iadd hx hb dL_law_451 ?_
  refine l_ld A hw (l_in (j := 1) hi A.2.2.2.2.1 (by decide) rfl) dL_law_452 ?_
  refine l_callMI (rest := [.int (r)]) A hw (zX12_feed l _ v (xs (nI i + 1).toNatClampNeg) (r, v') h2) km_L_43 ki_yX12_feed kv_X12_feed kz_X12 kc_X12_feed rfl ok_yX12_feed ⟨Nat.le_of_ble_eq_true rfl, Nat.le_of_ble_eq_true rfl⟩ rfl rfl rfl rfl hl.1 (Nat.le_of_ble_eq_true rfl) dL_law_453 hf (fun H locs hw => ?_)
  refine lv_icmp_eq (tgt := 1560) hx hb dL_law_456 (by decide) (fun c1 => kk _ _ _ _ hR' hw) (fun c1 => absurd rfl c1)
set_option maxHeartbeats 4000000 in
theorem law_law {p : Program} {l : Launch} {e : Env} {s : State} {m : MethodId} {below : List Frame} {meth : Method} {c : Code} {H : Heap} {locs : List Loc} {cells slots : Nat} {Q : State → Prop} {ls : Array Slot} {X1 X2 : WX} {u v : St} {b L i n : Nat} {xs : Nat → Int32} {Rel : St → St → Prop} (A : LA X1 X2 p s m meth c b L xs) (hw : W2 X1 X2 s u v H locs) (hl : lv_has ls 4 [(0, .ref b), (1, .ref (xq X1 0)), (2, .ref (xq X2 0)), (3, .int (nI i))]) (hi : i + 6 ≤ L) (hf : cells ≤ room_1.cells ∧ slots ≤ room_1.slots) (B : S_law Rel n) (hR : Rel u v) (kk : ∀ (u' v' : St) (H : Heap) (locs : List Loc), Rel u' v' → W2 X1 X2 s u' v' H locs → W p l e room_1 s m #[Value.ref b] below meth c H locs cells slots Q (F0 m 1560 ls [])) : W p l e room_1 s m #[Value.ref b] below meth c H locs cells slots Q (F0 m 461 ls []) := by
  obtain ⟨hx, hb, hml, hown, hts⟩ := id A.1
  refine lv_aload_n hx hb dL_law_461 rfl (lv_at hl 1 rfl) ?_
  obtain ⟨r, u', v', h1, h2, hR'⟩ := B u v  hR
  refine l_callCI (rest := []) A hw (zX11_law l _ n u (r, u') h1) km_L_44 ki_yX11_law kv_X11_law kz_X11 kc_X11_law rfl ok_yX11_law ⟨Nat.le_of_ble_eq_true rfl, Nat.le_of_ble_eq_true rfl⟩ rfl rfl rfl rfl hl.1 (Nat.le_of_ble_eq_true rfl) dL_law_462 hf (fun H locs hw => ?_)
  refine lv_aload_n hx hb dL_law_465 rfl (lv_at hl 2 rfl) ?_
  refine l_callMI (rest := [.int (r)]) A hw (zX12_law l _ n v (r, v') h2) km_L_48 ki_yX12_law kv_X12_law kz_X12 kc_X12_law rfl ok_yX12_law ⟨Nat.le_of_ble_eq_true rfl, Nat.le_of_ble_eq_true rfl⟩ rfl rfl rfl rfl hl.1 (Nat.le_of_ble_eq_true rfl) dL_law_466 hf (fun H locs hw => ?_)
  refine lv_icmp_eq (tgt := 1560) hx hb dL_law_469 (by decide) (fun c1 => kk _ _ _ _ hR' hw) (fun c1 => absurd rfl c1)
set_option maxHeartbeats 4000000 in
theorem law_counts {p : Program} {l : Launch} {e : Env} {s : State} {m : MethodId} {below : List Frame} {meth : Method} {c : Code} {H : Heap} {locs : List Loc} {cells slots : Nat} {Q : State → Prop} {ls : Array Slot} {X1 X2 : WX} {u v : St} {b L i n : Nat} {xs : Nat → Int32} {Rel : St → St → Prop} (A : LA X1 X2 p s m meth c b L xs) (hw : W2 X1 X2 s u v H locs) (hl : lv_has ls 4 [(0, .ref b), (1, .ref (xq X1 0)), (2, .ref (xq X2 0)), (3, .int (nI i))]) (hi : i + 6 ≤ L) (hf : cells ≤ room_1.cells ∧ slots ≤ room_1.slots) (B : S_counts Rel n) (hR : Rel u v) (kk : ∀ (u' v' : St) (H : Heap) (locs : List Loc), Rel u' v' → W2 X1 X2 s u' v' H locs → W p l e room_1 s m #[Value.ref b] below meth c H locs cells slots Q (F0 m 1560 ls [])) : W p l e room_1 s m #[Value.ref b] below meth c H locs cells slots Q (F0 m 474 ls []) := by
  obtain ⟨hx, hb, hml, hown, hts⟩ := id A.1
  refine lv_aload_n hx hb dL_law_474 rfl (lv_at hl 1 rfl) ?_
  refine lv_aload_n hx hb dL_law_475 rfl (lv_at hl 0 rfl) ?_
  refine lv_iload_n hx hb dL_law_476 rfl (lv_at hl 3 rfl) ?_
  refine lv_iconst (v := 1) hx hb dL_law_477 (by decide) ?_
  refine lv_iadd hx hb dL_law_478 ?_
  refine l_ld A hw (l_in (j := 1) hi A.2.2.2.2.1 (by decide) rfl) dL_law_479 ?_
  obtain ⟨r, u', v', h1, h2, hR'⟩ := B u v (xs (nI i + 1).toNatClampNeg) hR
  refine l_callCI (rest := []) A hw (zX11_counts l _ n u (xs (nI i + 1).toNatClampNeg) (r, u') h1) km_L_49 ki_yX11_counts kv_X11_counts kz_X11 kc_X11_counts rfl ok_yX11_counts ⟨Nat.le_of_ble_eq_true rfl, Nat.le_of_ble_eq_true rfl⟩ rfl rfl rfl rfl hl.1 (Nat.le_of_ble_eq_true rfl) dL_law_480 hf (fun H locs hw => ?_)
  refine lv_aload_n hx hb dL_law_483 rfl (lv_at hl 2 rfl) ?_
  refine lv_aload_n hx hb dL_law_484 rfl (lv_at hl 0 rfl) ?_
  refine lv_iload_n hx hb dL_law_485 rfl (lv_at hl 3 rfl) ?_
  refine lv_iconst (v := 1) hx hb dL_law_486 (by decide) ?_
  refine lv_iadd hx hb dL_law_487 ?_
  refine l_ld A hw (l_in (j := 1) hi A.2.2.2.2.1 (by decide) rfl) dL_law_488 ?_
  refine l_callMI (rest := [.int (r)]) A hw (zX12_counts l _ n v (xs (nI i + 1).toNatClampNeg) (r, v') h2) km_L_52 ki_yX12_counts kv_X12_counts kz_X12 kc_X12_counts rfl ok_yX12_counts ⟨Nat.le_of_ble_eq_true rfl, Nat.le_of_ble_eq_true rfl⟩ rfl rfl rfl rfl hl.1 (Nat.le_of_ble_eq_true rfl) dL_law_489 hf (fun H locs hw => ?_)
  refine lv_icmp_eq (tgt := 1560) hx hb dL_law_492 (by decide) (fun c1 => kk _ _ _ _ hR' hw) (fun c1 => absurd rfl c1)
set_option maxHeartbeats 4000000 in
theorem law_at {p : Program} {l : Launch} {e : Env} {s : State} {m : MethodId} {below : List Frame} {meth : Method} {c : Code} {H : Heap} {locs : List Loc} {cells slots : Nat} {Q : State → Prop} {ls : Array Slot} {X1 X2 : WX} {u v : St} {b L i n : Nat} {xs : Nat → Int32} {Rel : St → St → Prop} (A : LA X1 X2 p s m meth c b L xs) (hw : W2 X1 X2 s u v H locs) (hl : lv_has ls 4 [(0, .ref b), (1, .ref (xq X1 0)), (2, .ref (xq X2 0)), (3, .int (nI i))]) (hi : i + 6 ≤ L) (hf : cells ≤ room_1.cells ∧ slots ≤ room_1.slots) (B : S_at Rel n) (hR : Rel u v) (kk : ∀ (u' v' : St) (H : Heap) (locs : List Loc), Rel u' v' → W2 X1 X2 s u' v' H locs → W p l e room_1 s m #[Value.ref b] below meth c H locs cells slots Q (F0 m 1560 ls [])) : W p l e room_1 s m #[Value.ref b] below meth c H locs cells slots Q (F0 m 497 ls []) := by
  obtain ⟨hx, hb, hml, hown, hts⟩ := id A.1
  refine lv_aload_n hx hb dL_law_497 rfl (lv_at hl 1 rfl) ?_
  refine lv_aload_n hx hb dL_law_498 rfl (lv_at hl 0 rfl) ?_
  refine lv_iload_n hx hb dL_law_499 rfl (lv_at hl 3 rfl) ?_
  refine lv_iconst (v := 1) hx hb dL_law_500 (by decide) ?_
  refine lv_iadd hx hb dL_law_501 ?_
  refine l_ld A hw (l_in (j := 1) hi A.2.2.2.2.1 (by decide) rfl) dL_law_502 ?_
  obtain ⟨r, u', v', h1, h2, hR'⟩ := B u v (xs (nI i + 1).toNatClampNeg) hR
  obtain ⟨h1, h1e⟩ := h1
  rw [h1e] at hR'
  refine l_callCI (rest := []) A hw (zX11_at l _ n u (xs (nI i + 1).toNatClampNeg) r h1) km_L_53 ki_yX11_at kv_X11_at kz_X11 kc_X11_at rfl ok_yX11_at ⟨Nat.le_of_ble_eq_true rfl, Nat.le_of_ble_eq_true rfl⟩ rfl rfl rfl rfl hl.1 (Nat.le_of_ble_eq_true rfl) dL_law_503 hf (fun H locs hw => ?_)
  refine lv_aload_n hx hb dL_law_506 rfl (lv_at hl 2 rfl) ?_
  refine lv_aload_n hx hb dL_law_507 rfl (lv_at hl 0 rfl) ?_
  refine lv_iload_n hx hb dL_law_508 rfl (lv_at hl 3 rfl) ?_
  refine lv_iconst (v := 1) hx hb dL_law_509 (by decide) ?_
  refine lv_iadd hx hb dL_law_510 ?_
  refine l_ld A hw (l_in (j := 1) hi A.2.2.2.2.1 (by decide) rfl) dL_law_511 ?_
  obtain ⟨h2, h2e⟩ := h2
  rw [h2e] at hR'
  refine l_callMI (rest := [.int (r)]) A hw (zX12_at l _ n v (xs (nI i + 1).toNatClampNeg) r h2) km_L_56 ki_yX12_at kv_X12_at kz_X12 kc_X12_at rfl ok_yX12_at ⟨Nat.le_of_ble_eq_true rfl, Nat.le_of_ble_eq_true rfl⟩ rfl rfl rfl rfl hl.1 (Nat.le_of_ble_eq_true rfl) dL_law_512 hf (fun H locs hw => ?_)
  refine lv_icmp_eq (tgt := 1560) hx hb dL_law_515 (by decide) (fun c1 => kk _ _ _ _ hR' hw) (fun c1 => absurd rfl c1)
set_option maxHeartbeats 4000000 in
theorem law_whose {p : Program} {l : Launch} {e : Env} {s : State} {m : MethodId} {below : List Frame} {meth : Method} {c : Code} {H : Heap} {locs : List Loc} {cells slots : Nat} {Q : State → Prop} {ls : Array Slot} {X1 X2 : WX} {u v : St} {b L i n : Nat} {xs : Nat → Int32} {Rel : St → St → Prop} (A : LA X1 X2 p s m meth c b L xs) (hw : W2 X1 X2 s u v H locs) (hl : lv_has ls 4 [(0, .ref b), (1, .ref (xq X1 0)), (2, .ref (xq X2 0)), (3, .int (nI i))]) (hi : i + 6 ≤ L) (hf : cells ≤ room_1.cells ∧ slots ≤ room_1.slots) (B : S_whose Rel n) (hR : Rel u v) (kk : ∀ (u' v' : St) (H : Heap) (locs : List Loc), Rel u' v' → W2 X1 X2 s u' v' H locs → W p l e room_1 s m #[Value.ref b] below meth c H locs cells slots Q (F0 m 1560 ls [])) : W p l e room_1 s m #[Value.ref b] below meth c H locs cells slots Q (F0 m 520 ls []) := by
  obtain ⟨hx, hb, hml, hown, hts⟩ := id A.1
  refine lv_aload_n hx hb dL_law_520 rfl (lv_at hl 1 rfl) ?_
  refine lv_aload_n hx hb dL_law_521 rfl (lv_at hl 0 rfl) ?_
  refine lv_iload_n hx hb dL_law_522 rfl (lv_at hl 3 rfl) ?_
  refine lv_iconst (v := 1) hx hb dL_law_523 (by decide) ?_
  refine lv_iadd hx hb dL_law_524 ?_
  refine l_ld A hw (l_in (j := 1) hi A.2.2.2.2.1 (by decide) rfl) dL_law_525 ?_
  refine lv_aload_n hx hb dL_law_526 rfl (lv_at hl 0 rfl) ?_
  refine lv_iload_n hx hb dL_law_527 rfl (lv_at hl 3 rfl) ?_
  refine lv_iconst (v := 2) hx hb dL_law_528 (by decide) ?_
  refine lv_iadd hx hb dL_law_529 ?_
  refine l_ld A hw (l_in (j := 2) hi A.2.2.2.2.1 (by decide) rfl) dL_law_530 ?_
  obtain ⟨r, u', v', h1, h2, hR'⟩ := B u v (xs (nI i + 1).toNatClampNeg) (xs (nI i + 2).toNatClampNeg) hR
  refine l_callCI (rest := []) A hw (zX11_whose l _ n u (xs (nI i + 1).toNatClampNeg) (xs (nI i + 2).toNatClampNeg) (r, u') h1) km_L_57 ki_yX11_whose kv_X11_whose kz_X11 kc_X11_whose rfl ok_yX11_whose ⟨Nat.le_of_ble_eq_true rfl, Nat.le_of_ble_eq_true rfl⟩ rfl rfl rfl rfl hl.1 (Nat.le_of_ble_eq_true rfl) dL_law_531 hf (fun H locs hw => ?_)
  refine lv_aload_n hx hb dL_law_534 rfl (lv_at hl 2 rfl) ?_
  refine lv_aload_n hx hb dL_law_535 rfl (lv_at hl 0 rfl) ?_
  refine lv_iload_n hx hb dL_law_536 rfl (lv_at hl 3 rfl) ?_
  refine lv_iconst (v := 1) hx hb dL_law_537 (by decide) ?_
  refine lv_iadd hx hb dL_law_538 ?_
  refine l_ld A hw (l_in (j := 1) hi A.2.2.2.2.1 (by decide) rfl) dL_law_539 ?_
  refine lv_aload_n hx hb dL_law_540 rfl (lv_at hl 0 rfl) ?_
  refine lv_iload_n hx hb dL_law_541 rfl (lv_at hl 3 rfl) ?_
  refine lv_iconst (v := 2) hx hb dL_law_542 (by decide) ?_
  refine lv_iadd hx hb dL_law_543 ?_
  refine l_ld A hw (l_in (j := 2) hi A.2.2.2.2.1 (by decide) rfl) dL_law_544 ?_
  refine l_callMI (rest := [.int (r)]) A hw (zX12_whose l _ n v (xs (nI i + 1).toNatClampNeg) (xs (nI i + 2).toNatClampNeg) (r, v') h2) km_L_60 ki_yX12_whose kv_X12_whose kz_X12 kc_X12_whose rfl ok_yX12_whose ⟨Nat.le_of_ble_eq_true rfl, Nat.le_of_ble_eq_true rfl⟩ rfl rfl rfl rfl hl.1 (Nat.le_of_ble_eq_true rfl) dL_law_545 hf (fun H locs hw => ?_)
  refine lv_icmp_eq (tgt := 1560) hx hb dL_law_548 (by decide) (fun c1 => kk _ _ _ _ hR' hw) (fun c1 => absurd rfl c1)
set_option maxHeartbeats 4000000 in
theorem law_owed {p : Program} {l : Launch} {e : Env} {s : State} {m : MethodId} {below : List Frame} {meth : Method} {c : Code} {H : Heap} {locs : List Loc} {cells slots : Nat} {Q : State → Prop} {ls : Array Slot} {X1 X2 : WX} {u v : St} {b L i n : Nat} {xs : Nat → Int32} {Rel : St → St → Prop} (A : LA X1 X2 p s m meth c b L xs) (hw : W2 X1 X2 s u v H locs) (hl : lv_has ls 4 [(0, .ref b), (1, .ref (xq X1 0)), (2, .ref (xq X2 0)), (3, .int (nI i))]) (hi : i + 6 ≤ L) (hf : cells ≤ room_1.cells ∧ slots ≤ room_1.slots) (B : S_owed Rel n) (hR : Rel u v) (kk : ∀ (u' v' : St) (H : Heap) (locs : List Loc), Rel u' v' → W2 X1 X2 s u' v' H locs → W p l e room_1 s m #[Value.ref b] below meth c H locs cells slots Q (F0 m 1560 ls [])) : W p l e room_1 s m #[Value.ref b] below meth c H locs cells slots Q (F0 m 553 ls []) := by
  obtain ⟨hx, hb, hml, hown, hts⟩ := id A.1
  refine lv_aload_n hx hb dL_law_553 rfl (lv_at hl 1 rfl) ?_
  refine lv_aload_n hx hb dL_law_554 rfl (lv_at hl 0 rfl) ?_
  refine lv_iload_n hx hb dL_law_555 rfl (lv_at hl 3 rfl) ?_
  refine lv_iconst (v := 1) hx hb dL_law_556 (by decide) ?_
  refine lv_iadd hx hb dL_law_557 ?_
  refine l_ld A hw (l_in (j := 1) hi A.2.2.2.2.1 (by decide) rfl) dL_law_558 ?_
  obtain ⟨r, u', v', h1, h2, hR'⟩ := B u v (xs (nI i + 1).toNatClampNeg) hR
  refine l_callCI (rest := []) A hw (zX11_owed l _ n u (xs (nI i + 1).toNatClampNeg) (r, u') h1) km_L_61 ki_yX11_owed kv_X11_owed kz_X11 kc_X11_owed rfl ok_yX11_owed ⟨Nat.le_of_ble_eq_true rfl, Nat.le_of_ble_eq_true rfl⟩ rfl rfl rfl rfl hl.1 (Nat.le_of_ble_eq_true rfl) dL_law_559 hf (fun H locs hw => ?_)
  refine lv_aload_n hx hb dL_law_562 rfl (lv_at hl 2 rfl) ?_
  refine lv_aload_n hx hb dL_law_563 rfl (lv_at hl 0 rfl) ?_
  refine lv_iload_n hx hb dL_law_564 rfl (lv_at hl 3 rfl) ?_
  refine lv_iconst (v := 1) hx hb dL_law_565 (by decide) ?_
  refine lv_iadd hx hb dL_law_566 ?_
  refine l_ld A hw (l_in (j := 1) hi A.2.2.2.2.1 (by decide) rfl) dL_law_567 ?_
  refine l_callMI (rest := [.int (r)]) A hw (zX12_owed l _ n v (xs (nI i + 1).toNatClampNeg) (r, v') h2) km_L_64 ki_yX12_owed kv_X12_owed kz_X12 kc_X12_owed rfl ok_yX12_owed ⟨Nat.le_of_ble_eq_true rfl, Nat.le_of_ble_eq_true rfl⟩ rfl rfl rfl rfl hl.1 (Nat.le_of_ble_eq_true rfl) dL_law_568 hf (fun H locs hw => ?_)
  refine lv_icmp_eq (tgt := 1560) hx hb dL_law_571 (by decide) (fun c1 => kk _ _ _ _ hR' hw) (fun c1 => absurd rfl c1)
set_option maxHeartbeats 4000000 in
theorem law_who {p : Program} {l : Launch} {e : Env} {s : State} {m : MethodId} {below : List Frame} {meth : Method} {c : Code} {H : Heap} {locs : List Loc} {cells slots : Nat} {Q : State → Prop} {ls : Array Slot} {X1 X2 : WX} {u v : St} {b L i n : Nat} {xs : Nat → Int32} {Rel : St → St → Prop} (A : LA X1 X2 p s m meth c b L xs) (hw : W2 X1 X2 s u v H locs) (hl : lv_has ls 4 [(0, .ref b), (1, .ref (xq X1 0)), (2, .ref (xq X2 0)), (3, .int (nI i))]) (hi : i + 6 ≤ L) (hf : cells ≤ room_1.cells ∧ slots ≤ room_1.slots) (B : S_who Rel n) (hR : Rel u v) (kk : ∀ (u' v' : St) (H : Heap) (locs : List Loc), Rel u' v' → W2 X1 X2 s u' v' H locs → W p l e room_1 s m #[Value.ref b] below meth c H locs cells slots Q (F0 m 1560 ls [])) : W p l e room_1 s m #[Value.ref b] below meth c H locs cells slots Q (F0 m 576 ls []) := by
  obtain ⟨hx, hb, hml, hown, hts⟩ := id A.1
  refine lv_aload_n hx hb dL_law_576 rfl (lv_at hl 1 rfl) ?_
  refine lv_aload_n hx hb dL_law_577 rfl (lv_at hl 0 rfl) ?_
  refine lv_iload_n hx hb dL_law_578 rfl (lv_at hl 3 rfl) ?_
  refine lv_iconst (v := 1) hx hb dL_law_579 (by decide) ?_
  refine lv_iadd hx hb dL_law_580 ?_
  refine l_ld A hw (l_in (j := 1) hi A.2.2.2.2.1 (by decide) rfl) dL_law_581 ?_
  obtain ⟨r, u', v', h1, h2, hR'⟩ := B u v (xs (nI i + 1).toNatClampNeg) hR
  refine l_callCI (rest := []) A hw (zX11_who l _ n u (xs (nI i + 1).toNatClampNeg) (r, u') h1) km_L_65 ki_yX11_who kv_X11_who kz_X11 kc_X11_who rfl ok_yX11_who ⟨Nat.le_of_ble_eq_true rfl, Nat.le_of_ble_eq_true rfl⟩ rfl rfl rfl rfl hl.1 (Nat.le_of_ble_eq_true rfl) dL_law_582 hf (fun H locs hw => ?_)
  refine lv_aload_n hx hb dL_law_585 rfl (lv_at hl 2 rfl) ?_
  refine lv_aload_n hx hb dL_law_586 rfl (lv_at hl 0 rfl) ?_
  refine lv_iload_n hx hb dL_law_587 rfl (lv_at hl 3 rfl) ?_
  refine lv_iconst (v := 1) hx hb dL_law_588 (by decide) ?_
  refine lv_iadd hx hb dL_law_589 ?_
  refine l_ld A hw (l_in (j := 1) hi A.2.2.2.2.1 (by decide) rfl) dL_law_590 ?_
  refine l_callMI (rest := [.int (r)]) A hw (zX12_who l _ n v (xs (nI i + 1).toNatClampNeg) (r, v') h2) km_L_68 ki_yX12_who kv_X12_who kz_X12 kc_X12_who rfl ok_yX12_who ⟨Nat.le_of_ble_eq_true rfl, Nat.le_of_ble_eq_true rfl⟩ rfl rfl rfl rfl hl.1 (Nat.le_of_ble_eq_true rfl) dL_law_591 hf (fun H locs hw => ?_)
  refine lv_icmp_eq (tgt := 1560) hx hb dL_law_594 (by decide) (fun c1 => kk _ _ _ _ hR' hw) (fun c1 => absurd rfl c1)
set_option maxHeartbeats 4000000 in
theorem law_hedge {p : Program} {l : Launch} {e : Env} {s : State} {m : MethodId} {below : List Frame} {meth : Method} {c : Code} {H : Heap} {locs : List Loc} {cells slots : Nat} {Q : State → Prop} {ls : Array Slot} {X1 X2 : WX} {u v : St} {b L i n : Nat} {xs : Nat → Int32} {Rel : St → St → Prop} (A : LA X1 X2 p s m meth c b L xs) (hw : W2 X1 X2 s u v H locs) (hl : lv_has ls 4 [(0, .ref b), (1, .ref (xq X1 0)), (2, .ref (xq X2 0)), (3, .int (nI i))]) (hi : i + 6 ≤ L) (hf : cells ≤ room_1.cells ∧ slots ≤ room_1.slots) (B : S_hedge Rel n) (hR : Rel u v) (kk : ∀ (u' v' : St) (H : Heap) (locs : List Loc), Rel u' v' → W2 X1 X2 s u' v' H locs → W p l e room_1 s m #[Value.ref b] below meth c H locs cells slots Q (F0 m 1560 ls [])) : W p l e room_1 s m #[Value.ref b] below meth c H locs cells slots Q (F0 m 599 ls []) := by
  obtain ⟨hx, hb, hml, hown, hts⟩ := id A.1
  refine lv_aload_n hx hb dL_law_599 rfl (lv_at hl 1 rfl) ?_
  refine lv_aload_n hx hb dL_law_600 rfl (lv_at hl 0 rfl) ?_
  refine lv_iload_n hx hb dL_law_601 rfl (lv_at hl 3 rfl) ?_
  refine lv_iconst (v := 1) hx hb dL_law_602 (by decide) ?_
  refine lv_iadd hx hb dL_law_603 ?_
  refine l_ld A hw (l_in (j := 1) hi A.2.2.2.2.1 (by decide) rfl) dL_law_604 ?_
  refine lv_aload_n hx hb dL_law_605 rfl (lv_at hl 0 rfl) ?_
  refine lv_iload_n hx hb dL_law_606 rfl (lv_at hl 3 rfl) ?_
  refine lv_iconst (v := 2) hx hb dL_law_607 (by decide) ?_
  refine lv_iadd hx hb dL_law_608 ?_
  refine l_ld A hw (l_in (j := 2) hi A.2.2.2.2.1 (by decide) rfl) dL_law_609 ?_
  obtain ⟨r, u', v', h1, h2, hR'⟩ := B u v (xs (nI i + 1).toNatClampNeg) (xs (nI i + 2).toNatClampNeg) hR
  refine l_callCI (rest := []) A hw (zX11_hedge l _ n u (xs (nI i + 1).toNatClampNeg) (xs (nI i + 2).toNatClampNeg) (r, u') h1) km_L_69 ki_yX11_hedge kv_X11_hedge kz_X11 kc_X11_hedge rfl ok_yX11_hedge ⟨Nat.le_of_ble_eq_true rfl, Nat.le_of_ble_eq_true rfl⟩ rfl rfl rfl rfl hl.1 (Nat.le_of_ble_eq_true rfl) dL_law_610 hf (fun H locs hw => ?_)
  refine lv_aload_n hx hb dL_law_613 rfl (lv_at hl 2 rfl) ?_
  refine lv_aload_n hx hb dL_law_614 rfl (lv_at hl 0 rfl) ?_
  refine lv_iload_n hx hb dL_law_615 rfl (lv_at hl 3 rfl) ?_
  refine lv_iconst (v := 1) hx hb dL_law_616 (by decide) ?_
  refine lv_iadd hx hb dL_law_617 ?_
  refine l_ld A hw (l_in (j := 1) hi A.2.2.2.2.1 (by decide) rfl) dL_law_618 ?_
  refine lv_aload_n hx hb dL_law_619 rfl (lv_at hl 0 rfl) ?_
  refine lv_iload_n hx hb dL_law_620 rfl (lv_at hl 3 rfl) ?_
  refine lv_iconst (v := 2) hx hb dL_law_621 (by decide) ?_
  refine lv_iadd hx hb dL_law_622 ?_
  refine l_ld A hw (l_in (j := 2) hi A.2.2.2.2.1 (by decide) rfl) dL_law_623 ?_
  refine l_callMI (rest := [.int (r)]) A hw (zX12_hedge l _ n v (xs (nI i + 1).toNatClampNeg) (xs (nI i + 2).toNatClampNeg) (r, v') h2) km_L_72 ki_yX12_hedge kv_X12_hedge kz_X12 kc_X12_hedge rfl ok_yX12_hedge ⟨Nat.le_of_ble_eq_true rfl, Nat.le_of_ble_eq_true rfl⟩ rfl rfl rfl rfl hl.1 (Nat.le_of_ble_eq_true rfl) dL_law_624 hf (fun H locs hw => ?_)
  refine lv_icmp_eq (tgt := 1560) hx hb dL_law_627 (by decide) (fun c1 => kk _ _ _ _ hR' hw) (fun c1 => absurd rfl c1)
set_option maxHeartbeats 4000000 in
theorem law_later {p : Program} {l : Launch} {e : Env} {s : State} {m : MethodId} {below : List Frame} {meth : Method} {c : Code} {H : Heap} {locs : List Loc} {cells slots : Nat} {Q : State → Prop} {ls : Array Slot} {X1 X2 : WX} {u v : St} {b L i n : Nat} {xs : Nat → Int32} {Rel : St → St → Prop} (A : LA X1 X2 p s m meth c b L xs) (hw : W2 X1 X2 s u v H locs) (hl : lv_has ls 4 [(0, .ref b), (1, .ref (xq X1 0)), (2, .ref (xq X2 0)), (3, .int (nI i))]) (hi : i + 6 ≤ L) (hf : cells ≤ room_1.cells ∧ slots ≤ room_1.slots) (B : S_later Rel n) (hR : Rel u v) (kk : ∀ (u' v' : St) (H : Heap) (locs : List Loc), Rel u' v' → W2 X1 X2 s u' v' H locs → W p l e room_1 s m #[Value.ref b] below meth c H locs cells slots Q (F0 m 1560 ls [])) : W p l e room_1 s m #[Value.ref b] below meth c H locs cells slots Q (F0 m 632 ls []) := by
  obtain ⟨hx, hb, hml, hown, hts⟩ := id A.1
  refine lv_aload_n hx hb dL_law_632 rfl (lv_at hl 1 rfl) ?_
  refine lv_aload_n hx hb dL_law_633 rfl (lv_at hl 0 rfl) ?_
  refine lv_iload_n hx hb dL_law_634 rfl (lv_at hl 3 rfl) ?_
  refine lv_iconst (v := 1) hx hb dL_law_635 (by decide) ?_
  refine lv_iadd hx hb dL_law_636 ?_
  refine l_ld A hw (l_in (j := 1) hi A.2.2.2.2.1 (by decide) rfl) dL_law_637 ?_
  obtain ⟨r, u', v', h1, h2, hR'⟩ := B u v (xs (nI i + 1).toNatClampNeg) hR
  refine l_callCI (rest := []) A hw (zX11_later l _ n u (xs (nI i + 1).toNatClampNeg) (r, u') h1) km_L_73 ki_yX11_later kv_X11_later kz_X11 kc_X11_later rfl ok_yX11_later ⟨Nat.le_of_ble_eq_true rfl, Nat.le_of_ble_eq_true rfl⟩ rfl rfl rfl rfl hl.1 (Nat.le_of_ble_eq_true rfl) dL_law_638 hf (fun H locs hw => ?_)
  refine lv_aload_n hx hb dL_law_641 rfl (lv_at hl 2 rfl) ?_
  refine lv_aload_n hx hb dL_law_642 rfl (lv_at hl 0 rfl) ?_
  refine lv_iload_n hx hb dL_law_643 rfl (lv_at hl 3 rfl) ?_
  refine lv_iconst (v := 1) hx hb dL_law_644 (by decide) ?_
  refine lv_iadd hx hb dL_law_645 ?_
  refine l_ld A hw (l_in (j := 1) hi A.2.2.2.2.1 (by decide) rfl) dL_law_646 ?_
  refine l_callMI (rest := [.int (r)]) A hw (zX12_later l _ n v (xs (nI i + 1).toNatClampNeg) (r, v') h2) km_L_76 ki_yX12_later kv_X12_later kz_X12 kc_X12_later rfl ok_yX12_later ⟨Nat.le_of_ble_eq_true rfl, Nat.le_of_ble_eq_true rfl⟩ rfl rfl rfl rfl hl.1 (Nat.le_of_ble_eq_true rfl) dL_law_647 hf (fun H locs hw => ?_)
  refine lv_icmp_eq (tgt := 1560) hx hb dL_law_650 (by decide) (fun c1 => kk _ _ _ _ hR' hw) (fun c1 => absurd rfl c1)
set_option maxHeartbeats 4000000 in
theorem law_louder {p : Program} {l : Launch} {e : Env} {s : State} {m : MethodId} {below : List Frame} {meth : Method} {c : Code} {H : Heap} {locs : List Loc} {cells slots : Nat} {Q : State → Prop} {ls : Array Slot} {X1 X2 : WX} {u v : St} {b L i n : Nat} {xs : Nat → Int32} {Rel : St → St → Prop} (A : LA X1 X2 p s m meth c b L xs) (hw : W2 X1 X2 s u v H locs) (hl : lv_has ls 4 [(0, .ref b), (1, .ref (xq X1 0)), (2, .ref (xq X2 0)), (3, .int (nI i))]) (hi : i + 6 ≤ L) (hf : cells ≤ room_1.cells ∧ slots ≤ room_1.slots) (B : S_louder Rel n) (hR : Rel u v) (kk : ∀ (u' v' : St) (H : Heap) (locs : List Loc), Rel u' v' → W2 X1 X2 s u' v' H locs → W p l e room_1 s m #[Value.ref b] below meth c H locs cells slots Q (F0 m 1560 ls [])) : W p l e room_1 s m #[Value.ref b] below meth c H locs cells slots Q (F0 m 655 ls []) := by
  obtain ⟨hx, hb, hml, hown, hts⟩ := id A.1
  refine lv_aload_n hx hb dL_law_655 rfl (lv_at hl 1 rfl) ?_
  refine lv_aload_n hx hb dL_law_656 rfl (lv_at hl 0 rfl) ?_
  refine lv_iload_n hx hb dL_law_657 rfl (lv_at hl 3 rfl) ?_
  refine lv_iconst (v := 1) hx hb dL_law_658 (by decide) ?_
  refine lv_iadd hx hb dL_law_659 ?_
  refine l_ld A hw (l_in (j := 1) hi A.2.2.2.2.1 (by decide) rfl) dL_law_660 ?_
  obtain ⟨r, u', v', h1, h2, hR'⟩ := B u v (xs (nI i + 1).toNatClampNeg) hR
  refine l_callCI (rest := []) A hw (zX11_louder l _ n u (xs (nI i + 1).toNatClampNeg) (r, u') h1) km_L_77 ki_yX11_louder kv_X11_louder kz_X11 kc_X11_louder rfl ok_yX11_louder ⟨Nat.le_of_ble_eq_true rfl, Nat.le_of_ble_eq_true rfl⟩ rfl rfl rfl rfl hl.1 (Nat.le_of_ble_eq_true rfl) dL_law_661 hf (fun H locs hw => ?_)
  refine lv_aload_n hx hb dL_law_664 rfl (lv_at hl 2 rfl) ?_
  refine lv_aload_n hx hb dL_law_665 rfl (lv_at hl 0 rfl) ?_
  refine lv_iload_n hx hb dL_law_666 rfl (lv_at hl 3 rfl) ?_
  refine lv_iconst (v := 1) hx hb dL_law_667 (by decide) ?_
  refine lv_iadd hx hb dL_law_668 ?_
  refine l_ld A hw (l_in (j := 1) hi A.2.2.2.2.1 (by decide) rfl) dL_law_669 ?_
  refine l_callMI (rest := [.int (r)]) A hw (zX12_louder l _ n v (xs (nI i + 1).toNatClampNeg) (r, v') h2) km_L_80 ki_yX12_louder kv_X12_louder kz_X12 kc_X12_louder rfl ok_yX12_louder ⟨Nat.le_of_ble_eq_true rfl, Nat.le_of_ble_eq_true rfl⟩ rfl rfl rfl rfl hl.1 (Nat.le_of_ble_eq_true rfl) dL_law_670 hf (fun H locs hw => ?_)
  refine lv_icmp_eq (tgt := 1560) hx hb dL_law_673 (by decide) (fun c1 => kk _ _ _ _ hR' hw) (fun c1 => absurd rfl c1)
set_option maxHeartbeats 4000000 in
theorem law_bestCry {p : Program} {l : Launch} {e : Env} {s : State} {m : MethodId} {below : List Frame} {meth : Method} {c : Code} {H : Heap} {locs : List Loc} {cells slots : Nat} {Q : State → Prop} {ls : Array Slot} {X1 X2 : WX} {u v : St} {b L i n : Nat} {xs : Nat → Int32} {Rel : St → St → Prop} (A : LA X1 X2 p s m meth c b L xs) (hw : W2 X1 X2 s u v H locs) (hl : lv_has ls 4 [(0, .ref b), (1, .ref (xq X1 0)), (2, .ref (xq X2 0)), (3, .int (nI i))]) (hi : i + 6 ≤ L) (hf : cells ≤ room_1.cells ∧ slots ≤ room_1.slots) (B : S_bestCry Rel n) (hR : Rel u v) (kk : ∀ (u' v' : St) (H : Heap) (locs : List Loc), Rel u' v' → W2 X1 X2 s u' v' H locs → W p l e room_1 s m #[Value.ref b] below meth c H locs cells slots Q (F0 m 1560 ls [])) : W p l e room_1 s m #[Value.ref b] below meth c H locs cells slots Q (F0 m 678 ls []) := by
  obtain ⟨hx, hb, hml, hown, hts⟩ := id A.1
  refine lv_aload_n hx hb dL_law_678 rfl (lv_at hl 1 rfl) ?_
  refine lv_aload_n hx hb dL_law_679 rfl (lv_at hl 0 rfl) ?_
  refine lv_iload_n hx hb dL_law_680 rfl (lv_at hl 3 rfl) ?_
  refine lv_iconst (v := 1) hx hb dL_law_681 (by decide) ?_
  refine lv_iadd hx hb dL_law_682 ?_
  refine l_ld A hw (l_in (j := 1) hi A.2.2.2.2.1 (by decide) rfl) dL_law_683 ?_
  refine lv_aload_n hx hb dL_law_684 rfl (lv_at hl 0 rfl) ?_
  refine lv_iload_n hx hb dL_law_685 rfl (lv_at hl 3 rfl) ?_
  refine lv_iconst (v := 2) hx hb dL_law_686 (by decide) ?_
  refine lv_iadd hx hb dL_law_687 ?_
  refine l_ld A hw (l_in (j := 2) hi A.2.2.2.2.1 (by decide) rfl) dL_law_688 ?_
  obtain ⟨r, u', v', h1, h2, hR'⟩ := B u v (xs (nI i + 1).toNatClampNeg) (xs (nI i + 2).toNatClampNeg) hR
  refine l_callCI (rest := []) A hw (zX11_bestCry l _ n u (xs (nI i + 1).toNatClampNeg) (xs (nI i + 2).toNatClampNeg) (r, u') h1) km_L_81 ki_yX11_bestCry kv_X11_bestCry kz_X11 kc_X11_bestCry rfl ok_yX11_bestCry ⟨Nat.le_of_ble_eq_true rfl, Nat.le_of_ble_eq_true rfl⟩ rfl rfl rfl rfl hl.1 (Nat.le_of_ble_eq_true rfl) dL_law_689 hf (fun H locs hw => ?_)
  refine lv_aload_n hx hb dL_law_692 rfl (lv_at hl 2 rfl) ?_
  refine lv_aload_n hx hb dL_law_693 rfl (lv_at hl 0 rfl) ?_
  refine lv_iload_n hx hb dL_law_694 rfl (lv_at hl 3 rfl) ?_
  refine lv_iconst (v := 1) hx hb dL_law_695 (by decide) ?_
  refine lv_iadd hx hb dL_law_696 ?_
  refine l_ld A hw (l_in (j := 1) hi A.2.2.2.2.1 (by decide) rfl) dL_law_697 ?_
  refine lv_aload_n hx hb dL_law_698 rfl (lv_at hl 0 rfl) ?_
  refine lv_iload_n hx hb dL_law_699 rfl (lv_at hl 3 rfl) ?_
  refine lv_iconst (v := 2) hx hb dL_law_700 (by decide) ?_
  refine lv_iadd hx hb dL_law_701 ?_
  refine l_ld A hw (l_in (j := 2) hi A.2.2.2.2.1 (by decide) rfl) dL_law_702 ?_
  refine l_callMI (rest := [.int (r)]) A hw (zX12_bestCry l _ n v (xs (nI i + 1).toNatClampNeg) (xs (nI i + 2).toNatClampNeg) (r, v') h2) km_L_84 ki_yX12_bestCry kv_X12_bestCry kz_X12 kc_X12_bestCry rfl ok_yX12_bestCry ⟨Nat.le_of_ble_eq_true rfl, Nat.le_of_ble_eq_true rfl⟩ rfl rfl rfl rfl hl.1 (Nat.le_of_ble_eq_true rfl) dL_law_703 hf (fun H locs hw => ?_)
  refine lv_icmp_eq (tgt := 1560) hx hb dL_law_706 (by decide) (fun c1 => kk _ _ _ _ hR' hw) (fun c1 => absurd rfl c1)
set_option maxHeartbeats 4000000 in
theorem law_buy {p : Program} {l : Launch} {e : Env} {s : State} {m : MethodId} {below : List Frame} {meth : Method} {c : Code} {H : Heap} {locs : List Loc} {cells slots : Nat} {Q : State → Prop} {ls : Array Slot} {X1 X2 : WX} {u v : St} {b L i n : Nat} {xs : Nat → Int32} {Rel : St → St → Prop} (A : LA X1 X2 p s m meth c b L xs) (hw : W2 X1 X2 s u v H locs) (hl : lv_has ls 4 [(0, .ref b), (1, .ref (xq X1 0)), (2, .ref (xq X2 0)), (3, .int (nI i))]) (hi : i + 6 ≤ L) (hf : cells ≤ room_1.cells ∧ slots ≤ room_1.slots) (B : S_buy Rel n) (hR : Rel u v) (kk : ∀ (u' v' : St) (H : Heap) (locs : List Loc), Rel u' v' → W2 X1 X2 s u' v' H locs → W p l e room_1 s m #[Value.ref b] below meth c H locs cells slots Q (F0 m 1560 ls [])) : W p l e room_1 s m #[Value.ref b] below meth c H locs cells slots Q (F0 m 711 ls []) := by
  obtain ⟨hx, hb, hml, hown, hts⟩ := id A.1
  refine lv_aload_n hx hb dL_law_711 rfl (lv_at hl 1 rfl) ?_
  refine lv_aload_n hx hb dL_law_712 rfl (lv_at hl 0 rfl) ?_
  refine lv_iload_n hx hb dL_law_713 rfl (lv_at hl 3 rfl) ?_
  refine lv_iconst (v := 1) hx hb dL_law_714 (by decide) ?_
  refine lv_iadd hx hb dL_law_715 ?_
  refine l_ld A hw (l_in (j := 1) hi A.2.2.2.2.1 (by decide) rfl) dL_law_716 ?_
  refine lv_aload_n hx hb dL_law_717 rfl (lv_at hl 0 rfl) ?_
  refine lv_iload_n hx hb dL_law_718 rfl (lv_at hl 3 rfl) ?_
  refine lv_iconst (v := 2) hx hb dL_law_719 (by decide) ?_
  refine lv_iadd hx hb dL_law_720 ?_
  refine l_ld A hw (l_in (j := 2) hi A.2.2.2.2.1 (by decide) rfl) dL_law_721 ?_
  refine lv_aload_n hx hb dL_law_722 rfl (lv_at hl 0 rfl) ?_
  refine lv_iload_n hx hb dL_law_723 rfl (lv_at hl 3 rfl) ?_
  refine lv_iconst (v := 3) hx hb dL_law_724 (by decide) ?_
  refine lv_iadd hx hb dL_law_725 ?_
  refine l_ld A hw (l_in (j := 3) hi A.2.2.2.2.1 (by decide) rfl) dL_law_726 ?_
  obtain ⟨r, u', v', h1, h2, hR'⟩ := B u v (xs (nI i + 1).toNatClampNeg) (xs (nI i + 2).toNatClampNeg) (xs (nI i + 3).toNatClampNeg) hR
  refine l_callCI (rest := []) A hw (zX11_buy l _ n u (xs (nI i + 1).toNatClampNeg) (xs (nI i + 2).toNatClampNeg) (xs (nI i + 3).toNatClampNeg) (r, u') h1) km_L_85 ki_yX11_buy kv_X11_buy kz_X11 kc_X11_buy rfl ok_yX11_buy ⟨Nat.le_of_ble_eq_true rfl, Nat.le_of_ble_eq_true rfl⟩ rfl rfl rfl rfl hl.1 (Nat.le_of_ble_eq_true rfl) dL_law_727 hf (fun H locs hw => ?_)
  refine lv_aload_n hx hb dL_law_730 rfl (lv_at hl 2 rfl) ?_
  refine lv_aload_n hx hb dL_law_731 rfl (lv_at hl 0 rfl) ?_
  refine lv_iload_n hx hb dL_law_732 rfl (lv_at hl 3 rfl) ?_
  refine lv_iconst (v := 1) hx hb dL_law_733 (by decide) ?_
  refine lv_iadd hx hb dL_law_734 ?_
  refine l_ld A hw (l_in (j := 1) hi A.2.2.2.2.1 (by decide) rfl) dL_law_735 ?_
  refine lv_aload_n hx hb dL_law_736 rfl (lv_at hl 0 rfl) ?_
  refine lv_iload_n hx hb dL_law_737 rfl (lv_at hl 3 rfl) ?_
  refine lv_iconst (v := 2) hx hb dL_law_738 (by decide) ?_
  refine lv_iadd hx hb dL_law_739 ?_
  refine l_ld A hw (l_in (j := 2) hi A.2.2.2.2.1 (by decide) rfl) dL_law_740 ?_
  refine lv_aload_n hx hb dL_law_741 rfl (lv_at hl 0 rfl) ?_
  refine lv_iload_n hx hb dL_law_742 rfl (lv_at hl 3 rfl) ?_
  refine lv_iconst (v := 3) hx hb dL_law_743 (by decide) ?_
  refine lv_iadd hx hb dL_law_744 ?_
  refine l_ld A hw (l_in (j := 3) hi A.2.2.2.2.1 (by decide) rfl) dL_law_745 ?_
  refine l_callMI (rest := [.int (r)]) A hw (zX12_buy l _ n v (xs (nI i + 1).toNatClampNeg) (xs (nI i + 2).toNatClampNeg) (xs (nI i + 3).toNatClampNeg) (r, v') h2) km_L_88 ki_yX12_buy kv_X12_buy kz_X12 kc_X12_buy rfl ok_yX12_buy ⟨Nat.le_of_ble_eq_true rfl, Nat.le_of_ble_eq_true rfl⟩ rfl rfl rfl rfl hl.1 (Nat.le_of_ble_eq_true rfl) dL_law_746 hf (fun H locs hw => ?_)
  refine lv_icmp_eq (tgt := 1560) hx hb dL_law_749 (by decide) (fun c1 => kk _ _ _ _ hR' hw) (fun c1 => absurd rfl c1)
set_option maxHeartbeats 4000000 in
theorem law_sellOff {p : Program} {l : Launch} {e : Env} {s : State} {m : MethodId} {below : List Frame} {meth : Method} {c : Code} {H : Heap} {locs : List Loc} {cells slots : Nat} {Q : State → Prop} {ls : Array Slot} {X1 X2 : WX} {u v : St} {b L i n : Nat} {xs : Nat → Int32} {Rel : St → St → Prop} (A : LA X1 X2 p s m meth c b L xs) (hw : W2 X1 X2 s u v H locs) (hl : lv_has ls 4 [(0, .ref b), (1, .ref (xq X1 0)), (2, .ref (xq X2 0)), (3, .int (nI i))]) (hi : i + 6 ≤ L) (hf : cells ≤ room_1.cells ∧ slots ≤ room_1.slots) (B : S_sellOff Rel n) (hR : Rel u v) (kk : ∀ (u' v' : St) (H : Heap) (locs : List Loc), Rel u' v' → W2 X1 X2 s u' v' H locs → W p l e room_1 s m #[Value.ref b] below meth c H locs cells slots Q (F0 m 1560 ls [])) : W p l e room_1 s m #[Value.ref b] below meth c H locs cells slots Q (F0 m 754 ls []) := by
  obtain ⟨hx, hb, hml, hown, hts⟩ := id A.1
  refine lv_aload_n hx hb dL_law_754 rfl (lv_at hl 1 rfl) ?_
  refine lv_aload_n hx hb dL_law_755 rfl (lv_at hl 0 rfl) ?_
  refine lv_iload_n hx hb dL_law_756 rfl (lv_at hl 3 rfl) ?_
  refine lv_iconst (v := 1) hx hb dL_law_757 (by decide) ?_
  refine lv_iadd hx hb dL_law_758 ?_
  refine l_ld A hw (l_in (j := 1) hi A.2.2.2.2.1 (by decide) rfl) dL_law_759 ?_
  refine lv_aload_n hx hb dL_law_760 rfl (lv_at hl 0 rfl) ?_
  refine lv_iload_n hx hb dL_law_761 rfl (lv_at hl 3 rfl) ?_
  refine lv_iconst (v := 2) hx hb dL_law_762 (by decide) ?_
  refine lv_iadd hx hb dL_law_763 ?_
  refine l_ld A hw (l_in (j := 2) hi A.2.2.2.2.1 (by decide) rfl) dL_law_764 ?_
  obtain ⟨r, u', v', h1, h2, hR'⟩ := B u v (xs (nI i + 1).toNatClampNeg) (xs (nI i + 2).toNatClampNeg) hR
  refine l_callCI (rest := []) A hw (zX11_sellOff l _ n u (xs (nI i + 1).toNatClampNeg) (xs (nI i + 2).toNatClampNeg) (r, u') h1) km_L_89 ki_yX11_sellOff kv_X11_sellOff kz_X11 kc_X11_sellOff rfl ok_yX11_sellOff ⟨Nat.le_of_ble_eq_true rfl, Nat.le_of_ble_eq_true rfl⟩ rfl rfl rfl rfl hl.1 (Nat.le_of_ble_eq_true rfl) dL_law_765 hf (fun H locs hw => ?_)
  refine lv_aload_n hx hb dL_law_768 rfl (lv_at hl 2 rfl) ?_
  refine lv_aload_n hx hb dL_law_769 rfl (lv_at hl 0 rfl) ?_
  refine lv_iload_n hx hb dL_law_770 rfl (lv_at hl 3 rfl) ?_
  refine lv_iconst (v := 1) hx hb dL_law_771 (by decide) ?_
  refine lv_iadd hx hb dL_law_772 ?_
  refine l_ld A hw (l_in (j := 1) hi A.2.2.2.2.1 (by decide) rfl) dL_law_773 ?_
  refine lv_aload_n hx hb dL_law_774 rfl (lv_at hl 0 rfl) ?_
  refine lv_iload_n hx hb dL_law_775 rfl (lv_at hl 3 rfl) ?_
  refine lv_iconst (v := 2) hx hb dL_law_776 (by decide) ?_
  refine lv_iadd hx hb dL_law_777 ?_
  refine l_ld A hw (l_in (j := 2) hi A.2.2.2.2.1 (by decide) rfl) dL_law_778 ?_
  refine l_callMI (rest := [.int (r)]) A hw (zX12_sellOff l _ n v (xs (nI i + 1).toNatClampNeg) (xs (nI i + 2).toNatClampNeg) (r, v') h2) km_L_92 ki_yX12_sellOff kv_X12_sellOff kz_X12 kc_X12_sellOff rfl ok_yX12_sellOff ⟨Nat.le_of_ble_eq_true rfl, Nat.le_of_ble_eq_true rfl⟩ rfl rfl rfl rfl hl.1 (Nat.le_of_ble_eq_true rfl) dL_law_779 hf (fun H locs hw => ?_)
  refine lv_icmp_eq (tgt := 1560) hx hb dL_law_782 (by decide) (fun c1 => kk _ _ _ _ hR' hw) (fun c1 => absurd rfl c1)
set_option maxHeartbeats 4000000 in
theorem law_cleared {p : Program} {l : Launch} {e : Env} {s : State} {m : MethodId} {below : List Frame} {meth : Method} {c : Code} {H : Heap} {locs : List Loc} {cells slots : Nat} {Q : State → Prop} {ls : Array Slot} {X1 X2 : WX} {u v : St} {b L i n : Nat} {xs : Nat → Int32} {Rel : St → St → Prop} (A : LA X1 X2 p s m meth c b L xs) (hw : W2 X1 X2 s u v H locs) (hl : lv_has ls 4 [(0, .ref b), (1, .ref (xq X1 0)), (2, .ref (xq X2 0)), (3, .int (nI i))]) (hi : i + 6 ≤ L) (hf : cells ≤ room_1.cells ∧ slots ≤ room_1.slots) (B : S_cleared Rel n) (hR : Rel u v) (kk : ∀ (u' v' : St) (H : Heap) (locs : List Loc), Rel u' v' → W2 X1 X2 s u' v' H locs → W p l e room_1 s m #[Value.ref b] below meth c H locs cells slots Q (F0 m 1560 ls [])) : W p l e room_1 s m #[Value.ref b] below meth c H locs cells slots Q (F0 m 787 ls []) := by
  obtain ⟨hx, hb, hml, hown, hts⟩ := id A.1
  refine lv_aload_n hx hb dL_law_787 rfl (lv_at hl 1 rfl) ?_
  refine lv_aload_n hx hb dL_law_788 rfl (lv_at hl 0 rfl) ?_
  refine lv_iload_n hx hb dL_law_789 rfl (lv_at hl 3 rfl) ?_
  refine lv_iconst (v := 1) hx hb dL_law_790 (by decide) ?_
  refine lv_iadd hx hb dL_law_791 ?_
  refine l_ld A hw (l_in (j := 1) hi A.2.2.2.2.1 (by decide) rfl) dL_law_792 ?_
  refine lv_aload_n hx hb dL_law_793 rfl (lv_at hl 0 rfl) ?_
  refine lv_iload_n hx hb dL_law_794 rfl (lv_at hl 3 rfl) ?_
  refine lv_iconst (v := 2) hx hb dL_law_795 (by decide) ?_
  refine lv_iadd hx hb dL_law_796 ?_
  refine l_ld A hw (l_in (j := 2) hi A.2.2.2.2.1 (by decide) rfl) dL_law_797 ?_
  obtain ⟨r, u', v', h1, h2, hR'⟩ := B u v (xs (nI i + 1).toNatClampNeg) (xs (nI i + 2).toNatClampNeg) hR
  refine l_callCI (rest := []) A hw (zX11_cleared l _ n u (xs (nI i + 1).toNatClampNeg) (xs (nI i + 2).toNatClampNeg) (r, u') h1) km_L_93 ki_yX11_cleared kv_X11_cleared kz_X11 kc_X11_cleared rfl ok_yX11_cleared ⟨Nat.le_of_ble_eq_true rfl, Nat.le_of_ble_eq_true rfl⟩ rfl rfl rfl rfl hl.1 (Nat.le_of_ble_eq_true rfl) dL_law_798 hf (fun H locs hw => ?_)
  refine lv_aload_n hx hb dL_law_801 rfl (lv_at hl 2 rfl) ?_
  refine lv_aload_n hx hb dL_law_802 rfl (lv_at hl 0 rfl) ?_
  refine lv_iload_n hx hb dL_law_803 rfl (lv_at hl 3 rfl) ?_
  refine lv_iconst (v := 1) hx hb dL_law_804 (by decide) ?_
  refine lv_iadd hx hb dL_law_805 ?_
  refine l_ld A hw (l_in (j := 1) hi A.2.2.2.2.1 (by decide) rfl) dL_law_806 ?_
  refine lv_aload_n hx hb dL_law_807 rfl (lv_at hl 0 rfl) ?_
  refine lv_iload_n hx hb dL_law_808 rfl (lv_at hl 3 rfl) ?_
  refine lv_iconst (v := 2) hx hb dL_law_809 (by decide) ?_
  refine lv_iadd hx hb dL_law_810 ?_
  refine l_ld A hw (l_in (j := 2) hi A.2.2.2.2.1 (by decide) rfl) dL_law_811 ?_
  refine l_callMI (rest := [.int (r)]) A hw (zX12_cleared l _ n v (xs (nI i + 1).toNatClampNeg) (xs (nI i + 2).toNatClampNeg) (r, v') h2) km_L_96 ki_yX12_cleared kv_X12_cleared kz_X12 kc_X12_cleared rfl ok_yX12_cleared ⟨Nat.le_of_ble_eq_true rfl, Nat.le_of_ble_eq_true rfl⟩ rfl rfl rfl rfl hl.1 (Nat.le_of_ble_eq_true rfl) dL_law_812 hf (fun H locs hw => ?_)
  refine lv_icmp_eq (tgt := 1560) hx hb dL_law_815 (by decide) (fun c1 => kk _ _ _ _ hR' hw) (fun c1 => absurd rfl c1)
set_option maxHeartbeats 4000000 in
theorem law_sight {p : Program} {l : Launch} {e : Env} {s : State} {m : MethodId} {below : List Frame} {meth : Method} {c : Code} {H : Heap} {locs : List Loc} {cells slots : Nat} {Q : State → Prop} {ls : Array Slot} {X1 X2 : WX} {u v : St} {b L i n : Nat} {xs : Nat → Int32} {Rel : St → St → Prop} (A : LA X1 X2 p s m meth c b L xs) (hw : W2 X1 X2 s u v H locs) (hl : lv_has ls 4 [(0, .ref b), (1, .ref (xq X1 0)), (2, .ref (xq X2 0)), (3, .int (nI i))]) (hi : i + 6 ≤ L) (hf : cells ≤ room_1.cells ∧ slots ≤ room_1.slots) (B : S_sight Rel n) (hR : Rel u v) (kk : ∀ (u' v' : St) (H : Heap) (locs : List Loc), Rel u' v' → W2 X1 X2 s u' v' H locs → W p l e room_1 s m #[Value.ref b] below meth c H locs cells slots Q (F0 m 1560 ls [])) : W p l e room_1 s m #[Value.ref b] below meth c H locs cells slots Q (F0 m 820 ls []) := by
  obtain ⟨hx, hb, hml, hown, hts⟩ := id A.1
  refine lv_aload_n hx hb dL_law_820 rfl (lv_at hl 1 rfl) ?_
  refine lv_aload_n hx hb dL_law_821 rfl (lv_at hl 0 rfl) ?_
  refine lv_iload_n hx hb dL_law_822 rfl (lv_at hl 3 rfl) ?_
  refine lv_iconst (v := 1) hx hb dL_law_823 (by decide) ?_
  refine lv_iadd hx hb dL_law_824 ?_
  refine l_ld A hw (l_in (j := 1) hi A.2.2.2.2.1 (by decide) rfl) dL_law_825 ?_
  refine lv_aload_n hx hb dL_law_826 rfl (lv_at hl 0 rfl) ?_
  refine lv_iload_n hx hb dL_law_827 rfl (lv_at hl 3 rfl) ?_
  refine lv_iconst (v := 2) hx hb dL_law_828 (by decide) ?_
  refine lv_iadd hx hb dL_law_829 ?_
  refine l_ld A hw (l_in (j := 2) hi A.2.2.2.2.1 (by decide) rfl) dL_law_830 ?_
  obtain ⟨r, u', v', h1, h2, hR'⟩ := B u v (xs (nI i + 1).toNatClampNeg) (xs (nI i + 2).toNatClampNeg) hR
  refine l_callCI (rest := []) A hw (zX11_sight l _ n u (xs (nI i + 1).toNatClampNeg) (xs (nI i + 2).toNatClampNeg) (r, u') h1) km_L_97 ki_yX11_sight kv_X11_sight kz_X11 kc_X11_sight rfl ok_yX11_sight ⟨Nat.le_of_ble_eq_true rfl, Nat.le_of_ble_eq_true rfl⟩ rfl rfl rfl rfl hl.1 (Nat.le_of_ble_eq_true rfl) dL_law_831 hf (fun H locs hw => ?_)
  refine lv_aload_n hx hb dL_law_834 rfl (lv_at hl 2 rfl) ?_
  refine lv_aload_n hx hb dL_law_835 rfl (lv_at hl 0 rfl) ?_
  refine lv_iload_n hx hb dL_law_836 rfl (lv_at hl 3 rfl) ?_
  refine lv_iconst (v := 1) hx hb dL_law_837 (by decide) ?_
  refine lv_iadd hx hb dL_law_838 ?_
  refine l_ld A hw (l_in (j := 1) hi A.2.2.2.2.1 (by decide) rfl) dL_law_839 ?_
  refine lv_aload_n hx hb dL_law_840 rfl (lv_at hl 0 rfl) ?_
  refine lv_iload_n hx hb dL_law_841 rfl (lv_at hl 3 rfl) ?_
  refine lv_iconst (v := 2) hx hb dL_law_842 (by decide) ?_
  refine lv_iadd hx hb dL_law_843 ?_
  refine l_ld A hw (l_in (j := 2) hi A.2.2.2.2.1 (by decide) rfl) dL_law_844 ?_
  refine l_callMI (rest := [.int (r)]) A hw (zX12_sight l _ n v (xs (nI i + 1).toNatClampNeg) (xs (nI i + 2).toNatClampNeg) (r, v') h2) km_L_100 ki_yX12_sight kv_X12_sight kz_X12 kc_X12_sight rfl ok_yX12_sight ⟨Nat.le_of_ble_eq_true rfl, Nat.le_of_ble_eq_true rfl⟩ rfl rfl rfl rfl hl.1 (Nat.le_of_ble_eq_true rfl) dL_law_845 hf (fun H locs hw => ?_)
  refine lv_icmp_eq (tgt := 1560) hx hb dL_law_848 (by decide) (fun c1 => kk _ _ _ _ hR' hw) (fun c1 => absurd rfl c1)
