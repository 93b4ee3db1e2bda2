theorem kq_X11 : Cond.instantiable RX11 14 ∈ wsA := wsA_in (List.mem_append_right _ (List.mem_of_getElem? (i := 19) (by decide +kernel))) (by decide +kernel)
theorem kq_X3 : Cond.instantiable RX3 4 ∈ wsA := wsA_in (List.mem_append_right _ (List.mem_of_getElem? (i := 27) (by decide +kernel))) (by decide +kernel)
theorem ka_int : Cond.arrayClass .int ∈ wsA := wsA_in (List.mem_append_right _ (List.mem_of_getElem? (i := 58) (by decide +kernel))) (by decide +kernel)
theorem kq_X4 : Cond.instantiable RX4 4 ∈ wsA := wsA_in (List.mem_append_right _ (List.mem_of_getElem? (i := 60) (by decide +kernel))) (by decide +kernel)
theorem kq_X5 : Cond.instantiable RX5 5 ∈ wsA := wsA_in (List.mem_append_right _ (List.mem_of_getElem? (i := 81) (by decide +kernel))) (by decide +kernel)
theorem kq_X6 : Cond.instantiable RX6 7 ∈ wsA := wsA_in (List.mem_append_right _ (List.mem_of_getElem? (i := 105) (by decide +kernel))) (by decide +kernel)
theorem kq_X9 : Cond.instantiable RX9 8 ∈ wsA := wsA_in (List.mem_append_right _ (List.mem_of_getElem? (i := 141) (by decide +kernel))) (by decide +kernel)
theorem kq_X10 : Cond.instantiable RX10 7 ∈ wsA := wsA_in (List.mem_append_right _ (List.mem_of_getElem? (i := 174) (by decide +kernel))) (by decide +kernel)
theorem kq_X8 : Cond.instantiable RX8 7 ∈ wsA := wsA_in (List.mem_append_right _ (List.mem_of_getElem? (i := 204) (by decide +kernel))) (by decide +kernel)
theorem kq_X2 : Cond.instantiable RX2 5 ∈ wsA := wsA_in (List.mem_append_right _ (List.mem_of_getElem? (i := 236) (by decide +kernel))) (by decide +kernel)
theorem kq_X1 : Cond.instantiable RX1 6 ∈ wsA := wsA_in (List.mem_append_right _ (List.mem_of_getElem? (i := 263) (by decide +kernel))) (by decide +kernel)
theorem kq_X0 : Cond.instantiable RX0 4 ∈ wsA := wsA_in (List.mem_append_right _ (List.mem_of_getElem? (i := 290) (by decide +kernel))) (by decide +kernel)
theorem kq_X7 : Cond.instantiable RX7 5 ∈ wsA := wsA_in (List.mem_append_right _ (List.mem_of_getElem? (i := 314) (by decide +kernel))) (by decide +kernel)
theorem ka_long : Cond.arrayClass .long ∈ wsA := wsA_in (List.mem_append_right _ (List.mem_of_getElem? (i := 344) (by decide +kernel))) (by decide +kernel)
theorem kq_X12 : Cond.instantiable RX12 58 ∈ wsA := wsA_in (List.mem_append_right _ (List.mem_of_getElem? (i := 1025) (by decide +kernel))) (by decide +kernel)
theorem ka_byte : Cond.arrayClass .byte ∈ wsA := wsA_in (List.mem_append_right _ (List.mem_of_getElem? (i := 1204) (by decide +kernel))) (by decide +kernel)
theorem ka_short : Cond.arrayClass .short ∈ wsA := wsA_in (List.mem_append_right _ (List.mem_of_getElem? (i := 1205) (by decide +kernel))) (by decide +kernel)
theorem ka_boolean : Cond.arrayClass .boolean ∈ wsA := wsA_in (List.mem_append_right _ (List.mem_of_getElem? (i := 1206) (by decide +kernel))) (by decide +kernel)
theorem vr_outer (c : ClassId) (N h0 : Nat) : ∀ i : Nat, Jvm.Free.Multi.outerC c N h0 i = arrV c N (fun j => va_rf (if j < i then some (h0 + 1 + j) else none))
  | 0 => by
    show ({ cls := c, slots := Array.replicate N .null, vm := .none } : Cell) = _
    rw [arrV_new]
    refine congrArg (arrV c N) (funext fun j => ?_)
    simp [va_rf]
  | i + 1 => by
    show (Jvm.Free.Multi.outerC c N h0 i).setSlot i (.ref (h0 + 1 + i)) = _
    rw [vr_outer c N h0 i, arrV_store]
    refine congrArg (arrV c N) (funext fun j => ?_)
    by_cases e : j = i
    · subst e
      simp [updV, va_rf]
    · by_cases h : j < i
      · simp [updV, e, h, Nat.lt_succ_of_lt h]
      · simp [updV, e, h, show ¬ j < i + 1 by omega]
/-! WORLDS AS THEY ARE MADE: cell k lies at B + k; references are numbers of cells, 0 is null -/
def sZ (st : St) (k : Nat) : St := sLs (sIs st k (fun _ => 0)) k (fun _ => 0)
theorem gI_sZ (st : St) (k : Nat) : gI (sZ st k) k = fun _ => 0 := if_pos rfl
theorem gL_sZ (st : St) (k : Nat) : gL (sZ st k) k = fun _ => 0 := if_pos rfl
theorem sZ_o (st : St) (k : Nat) : ∀ a, a ≠ k → gI (sZ st k) a = gI st a ∧ gL (sZ st k) a = gL st a := fun _ h => ⟨if_neg h, if_neg h⟩
def va_AOA (ty : FieldType) (U : State) : Prop := (Cond.arrayOver (.array ty)).before #[] U = true
theorem va_AOA.use {ty : FieldType} {A : Array Value} {U : State} (h : va_AOA ty U) : (Cond.arrayOver (.array ty)).before A U = true := h
theorem va_AOA.of {ty : FieldType} {A : Array Value} {U : State} (h : (Cond.arrayOver (.array ty)).before A U = true) : va_AOA ty U := h
theorem va_AOA.moved {ty : FieldType} {u U : State} (hvm : u.vm.Alike U.vm) (h : va_AOA ty u) : va_AOA ty U := by
  have h2 : (Cond.arrayOver (.array ty)).before #[] (u.setVm U.vm) = true := by rw [Cond.arrayOver_setVmC hvm]; exact h
  unfold va_AOA
  simp only [Cond.before, Cond.holds, Cond.value, State.vm_setVm] at h2 ⊢
  exact h2
/-- what constructors need of the state -/
def NW (U : State) : Prop := va_Nw (.methodLinkNest RX11 9 yX3_init RX11) U ∧ va_Nw (.methodLinkNest RX11 18 yX4_init RX11) U ∧ va_Nw (.methodLinkNest RX11 25 yX5_init RX11) U ∧ va_Nw (.methodLinkNest RX11 66 yX2_init RX11) U ∧ va_Nw (.methodLinkNest RX11 84 yX1_init RX11) U ∧ va_Nw (.methodLinkNest RX11 91 yX0_init RX11) U ∧ va_Nw (.methodLinkNest RX11 102 yX7_init RX11) U ∧ va_AO RX7 U ∧ va_AOA .int U
theorem NW.go {s U : State} (hW : s.WarmedH U.vm) (h : NW s) : NW U := by
  obtain ⟨a, b, c, d, e, f, g, x, y⟩ := h
  exact ⟨va_Nw.warmM hW a, va_Nw.warmM hW b, va_Nw.warmM hW c, va_Nw.warmM hW d, va_Nw.warmM hW e, va_Nw.warmM hW f, va_Nw.warmM hW g, va_AO.moved hW.alike x, va_AOA.moved hW.alike y⟩
theorem NW.blind {U U' : State} (hvm : U'.vm = U.vm) (h : NW U) : NW U' := by
  obtain ⟨a, b, c, d, e, f, g, x, y⟩ := h
  have al : U.vm.Alike U'.vm := by rw [hvm]; exact Vm.Alike.refl U.vm
  exact ⟨va_Nw.same rfl hvm.symm a, va_Nw.same rfl hvm.symm b, va_Nw.same rfl hvm.symm c, va_Nw.same rfl hvm.symm d, va_Nw.same rfl hvm.symm e, va_Nw.same rfl hvm.symm f, va_Nw.same rfl hvm.symm g, va_AO.moved al x, va_AOA.moved al y⟩
def WN (E : EF) (N : Nat) (X : WX) (B : Nat) (H0 : Heap) (st : St) (H : Heap) (locs : List Loc) : Prop := va_P X.1 vwCl (wcl E N X st) H ∧ (∀ k, xq X k = B + k) ∧ H.size = B + N ∧ va_S (fun q : Nat => B ≤ q) H0 H locs ∧ B ≤ H0.size
def PN (E : EF) (N : Nat) (X : WX) (B : Nat) (st : St) (U : State) : Prop := va_P X.1 vwCl (wcl E N X st) U.heap ∧ (∀ k, xq X k = B + k) ∧ U.heap.size = B + N ∧ va_K X.1 vwCl (xty X) U ∧ NW U
def CtN (l : Launch) (y : MethodName) (b : ByteArray) (nL : Nat) (rm : Room) (E : EF) (N N' : Nat) (X : WX) (B : Nat) (av : List Value) (st st' : St) (mc ms : Nat) : Prop :=
  Met l y (.code y b nL none :: wsA) rm (va_Pc av (PN E N X B st)) (va_Qv (fun (_ : Unit) => True) (fun _ t => va_P X.1 vwCl (wcl E N' X st') t.heap ∧ t.heap.size = B + N') (fun q : Nat => B ≤ q)) mc ms (fun q : Nat => B ≤ q)
theorem PN.blind {E : EF} {N : Nat} {X : WX} {B : Nat} {st : St} {av : List Value} : FrameBlind (va_Pc av (PN E N X B st)) := by
  intro a U g mk h
  obtain ⟨h1, hP, hq, hz, hK, hN⟩ := h
  exact ⟨h1, hP, hq, hz, va_K.moved (u := U) (U := U.calling g mk a) (Vm.Alike.refl U.vm) hK, NW.blind (U := U) (U' := U.calling g mk a) rfl hN⟩
def AmN (X : WX) (p : Program) (s : State) (m : MethodId) (args : Array Value) (meth : Method) (c : Code) (cc : ByteArray) (nL : Nat) (own : String) : Prop := CallFix p m c cc nL s args wsA own ∧ va_K X.1 vwCl (xty X) s ∧ NW s ∧ meth.locks = false ∧ meth.name = "<init>" ∧ meth.sig.returnType = none
theorem wn_D {E : EF} {N : Nat} {X : WX} {B : Nat} {st : St} (hq : ∀ k, xq X k = B + k) : va_D (fun q : Nat => B ≤ q) (wcl E N X st) := by
  have key : ∀ (i : Nat) (p : Nat × va_E), (wcl E N X st)[i]? = some p → p.1 = B + i := by
    intro i p hp
    by_cases hi : i < N
    · rw [wcl_get hi] at hp
      cases hp
      exact hq i
    · have h1 : (wcl E N X st).length = N := by simp [wcl]
      rw [List.getElem?_eq_none (by omega)] at hp
      cases hp
  refine ⟨fun i j p r hp hr e => ?_, fun k p hp => ?_⟩
  · have := key i p hp
    have := key j r hr
    omega
  · have := key k p hp
    show B ≤ p.1
    omega
theorem wn_grow {E : EF} {N M : Nat} {X : WX} {B : Nat} {H0 : Heap} {st st' : St} {H H1 : Heap} {locs : List Loc} (hw : WN E N X B H0 st H locs) (ho : ∀ a, a < N → gI st' a = gI st a ∧ gL st' a = gL st a) (o1 : ∀ q, q < H.size → H1[q]? = H[q]?) (hn : ∀ a, N ≤ a → a < N + M → va_at X.1 vwCl (xq X a, E X a (gI st' a) (gL st' a)) H1) (z1 : H1.size = H.size + M) : WN E (N + M) X B H0 st' H1 locs := by
  obtain ⟨hP, hq, hz, hS, hB⟩ := hw
  refine ⟨fun k x hx => ?_, hq, by omega, ⟨Nat.le_trans hS.1 (by omega), fun x h1 h2 => (o1 x (Nat.lt_of_lt_of_le h1 hS.1)).trans (hS.2.1 x h1 h2), hS.2.2⟩, hB⟩
  by_cases hk : k < N + M
  · rw [wcl_get hk] at hx
    cases hx
    by_cases hk2 : k < N
    · rw [(ho k hk2).1, (ho k hk2).2]
      refine (hP k _ (wcl_get hk2)).kept (o1 _ ?_)
      show xq X k < H.size
      rw [hq, hz]
      omega
    · exact hn k (by omega) hk
  · have h1 : (wcl E (N + M) X st').length = N + M := by simp [wcl]
    rw [List.getElem?_eq_none (by omega)] at hx
    cases hx
theorem wn_set {E : EF} {N : Nat} {X : WX} {B : Nat} {H0 : Heap} {st st' : St} {H H1 : Heap} {locs locs1 : List Loc} {k : Nat} {e : va_E} (hw : WN E N X B H0 st H locs) (hk : k < N) (he : E X k (gI st' k) (gL st' k) = e) (ho : ∀ a, a ≠ k → gI st' a = gI st a ∧ gL st' a = gL st a) (hP : va_P X.1 vwCl ((wcl E N X st).set k (xq X k, e)) H1) (hS : va_S (fun q : Nat => B ≤ q) H0 H1 locs1) (hz : H1.size = H.size) : WN E N X B H0 st' H1 locs1 := by
  rw [wcl_set hk he ho] at hP
  exact ⟨hP, hw.2.1, by rw [hz]; exact hw.2.2.1, hS, hw.2.2.2.2⟩
theorem ctN_in {l : Launch} {y : MethodName} {b : ByteArray} {nL : Nat} {rm : Room} {E : EF} {N N' : Nat} {X : WX} {B : Nat} {av : List Value} {st st' : St} {mc ms : Nat} {own : String} (hy : plainName y.cls = true) (ho : y.cls = own) (hn : y.name = "<init>") (hlen : (lg_sl av).length ≤ nL)
    (h : ∀ (p : Program) (e : Env) (s : State) (m : MethodId) (below : List Frame) (meth : Method) (c : Code), AmN X p s m av.toArray meth c b nL own → WN E N X B s.heap st s.heap [] → ∀ ls : Array Slot, lv_has ls nL (lv_args 0 av) → W p l e rm s m av.toArray below meth c s.heap [] 0 0 (MQ below (va_Qv (fun (_ : Unit) => True) (fun _ t => va_P X.1 vwCl (wcl E N' X st') t.heap ∧ t.heap.size = B + N') (fun q : Nat => B ≤ q)) av.toArray s mc ms (fun q : Nat => B ≤ q)) (F0 m 0 ls [])) :
    CtN l y b nL rm E N N' X B av st st' mc ms := by
  refine Met.ofW (cc := b) (maxL := nL) (ret := none) hy rfl ?_
  intro p e s m args below meth c s₁ BB hml hv
  obtain ⟨rfl, hP, hq, hz, hK, hN⟩ := hv
  have hts := atoms_spec (ws := .code y b nL none :: wsA) BB.pre
  have hown : s.vm.findClass own = some m.cls := by rw [← ho]; exact findClass_of_methodNamed BB.named
  have hl := lv_entry av (n := nL) hlen
  rw [lg_entry_eq]
  exact h p e s m below meth c ⟨⟨BB.exec, BB.bytes, hml, hown, fun w hw => hts w (List.mem_cons_of_mem _ hw)⟩, hK, hN, BB.notSynchronized, by rw [(name_of_methodNamed BB.named BB.method).1]; exact hn, BB.returns⟩ ⟨hP, hq, hz, va_S.rf, by omega⟩ _ hl
section NR
variable {p : Program} {l : Launch} {e : Env} {R : Room} {s : State} {m : MethodId} {args : Array Value} {below : List Frame} {meth : Method} {c : Code} {H : Heap} {locs : List Loc} {cells slots : Nat} {Q : State → Prop}
variable {cc : ByteArray} {pc : Nat} {ls : Array Slot} {rest : List Value} {E : EF} {N nL B : Nat} {X : WX} {st st' : St} {own : String}
theorem n_obj (C : AmN X p s m args meth c cc nL own) (hl : ls.size = nL) {idx : Nat} (g1 : Cond.methodLink own idx Lib.objectInit ∈ wsA) {a : Nat} (hd : decode cc pc = .ok (.invokespecial idx, 3)) (hF : 1 ≤ R.frames) (hL : 12 ≤ R.locals)
    (kk : W p l e R s m args below meth c H locs cells slots Q (F0 m (pc + 3) ls [])) : W p l e R s m args below meth c H locs cells slots Q (F0 m pc ls [.ref a]) :=
  W.objInit C.1.1 C.1.2.1 C.1.2.2.2.1 (C.1.2.2.2.2 _ g1) (C.1.2.2.2.2 _ ki_objectInit) (C.1.2.2.2.2 _ kc_objectInit) rfl (by rw [C.1.2.2.1]; exact hl) rfl hd hF (by simpa using hL) kk
theorem n_new (C : AmN X p s m args meth c cc nL own) (hw : WN E N X B s.heap st H locs) {ci index NN : Nat} {T : u_T} {Cn : String} {fs : List Value} {ty : Nat → FieldType} (hty : ∀ k, k < NN → parseFieldDescriptor (T k).2.2.1 = some (ty k)) (hin : ∀ w ∈ u_ws Cn T NN, w ∈ wsA) (hc : vwCl[ci]? = some (Cn, T, NN)) (g1 : Cond.classLink own index Cn ∈ wsA) (g2 : Cond.instantiable Cn NN ∈ wsA) (g3 : Cond.initialized Cn ∈ wsA) (hE : E X N (fun _ => 0) (fun _ => 0) = .inr (ci, fs)) (hfs : ∀ j, j < NN → defaultValue (ty j) = vp_V fs j) (hcells : cells + 1 ≤ R.cells) (hslots : slots + NN ≤ R.slots) (hdg : decode cc pc = .ok (.new index, 3))
    (kk : ∀ H1 : Heap, WN E (N + 1) X B s.heap (sZ st N) H1 locs → W p l e R s m args below meth c H1 locs (cells + 1) (slots + NN) Q (F0 m (pc + 3) ls (.ref (xq X N) :: rest))) : W p l e R s m args below meth c H locs cells slots Q (F0 m pc ls rest) := by
  obtain ⟨⟨hx, hb, hml, hown, hts⟩, hK, hNw, -⟩ := C
  have hKn := hK.1 ci _ hc
  have hq : xq X N = H.size := by rw [hw.2.1, hw.2.2.1]
  refine W.newcK hx hb hown (hts _ g1) (hts _ g2) (hts _ g3) rfl hdg hcells hslots hKn.2.1 rfl fun H1 kC hkC e1 z1 o1 => ?_
  have h := kk H1 (wn_grow hw (fun a ha => sZ_o st N a (by omega)) o1 (fun a h1 h2 => ?_) z1)
  · rw [hq] at h
    exact h
  · have ea : a = N := by omega
    subst ea
    rw [gI_sZ, gL_sZ, hE]
    refine ⟨_, hc, ?_⟩
    show t_OB (xq X a) _ _ _ _ _
    rw [hq]
    exact (u_born ty hts hin hKn hkC e1 hty).to hfs
theorem n_newa (C : AmN X p s m args meth c cc nL own) (hw : WN E N X B s.heap st H locs) {t N' : Nat} {atype : ArrayType} {n : Int32} {a0 : vp_A} (g1 : Cond.arrayClass (newarray.typeOf atype) ∈ wsA) (hra : s.vm.findClass ("[" ++ (newarray.typeOf atype).toString) = some (xc X t)) (hE : E X N (fun _ => 0) (fun _ => 0) = .inl (xc X t, a0)) (ha : ∀ cA : ClassId, vp_cell cA a0 = arrV cA N' (fun _ => defaultValue (newarray.typeOf atype))) (hn : ¬ n < 0) (hN : n.toNatClampNeg = N') (hbytes : N' * componentBytes (newarray.typeOf atype) ≤ 536870912) (hcells : cells + 1 ≤ R.cells) (hslots : slots + N' ≤ R.slots) (hdg : decode cc pc = .ok (.newarray atype, 2))
    (kk : ∀ H1 : Heap, WN E (N + 1) X B s.heap (sZ st N) H1 locs → W p l e R s m args below meth c H1 locs (cells + 1) (slots + N') Q (F0 m (pc + 2) ls (.ref (xq X N) :: rest))) : W p l e R s m args below meth c H locs cells slots Q (F0 m pc ls (.int n :: rest)) := by
  obtain ⟨⟨hx, hb, hml, hown, hts⟩, hK, hNw, -⟩ := C
  have hq : xq X N = H.size := by rw [hw.2.1, hw.2.2.1]
  refine va_newaK hx hb (hts _ g1) rfl hdg rfl hn hN hbytes hcells hslots rfl fun H1 cA e1 z1 o1 hAr hNm => ?_
  have ec : cA = xc X t := Option.some.inj (hNm.symm.trans hra)
  have h := kk H1 (wn_grow hw (fun a ha => sZ_o st N a (by omega)) o1 (fun a h1 h2 => ?_) z1)
  · rw [hq] at h
    exact h
  · have ea : a = N := by omega
    subst ea
    rw [gI_sZ, gL_sZ, hE]
    show H1[xq X a]? = some (vp_cell (xc X t) a0)
    rw [hq, ha, ← ec]
    exact e1
theorem n_put (C : AmN X p s m args meth c cc nL own) (hw : WN E N X B s.heap st H locs) {k ci index NN : Nat} {T : u_T} {Cn : String} {fs : List Value} {v : Value} {ty : FieldType} {ty0 : Nat → FieldType} (hk : k < N) (j : Nat) (hl : Cond.fieldLink own index (T j).1 (T j).2.1 (T j).2.2.1 ∈ wsA) (hE : E X k (gI st k) (gL st k) = .inr (ci, fs)) (hc : vwCl[ci]? = some (Cn, T, NN)) (hin : ∀ w ∈ u_ws Cn T NN, w ∈ wsA) (hty : ∀ k, k < NN → parseFieldDescriptor (T k).2.2.1 = some (ty0 k)) (hnm : ∀ a, a < NN → ∀ b, b < NN → a ≠ b → (T a).2.1 ≠ (T b).2.1) (hj : j < NN) (hfin : (T j).2.2.2 = false ∨ ((T j).2.2.2 = true ∧ (T j).1 = own)) (hd : ty0 j = ty) (hn : narrow ty v = v) (hfit : fits ty v = true) (hlen : j < fs.length) (hE' : E X k (gI st' k) (gL st' k) = .inr (ci, fs.set j v)) (ho : ∀ a, a ≠ k → gI st' a = gI st a ∧ gL st' a = gL st a) (hdg : decode cc pc = .ok (.putfield index, 3))
    (kk : ∀ (H1 : Heap) (locs1 : List Loc), WN E N X B s.heap st' H1 locs1 → W p l e R s m args below meth c H1 locs1 cells slots Q (F0 m (pc + 3) ls rest)) : W p l e R s m args below meth c H locs cells slots Q (F0 m pc ls (v :: .ref (xq X k) :: rest)) := by
  obtain ⟨⟨hx, hb, hml, hown, hts⟩, hK, hNw, -, hin2, -⟩ := C
  have hD := wn_D (E := E) (N := N) (st := st) hw.2.1
  obtain ⟨hP, hq, hz, hS, hB⟩ := id hw
  have fin : ∀ (H1 : Heap) (locs1 : List Loc), va_P X.1 vwCl ((wcl E N X st).set k (xq X k, .inr (ci, fs.set j v))) H1 → va_D (fun q : Nat => B ≤ q) ((wcl E N X st).set k (xq X k, .inr (ci, fs.set j v))) → va_S (fun q : Nat => B ≤ q) s.heap H1 locs1 → H1.size = H.size → W p l e R s m args below meth c H1 locs1 cells slots Q (F0 m (pc + 3) ls rest) := fun H1 locs1 hP1 _ hS1 hz1 => kk H1 locs1 (wn_set hw hk hE' ho hP1 hS1 hz1)
  have hap := va_apart (own := own) hts hin ty0 hty hnm hK hc
  have he : (wcl E N X st)[k]? = some (xq X k, .inr (ci, fs)) := by rw [wcl_get hk, hE]
  obtain ⟨r, h1, cell, q1, q2, q3, q4⟩ := hP k _ he
  have hr : r = (Cn, T, NN) := Option.some.inj (h1.symm.trans hc)
  subst hr
  obtain ⟨hSl, hfc, kC, hkC, hkind⟩ := hK.1 ci _ hc
  obtain ⟨cf, kf, fi, f, hi, hsl⟩ := hSl j hj
  have hlay := hts _ (hin _ (u_in_lay hj))
  unfold u_lay at hlay
  have hst := (u_facts hfc hkC (u_lays hts hin hj) hi).1
  have hd' : parseFieldDescriptor (T j).2.2.1 = some ty := by rw [hty j hj, hd]
  rcases hfin with hfin | ⟨hfin, hdecl⟩
  · rw [if_neg (by rw [hfin]; decide)] at hlay
    have h6 := u_store hfc hkC hkind hlay hi hd' hn hfit
    refine W.putK hx hb (f := f) ⟨hown, hts _ hl, ⟨_, _, _, hi⟩, hst⟩ (by rw [q2]; exact h6) q1 q3 (by rw [hsl]; exact k2_hasslot (q4 j hj)) rfl rfl hdg fun H' e1 e2 e3 => ?_
    rw [hsl] at e1 ⊢
    exact fin H' _ (hP.set hD he ⟨_, hc, t_OB.to (V := updV (vp_V fs) j v) ⟨_, e1, q2, q3, t_set q4 hap hj v⟩ (fun j' _ => vp_updV_set hlen v j')⟩ e3) (hD.set he) (hS.put e2 e3 (hD.2 k _ he)) e2
  · rw [if_pos hfin] at hlay
    have hcf : m.cls = cf := by
      obtain ⟨_, _, c', _, _, _, -, -, hf', -, -, -, hown2, -⟩ := Cond.laysFinal_spec hlay
      have e1 : c' = cf := by have := hi.symm.trans hf'; simp at this; exact this.1.symm
      rw [hdecl] at hown2
      rw [← e1]; exact Option.some.inj (hown.symm.trans hown2)
    have h6 := u_fits hfc hkC hkind (Or.inr hlay) hi hd' hn hfit
    refine W.putFinK hx hb hown (hts _ hl) hi hst hcf hin2 (by rw [q2]; exact h6) q1 q3 (by rw [hsl]; exact k2_hasslot (q4 j hj)) rfl rfl hdg fun H' e1 e2 e3 => ?_
    rw [hsl] at e1 ⊢
    exact fin H' _ (hP.set hD he ⟨_, hc, t_OB.to (V := updV (vp_V fs) j v) ⟨_, e1, q2, q3, t_set q4 hap hj v⟩ (fun j' _ => vp_updV_set hlen v j')⟩ e3) (hD.set he) (hS.put e2 e3 (hD.2 k _ he)) e2
theorem n_get (C : AmN X p s m args meth c cc nL own) (hw : WN E N X B s.heap st H locs) {k ci index NN : Nat} {T : u_T} {Cn : String} {fs : List Value} {v : Value} (hk : k < N) (j : Nat) (hl : Cond.fieldLink own index (T j).1 (T j).2.1 (T j).2.2.1 ∈ wsA) (hE : E X k (gI st k) (gL st k) = .inr (ci, fs)) (hc : vwCl[ci]? = some (Cn, T, NN)) (hin : ∀ w ∈ u_ws Cn T NN, w ∈ wsA) (hj : j < NN) (hv : fs[j]? = some v) (hdg : decode cc pc = .ok (.getfield index, 3))
    (kk : W p l e R s m args below meth c H locs cells slots Q (F0 m (pc + 3) ls (v :: rest))) : W p l e R s m args below meth c H locs cells slots Q (F0 m pc ls (.ref (xq X k) :: rest)) := by
  obtain ⟨⟨hx, hb, hml, hown, hts⟩, hK, hNw, -⟩ := C
  exact va_get (D := X.1) (ci := ci) (v := v) (C := Cn) (T := T) (N := NN) hx hb hts hin hown hK hw.1 k (by rw [wcl_get hk, hE]) hc j hj (hts _ hl) (fun _ h9 => h9) hv hdg kk
theorem n_preU (C : AmN X p s m args meth c cc nL own) (hw : WN E N X B s.heap st H locs) : ∀ U : State, U.heap = H → s.WarmedH U.vm → PN E N X B st U := fun U hU hW => ⟨by rw [hU]; exact hw.1, hw.2.1, by rw [hU]; exact hw.2.2.1, va_K.moved hW.alike C.2.1, C.2.2.1.go hW⟩
theorem n_go {N' mc ms : Nat} {st0 : List Value} {a : Array Value} (hw : WN E N X B s.heap st H locs) (hr : va_Run p l e R s m args below meth c H locs cells slots mc ms (F0 m pc ls st0) rest (va_Qv (fun (_ : Unit) => True) (fun _ t => va_P X.1 vwCl (wcl E N' X st') t.heap ∧ t.heap.size = B + N') (fun q : Nat => B ≤ q) a) (fun q : Nat => B ≤ q))
    (kk : ∀ (H1 : Heap) (locs1 : List Loc), WN E N' X B s.heap st' H1 locs1 → W p l e R s m args below meth c H1 locs1 (cells + mc) (slots + ms) Q (F0 m (pc + 3) ls rest)) : W p l e R s m args below meth c H locs cells slots Q (F0 m pc ls st0) :=
  va_callv hr hw.2.2.2.1 (fun _ _ h => h) (fun _ h => h) (fun u t H1 locs1 ht hvm hp hB hz hk hS => kk H1 locs1 ⟨by rw [← ht]; exact hB.1, hw.2.1, by rw [← ht]; exact hB.2, hS, hw.2.2.2.2⟩)
/-- a constructor called: one that may be seen, one of a nest mate -/
theorem n_runI {y : MethodName} {b : ByteArray} {maxL idx n k mc ms N' : Nat} {rm : Room} {As st0 : List Value} (C : AmN X p s m args meth c cc nL own) (hw : WN E N X B s.heap st H locs) (hM : CtN l y b maxL rm E N N' X B (.ref (xq X k) :: As) st st' mc ms) (g1 : Cond.methodLink own idx y ∈ wsA) (g2 : Cond.instanceMethod y ∈ wsA) (g4 : Cond.initialized y.cls ∈ wsA) (g5 : Cond.code y b maxL none ∈ wsA) (hyn : y.name = "<init>") (hd : yOk y n) (hR : rm.frames + 1 ≤ R.frames ∧ 8 + (maxL + 11) + rm.locals ≤ R.locals) (hrc : rm.cells = mc) (hrs : rm.slots = ms) (hn : As.length = n) (hst : st0 = As.reverse ++ .ref (xq X k) :: rest) (hsz : ls.size = nL) (hW : (rest.map fun v => v.category).sum ≤ 8) (hdg : decode cc pc = .ok (.invokespecial idx, 3)) (hf : cells + mc ≤ R.cells ∧ slots + ms ≤ R.slots) :
    va_Run p l e R s m args below meth c H locs cells slots mc ms (F0 m pc ls st0) rest (va_Qv (fun (_ : Unit) => True) (fun _ t => va_P X.1 vwCl (wcl E N' X st') t.heap ∧ t.heap.size = B + N') (fun q : Nat => B ≤ q) (Value.ref (xq X k) :: As).toArray) (fun q : Nat => B ≤ q) :=
  va_runI (As := As) (rest := rest) C.1 hM (cwI n C.1.2.2.2.2 (gw_C g5) rfl hrc hrs (C.1.2.2.2.2 _ g4) (C.1.2.2.2.2 _ g1) (C.1.2.2.2.2 _ g2) hyn hd hR) ⟨PN.blind, fun U hU hW => ⟨rfl, n_preU C hw U hU hW⟩⟩ rfl hn hsz hst (lv_room hW) hdg hf
theorem n_runIN {y : MethodName} {host : String} {b : ByteArray} {maxL idx n k mc ms N' : Nat} {rm : Room} {As st0 : List Value} (C : AmN X p s m args meth c cc nL own) (hw : WN E N X B s.heap st H locs) (hM : CtN l y b maxL rm E N N' X B (.ref (xq X k) :: As) st st' mc ms) (g1 : va_Nw (.methodLinkNest own idx y host) s) (g2 : Cond.instanceMethod y ∈ wsA) (g4 : Cond.initialized y.cls ∈ wsA) (g5 : Cond.code y b maxL none ∈ wsA) (hyn : y.name = "<init>") (hd : yOk y n) (hR : rm.frames + 1 ≤ R.frames ∧ 8 + (maxL + 11) + rm.locals ≤ R.locals) (hrc : rm.cells = mc) (hrs : rm.slots = ms) (hn : As.length = n) (hst : st0 = As.reverse ++ .ref (xq X k) :: rest) (hsz : ls.size = nL) (hW : (rest.map fun v => v.category).sum ≤ 8) (hdg : decode cc pc = .ok (.invokespecial idx, 3)) (hf : cells + mc ≤ R.cells ∧ slots + ms ≤ R.slots) :
    va_Run p l e R s m args below meth c H locs cells slots mc ms (F0 m pc ls st0) rest (va_Qv (fun (_ : Unit) => True) (fun _ t => va_P X.1 vwCl (wcl E N' X st') t.heap ∧ t.heap.size = B + N') (fun q : Nat => B ≤ q) (Value.ref (xq X k) :: As).toArray) (fun q : Nat => B ≤ q) :=
  va_runIN (As := As) (rest := rest) C.1 hM ⟨va_cnB n C.1.2.2.2.2 (gw_C g5) rfl hrc hrs g1 (C.1.2.2.2.2 _ g4) hd hR, hyn, C.1.2.2.2.2 _ g2⟩ ⟨PN.blind, fun U hU hW => ⟨rfl, n_preU C hw U hU hW⟩⟩ rfl hn hsz hst (lv_room hW) hdg hf
theorem n_ret {N' mc ms : Nat} (C : AmN X p s m args meth c cc nL own) (hw : WN E N X B s.heap st H locs) (hN : N = N') (hs : st = st') (hc : cells = mc) (hl : slots = ms) (hdg : decode cc pc = .ok (.return_, 1)) : W p l e R s m args below meth c H locs cells slots (MQ below (va_Qv (fun (_ : Unit) => True) (fun _ t => va_P X.1 vwCl (wcl E N' X st') t.heap ∧ t.heap.size = B + N') (fun q : Nat => B ≤ q)) args s mc ms (fun q : Nat => B ≤ q)) (F0 m pc ls []) := by
  subst hN; subst hs; subst hc; subst hl
  exact W.vret C.1.1 C.1.2.1 C.2.2.2.2.2 (fun t ht hW => ⟨⟨(), rfl, trivial, by rw [ht]; exact hw.1, by rw [ht]; exact hw.2.2.1⟩, hw.2.2.2.1.F ht⟩) hw.2.2.2.1.2.2 hdg C.2.2.2.1
end NR
section NR2
variable {p : Program} {l : Launch} {e : Env} {R : Room} {s : State} {m : MethodId} {args : Array Value} {below : List Frame} {meth : Method} {c : Code} {H : Heap} {locs : List Loc} {cells slots : Nat} {Q : State → Prop}
variable {cc : ByteArray} {pc : Nat} {ls : Array Slot} {rest : List Value} {E : EF} {N nL B : Nat} {X : WX} {st st' : St} {own : String}
theorem n_iast (C : AmN X p s m args meth c cc nL own) (hw : WN E N X B s.heap st H locs) {k n j : Nat} {i v : Int32} (hk : k < N) (hE : ∀ f, E X k f (gL st k) = .inl (xc X 1, n, .inl f)) (hin : inB i n = true) (hj : i.toNatClampNeg = j) (hdg : decode cc pc = .ok (.iastore, 1))
    (kk : ∀ (H1 : Heap) (locs1 : List Loc), WN E N X B s.heap (sI st k j v) H1 locs1 → W p l e R s m args below meth c H1 locs1 cells slots Q (F0 m (pc + 1) ls rest)) : W p l e R s m args below meth c H locs cells slots Q (F0 m pc ls (.int v :: .int i :: .ref (xq X k) :: rest)) := by
  subst hj
  have hD := wn_D (E := E) (N := N) (st := st) hw.2.1
  have ha : (wcl E N X st)[k]? = some (xq X k, .inl (xc X 1, n, .inl (gI st k))) := by rw [wcl_get hk, hE]
  refine W.iast C.1.1 C.1.2.1 (hw.1 k _ ha) ((C.2.1.2 1 (xc X 1, .int) rfl).1 n (fun j => .int (gI st k j))) (fun q => by cases q) (by show ¬ (i < 0 ∨ (arrV _ _ _).slots.size ≤ _); rw [arrV_size]; exact inB_in hin) rfl rfl hdg fun H1 e1 z oq => ?_
  refine kk H1 _ (wn_set hw hk (e := .inl (xc X 1, n, .inl (upd (gI st k) i.toNatClampNeg v))) (by rw [gI_sI, gL_sI]; exact hE _) (sI_o st k _ v) (hw.1.set hD ha ?_ oq) (hw.2.2.2.1.put z oq (hD.2 k _ ha)) z)
  show H1[xq X k]? = some (vp_cell _ _)
  rw [e1]
  rw [vp_cell_i, vp_cell_i, arrV_store]
  congr 2
  funext q
  by_cases hq : q = i.toNatClampNeg
  · subst hq
    simp [updV, upd]
  · simp [updV, upd, hq]
/-- a row of references, by numbers of cells -/
def rfs (X : WX) (f : Nat → Int32) : Nat → Option Nat := fun i => if f i = 0 then none else some (xq X (f i).toNatClampNeg)
theorem rfs_at (X : WX) {f : Nat → Int32} {i k : Nat} (h : f i = nI k) (h0 : 0 < k) (hb : k < 100000) : rfs X f i = some (xq X k) := by
  unfold rfs
  rw [if_neg (by rw [h]; exact nI_ne0 h0 (by omega)), h, nI_clamp (by omega)]
theorem rfs_no (X : WX) {f : Nat → Int32} {i : Nat} (h : f i = 0) : rfs X f i = none := if_pos h
def rfN (X : WX) (x : Int32) : Value := if x = 0 then .null else .ref (xq X x.toNatClampNeg)
theorem n_anew (C : AmN X p s m args meth c cc nL own) (hw : WN E N X B s.heap st H locs) {index N' : Nat} {n : Int32} (g1 : Cond.classLink own index RX7 ∈ wsA) (hE : E X N (fun _ => 0) (fun _ => 0) = .inl (xc X 5, N', .inr (.inr (.inr (.inr (rfs X (fun _ => 0))))))) (hn : ¬ n < 0) (hN : n.toNatClampNeg = N') (hbytes : N' * 4 ≤ 536870912) (hcells : cells + 1 ≤ R.cells) (hslots : slots + N' ≤ R.slots) (hdg : decode cc pc = .ok (.anewarray index, 3))
    (kk : ∀ H1 : Heap, WN E (N + 1) X B s.heap (sZ st N) H1 locs → W p l e R s m args below meth c H1 locs (cells + 1) (slots + N') Q (F0 m (pc + 3) ls (.ref (xq X N) :: rest))) : W p l e R s m args below meth c H locs cells slots Q (F0 m pc ls (.int n :: rest)) := by
  obtain ⟨⟨hx, hb, hml, hown, hts⟩, hK, hNw, -⟩ := C
  subst hN
  have hq : xq X N = H.size := by rw [hw.2.1, hw.2.2.1]
  refine W.anew hx hb hown (hts _ g1) (va_AO.use hNw.2.2.2.2.2.2.2.1) rfl hdg rfl hn hbytes hcells hslots fun cA kA comp f1 f2 f3 f4 => ?_
  generalize hH1 : H.push ({ cls := cA, slots := Array.replicate n.toNatClampNeg .null, vm := .none } : Cell) = H1
  have z1 : H1.size = H.size + 1 := by rw [← hH1, Array.size_push]
  have e1 : H1[H.size]? = some (arrV cA n.toNatClampNeg (fun _ => .null)) := by rw [← hH1, Array.getElem?_push_size, ← arrV_new]
  have o1 : ∀ q : Nat, q < H.size → H1[q]? = H[q]? := fun q hq => by rw [← hH1, Array.getElem?_push, if_neg (Nat.ne_of_lt hq)]
  obtain ⟨kA', comp', k1, k2, k3, k4⟩ := (hK.2 5 (xc X 5, .object "FellInField$Shelf") rfl).2
  have ec : cA = xc X 5 := Option.some.inj (f1.symm.trans k4)
  have h := kk H1 (wn_grow hw (fun a ha => sZ_o st N a (by omega)) o1 (fun a h1 h2 => ?_) z1)
  · rw [hq] at h
    exact h
  · have ea : a = N := by omega
    subst ea
    rw [gI_sZ, gL_sZ, hE]
    show H1[xq X a]? = some (vp_cell (xc X 5) _)
    rw [hq, vp_cell_q, ← ec, e1]
    rfl
theorem n_aast (C : AmN X p s m args meth c cc nL own) (hw : WN E N X B s.heap st H locs) {k n k2 j : Nat} {i : Int32} {vs : List Value} (hk : k < N) (hk2 : k2 < N) (h0 : 0 < k2) (hbig : k2 < 1000) (hE : ∀ f, E X k f (gL st k) = .inl (xc X 5, n, .inr (.inr (.inr (.inr (rfs X f)))))) (hE2 : E X k2 (gI st k2) (gL st k2) = .inr (7, vs)) (hin : inB i n = true) (hj : i.toNatClampNeg = j) (hdg : decode cc pc = .ok (.aastore, 1))
    (kk : ∀ (H1 : Heap) (locs1 : List Loc), WN E N X B s.heap (sI st k j (nI k2)) H1 locs1 → W p l e R s m args below meth c H1 locs1 cells slots Q (F0 m (pc + 1) ls rest)) : W p l e R s m args below meth c H locs cells slots Q (F0 m pc ls (.ref (xq X k2) :: .int i :: .ref (xq X k) :: rest)) := by
  subst hj
  have hin' := inB_in hin
  have hD := wn_D (E := E) (N := N) (st := st) hw.2.1
  have ha : (wcl E N X st)[k]? = some (xq X k, .inl (xc X 5, n, .inr (.inr (.inr (.inr (rfs X (gI st k))))))) := by rw [wcl_get hk, hE]
  have hv : (wcl E N X st)[k2]? = some (xq X k2, .inr (7, vs)) := by rw [wcl_get hk2, hE2]
  have hlt : i.toNatClampNeg < n := Nat.not_le.mp fun q => hin' (Or.inr q)
  have hi0 : ¬ i < 0 := fun q => hin' (Or.inl q)
  obtain ⟨r', hr', cellV, g1, g2, g3, -⟩ := hw.1 k2 _ hv
  have hcls := (C.2.1.1 7 (RX7, TX7, 5) rfl).2
  obtain ⟨kA, comp, k1, k2', k3, -⟩ := (C.2.1.2 5 (xc X 5, .object "FellInField$Shelf") rfl).2
  have hcomp : comp = X.1.1 7 := Option.some.inj (k3.symm.trans hcls.1)
  subst hcomp
  obtain ⟨kC, hkC, -⟩ := hcls.2
  refine W.aast C.1.1 C.1.2.1 (hw.1 k _ ha) (fun q h => by cases h) (fun h => by cases h) k1 k2' rfl hkC ⟨hi0, by show _ < (arrV _ _ _).slots.size; rw [arrV_size]; exact hlt⟩ g1 (fun q h => by rw [g3] at h; cases h) (by rw [g2]; exact hkC) (by rw [g2]; exact va_assign hcls) rfl rfl hdg fun H1 e1 z oq => ?_
  refine kk H1 _ (wn_set hw hk (e := .inl (xc X 5, n, .inr (.inr (.inr (.inr (rfs X (upd (gI st k) i.toNatClampNeg (nI k2)))))))) (by rw [gI_sI, gL_sI]; exact hE _) (sI_o st k _ _) (hw.1.set hD ha ?_ oq) (hw.2.2.2.1.put z oq (hD.2 k _ ha)) z)
  show H1[xq X k]? = some (vp_cell _ _)
  rw [e1]
  rw [vp_cell_q, vp_cell_q, arrV_store]
  congr 2
  funext q
  by_cases hq : q = i.toNatClampNeg
  · subst hq
    simp [updV, upd, rfs, va_rf, nI_ne0 h0 (by omega), nI_clamp (n := k2) (by omega)]
  · simp [updV, upd, hq, rfs]
/-- fourteen rows of thirteen, and the row of them -/
def sMul (st : St) (k : Nat) : St := (fun a => if a = k then (fun i => if i < 14 then nI (k + 1 + i) else 0) else if k < a ∧ a < k + 15 then (fun _ => 0) else st.1 a, fun a => if k ≤ a ∧ a < k + 15 then (fun _ => 0) else st.2 a)
theorem n_multi (C : AmN X p s m args meth c cc nL own) (hw : WN E N X B s.heap st H locs) (hNs : N < 1000) {index : Nat} (g1 : Cond.classLink own index "[[I" ∈ wsA) (g2 : Cond.arrayClass .int ∈ wsA) (hE : ∀ f, E X N f (fun _ => 0) = .inl (xc X 6, 14, .inr (.inr (.inr (.inr (rfs X f)))))) (hE2 : ∀ a, N < a → a < N + 15 → E X a (fun _ => 0) (fun _ => 0) = .inl (xc X 1, 13, .inl (fun _ => 0))) (hcells : cells + (1 + 14) ≤ R.cells) (hslots : slots + (14 + 14 * 13) ≤ R.slots) (hdg : decode cc pc = .ok (.multianewarray index 2, 4))
    (kk : ∀ H1 : Heap, WN E (N + 15) X B s.heap (sMul st N) H1 locs → W p l e R s m args below meth c H1 locs (cells + 1 + 14) (slots + 14 + 14 * 13) Q (F0 m (pc + 4) ls (.ref (xq X N) :: rest))) : W p l e R s m args below meth c H locs cells slots Q (F0 m pc ls (.int 13 :: .int 14 :: rest)) := by
  obtain ⟨⟨hx, hb, hml, hown, hts⟩, hK, hNw, -⟩ := C
  have hqq := hw.2.1
  have hzz := hw.2.2.1
  intro T hT Xs
  have e14 : (14 : Int32).toNatClampNeg = 14 := by decide
  have e13 : (13 : Int32).toNatClampNeg = 13 := by decide
  obtain ⟨vm₁, cA, comp, -, fA, fC, hO, -, X', step⟩ := Xs.multianewarray2F (ty := .int) (index := index) (own := own) (n := 14) (k := 13) (rest := rest) hx hown (hts _ g1) (va_AOA.use hNw.2.2.2.2.2.2.2.2) (hts _ g2) (g := F0 m pc ls (.int 13 :: .int 14 :: rest)) rfl (by rw [hb]; exact hdg) rfl (by decide) (by decide) (by rw [e14]; decide) (by rw [e13]; decide) (by rw [e13]; decide) rfl rfl (by rw [e14]; exact hcells) (by rw [e14, e13]; exact hslots)
  rw [e14, e13] at X' step
  have hc6 : s.vm.findClass "[[I" = some (xc X 6) := (hK.2 6 (xc X 6, .array .int) rfl).2
  have hc1 : s.vm.findClass "[I" = some (xc X 1) := (hK.2 1 (xc X 1, .int) rfl).2
  have ec6 : cA = xc X 6 := Option.some.inj (fA.symm.trans hc6)
  have ec1 : comp = xc X 1 := Option.some.inj (fC.symm.trans hc1)
  subst ec6
  subst ec1
  generalize hF : Jvm.Free.Multi.fill (T.setVm vm₁) (xc X 6) (xc X 1) 14 13 (defaultValue .int) 14 = F at X' step
  have hTh : (T.setVm vm₁).heap = H := hT
  obtain ⟨f1, f2, -, -⟩ := Jvm.Free.Multi.fill_facts (T.setVm vm₁) (xc X 6) (xc X 1) 14 13 (defaultValue .int) 14
  rw [hF, hTh] at f1 f2
  have hold : ∀ x : Nat, x < H.size → F.heap[x]? = H[x]? := fun x hx => by
    have := Jvm.Free.Multi.fill_old (T.setVm vm₁) (xc X 6) (xc X 1) 14 13 (defaultValue .int) (a := x) (by rw [hTh]; exact hx) 14
    rw [hF, hTh] at this
    exact this
  have hrow : ∀ j : Nat, j < 14 → F.heap[H.size + 1 + j]? = some (Jvm.Free.Multi.innerC (xc X 1) 13 (defaultValue .int)) := fun j hj => by
    have := Jvm.Free.Multi.fill_inner (T.setVm vm₁) (xc X 6) (xc X 1) 14 13 (defaultValue .int) 14 j hj
    rw [hF, hTh] at this
    exact this
  have hin : Jvm.Free.Multi.innerC (xc X 1) 13 (defaultValue .int) = vp_cell (xc X 1) (13, .inl (fun _ => 0)) := by
    rw [vp_cell_i]
    show ({ cls := xc X 1, slots := Array.replicate 13 (defaultValue .int), vm := .none } : Cell) = _
    rw [arrV_new]
    rfl
  have hout : Jvm.Free.Multi.outerC (xc X 6) 14 H.size 14 = vp_cell (xc X 6) (14, .inr (.inr (.inr (.inr (rfs X (fun i => if i < 14 then nI (N + 1 + i) else 0)))))) := by
    rw [vp_cell_q, vr_outer]
    refine congrArg (arrV (xc X 6) 14) (funext fun j => ?_)
    by_cases hj : j < 14
    · rw [if_pos hj, rfs_at (k := N + 1 + j) X (if_pos hj) (by omega) (by omega), hqq, hzz]
      rw [show B + N + 1 + j = B + (N + 1 + j) by omega]
    · rw [if_neg hj, rfs_no X (if_neg hj)]
  have hW : WN E (N + 15) X B s.heap (sMul st N) F.heap locs := wn_grow hw (fun a ha => ⟨by
      unfold sMul gI
      dsimp only
      rw [if_neg (by omega), if_neg (by omega)], by
      unfold sMul gL
      dsimp only
      rw [if_neg (by omega)]⟩) hold (fun a h1 h2 => by
      have eL : gL (sMul st N) a = fun _ => 0 := by
        unfold sMul gL
        dsimp only
        rw [if_pos (by omega)]
      rw [eL]
      by_cases ea : a = N
      · subst ea
        have eI : gI (sMul st a) a = fun i => if i < 14 then nI (a + 1 + i) else 0 := if_pos rfl
        rw [eI, hE]
        show F.heap[xq X a]? = some (vp_cell (xc X 6) _)
        rw [hqq, ← hzz, f2, hout]
      · have eI : gI (sMul st N) a = fun _ => 0 := by
          unfold sMul gI
          dsimp only
          rw [if_neg ea, if_pos (by omega)]
        rw [eI, hE2 a (by omega) (by omega)]
        show F.heap[xq X a]? = some (vp_cell (xc X 1) _)
        rw [hqq, ← hin, ← hrow (a - (N + 1)) (by omega)]
        congr 1
        omega) (by rw [f1])
  obtain ⟨t, a1, b1⟩ := kk F.heap hW F rfl X'
  refine ⟨t, step t ?_, b1⟩
  have e9 : T.heap.size = xq X N := by rw [hT, hqq, hzz]
  rw [e9]
  exact a1
end NR2
