/-! THE WORLDS: a world's cells have numbers; a state says what each cell holds at each place; the addresses are fixed -/
theorem wsA_good {w : Cond} (h : w ∈ wsA) : goodWord w = true := (List.mem_filter.mp h).2
abbrev St : Type := (Nat → Nat → Int32) × (Nat → Nat → Int64)
def gI (st : St) (k : Nat) : Nat → Int32 := st.1 k
def gL (st : St) (k : Nat) : Nat → Int64 := st.2 k
def sIs (st : St) (k : Nat) (f : Nat → Int32) : St := (fun a => if a = k then f else st.1 a, st.2)
def sLs (st : St) (k : Nat) (f : Nat → Int64) : St := (st.1, fun a => if a = k then f else st.2 a)
def sI (st : St) (k i : Nat) (v : Int32) : St := sIs st k (upd (gI st k) i v)
def sL (st : St) (k i : Nat) (v : Int64) : St := sLs st k (vp_updL (gL st k) i v)
theorem gI_sIs (st : St) (k : Nat) (f : Nat → Int32) : gI (sIs st k f) k = f := if_pos rfl
theorem gI_sIs_ne (st : St) {k a : Nat} (f : Nat → Int32) (h : a ≠ k) : gI (sIs st k f) a = gI st a := if_neg h
theorem gL_sIs (st : St) (k a : Nat) (f : Nat → Int32) : gL (sIs st k f) a = gL st a := rfl
theorem gL_sLs (st : St) (k : Nat) (f : Nat → Int64) : gL (sLs st k f) k = f := if_pos rfl
theorem gL_sLs_ne (st : St) {k a : Nat} (f : Nat → Int64) (h : a ≠ k) : gL (sLs st k f) a = gL st a := if_neg h
theorem gI_sLs (st : St) (k a : Nat) (f : Nat → Int64) : gI (sLs st k f) a = gI st a := rfl
/-- addresses, classes of arrays, tables -/
abbrev WX : Type := va_G × (Nat → ClassId) × (Nat → Nat) × (Nat → Nat)
def xc (X : WX) (k : Nat) : ClassId := X.2.1 k
def xq (X : WX) (k : Nat) : Nat := X.2.2.1 k
def xt (X : WX) (k : Nat) : Nat := X.2.2.2 k
abbrev EF : Type := WX → Nat → (Nat → Int32) → (Nat → Int64) → va_E
def wcl (E : EF) (N : Nat) (X : WX) (st : St) : va_W := (List.range N).map (fun k => (xq X k, E X k (gI st k) (gL st k)))
theorem wcl_get {E : EF} {N : Nat} {X : WX} {st : St} {k : Nat} (h : k < N) : (wcl E N X st)[k]? = some (xq X k, E X k (gI st k) (gL st k)) := by
  simp [wcl, h]
theorem wcl_set {E : EF} {N : Nat} {X : WX} {st st' : St} {k : Nat} {e : va_E} (h : k < N) (he : E X k (gI st' k) (gL st' k) = e) (ho : ∀ a, a ≠ k → gI st' a = gI st a ∧ gL st' a = gL st a) : (wcl E N X st).set k (xq X k, e) = wcl E N X st' := by
  apply List.ext_getElem?
  intro i
  by_cases hi : i < N
  · rw [wcl_get hi, List.getElem?_set]
    by_cases e1 : k = i
    · subst e1
      simp [wcl, h, he]
    · rw [if_neg e1, wcl_get hi, (ho i (fun q => e1 q.symm)).1, (ho i (fun q => e1 q.symm)).2]
  · have h1 : (wcl E N X st').length = N := by simp [wcl]
    have h2 : ((wcl E N X st).set k (xq X k, e)).length = N := by simp [wcl]
    rw [List.getElem?_eq_none (by omega), List.getElem?_eq_none (by omega)]
def Aw (N : Nat) (X : WX) : Nat → Prop := fun a => ∃ k, k < N ∧ xq X k = a
def xty (X : WX) : List (ClassId × FieldType) := [(xc X 0, .byte), (xc X 1, .int), (xc X 2, .long), (xc X 3, .short), (xc X 4, .boolean), (xc X 5, .object "FellInField$Shelf"), (xc X 6, .array .int)]
abbrev vwCl : List vw_C := [(RX0, TX0, 4), (RX1, TX1, 6), (RX2, TX2, 5), (RX3, TX3, 4), (RX4, TX4, 4), (RX5, TX5, 5), (RX6, TX6, 7), (RX7, TX7, 5), (RX8, TX8, 7), (RX9, TX9, 8), (RX10, TX10, 7), (RX11, TX11, 14), (RX12, TX12, 58)]
theorem wcl_D {E : EF} {N : Nat} {X : WX} {st st' : St} {A : Nat → Prop} (h : va_D A (wcl E N X st)) : va_D A (wcl E N X st') := by
  have key : ∀ (i : Nat) (p : Nat × va_E), (wcl E N X st')[i]? = some p → ∃ p', (wcl E N X st)[i]? = some p' ∧ p'.1 = p.1 := by
    intro i p hp
    by_cases hi : i < N
    · rw [wcl_get hi] at hp
      cases hp
      exact ⟨_, wcl_get hi, rfl⟩
    · have h1 : (wcl E N X st').length = N := by simp [wcl]
      rw [List.getElem?_eq_none (by omega)] at hp
      cases hp
  refine ⟨fun i j p r hp hr e => ?_, fun k p hp => ?_⟩
  · obtain ⟨p', hp', e1⟩ := key i p hp
    obtain ⟨r', hr', e2⟩ := key j r hr
    exact h.1 i j p' r' hp' hr' (by rw [e1, e2, e])
  · obtain ⟨p', hp', e1⟩ := key k p hp
    rw [← e1]
    exact h.2 k p' hp'
/-- tables that nobody writes -/
def tb (l : List Int32) (j : Nat) : Int32 := l.getD j 0
def tLEAST : List Int32 := [0, 0, 1, 1, -1, 0, 0, 0, 0, 0, 0, 0, 0, 0]
def tMOST : List Int32 := [19, 19, 20, 20, 5, 99, 19, 19, 999, 3, 5, 999, 3, 9]
def tABOVE : List Int32 := [-1, 0, 0, 2, 1, 3, 0, 6]
def tOWN : List Int32 := [1, 10, 11, 2, 20, 0, 0, 0, 0, 30, 0, 0, 0, 41, 40, 0, 0, 0, 0, 50, 0, 0, 60, 61, 70, 0, 0, 0, 81, 80, 0, 0]
def ZT (X : WX) (A : Nat → Prop) (U : State) (H : Heap) (C n : String) (k : Nat) (tab : List Int32) : Prop := va_Z C n "[I" (.ref (xt X k)) A U H ∧ va_T .int (xt X k) tab.length (fun j => .int (tb tab j)) A U H
/-- what else a world's methods need of the state: links of nest mates, static tables -/
def ZC (X : WX) (A : Nat → Prop) (U : State) (H : Heap) : Prop :=
  (va_Nw (.methodLinkNest RX7 34 yX11_isWithin RX11) U ∧ va_Nw (.methodLinkNest RX8 61 yX11_isWithin RX11) U ∧ va_Nw (.methodLinkNest RX8 65 yX11_isSide RX11) U) ∧
  ZT X A U H RX3 "LEAST" 0 tLEAST ∧ ZT X A U H RX3 "MOST" 1 tMOST ∧ ZT X A U H RX0 "ABOVE" 2 tABOVE ∧ ZT X A U H RX0 "OWN" 3 tOWN
theorem ZT.kept {X : WX} {A : Nat → Prop} {U : State} {H H1 : Heap} {C n : String} {k : Nat} {tab : List Int32} (h : ZT X A U H C n k tab) (hq : ∀ a : Nat, a < H.size → ¬ A a → H1[a]? = H[a]?) : ZT X A U H1 C n k tab := ⟨h.1.kept hq, h.2.kept hq⟩
theorem ZT.moved {X : WX} {A : Nat → Prop} {u U : State} {H : Heap} {C n : String} {k : Nat} {tab : List Int32} (hvm : u.vm.Alike U.vm) (h : ZT X A u H C n k tab) : ZT X A U H C n k tab := ⟨h.1.moved hvm, h.2.moved hvm⟩
theorem ZC.go {X : WX} {A : Nat → Prop} {s U : State} {H H1 : Heap} (hW : s.WarmedH U.vm) (h : ZC X A s H) (hq : ∀ a : Nat, a < H.size → ¬ A a → H1[a]? = H[a]?) : ZC X A U H1 := by
  obtain ⟨⟨n1, n2, n3⟩, z1, z2, z3, z4⟩ := h
  exact ⟨⟨va_Nw.warmM hW n1, va_Nw.warmM hW n2, va_Nw.warmM hW n3⟩, (z1.kept hq).moved hW.alike, (z2.kept hq).moved hW.alike, (z3.kept hq).moved hW.alike, (z4.kept hq).moved hW.alike⟩
theorem ZC.blind {X : WX} {A : Nat → Prop} {U U' : State} (hvm : U'.vm = U.vm) (hh : U'.heap = U.heap) (h : ZC X A U U.heap) : ZC X A U' U'.heap := by
  obtain ⟨⟨n1, n2, n3⟩, z1, z2, z3, z4⟩ := h
  have al : U.vm.Alike U'.vm := by rw [hvm]; exact Vm.Alike.refl U.vm
  rw [hh]
  exact ⟨⟨va_Nw.same rfl hvm.symm n1, va_Nw.same rfl hvm.symm n2, va_Nw.same rfl hvm.symm n3⟩, z1.moved al, z2.moved al, z3.moved al, z4.moved al⟩
/-- a world, at a state -/
def PW (E : EF) (N : Nat) (X : WX) (st : St) (U : State) : Prop := va_P X.1 vwCl (wcl E N X st) U.heap ∧ va_K X.1 vwCl (xty X) U ∧ va_D (Aw N X) (wcl E N X st) ∧ ZC X (Aw N X) U U.heap
theorem PW.blind {E : EF} {N : Nat} {X : WX} {st : St} {av : List Value} : FrameBlind (va_Pc av (PW E N X st)) := by
  intro a U g mk h
  obtain ⟨h1, hP, hK, hD, hZ⟩ := h
  exact ⟨h1, hP, va_K.moved (u := U) (U := U.calling g mk a) (Vm.Alike.refl U.vm) hK, hD, ZC.blind (U := U) (U' := U.calling g mk a) rfl rfl hZ⟩
/-- in a method: the world now -/
def Wd (E : EF) (N : Nat) (X : WX) (H0 : Heap) (st : St) (H : Heap) (locs : List Loc) : Prop := va_P X.1 vwCl (wcl E N X st) H ∧ va_D (Aw N X) (wcl E N X st) ∧ va_S (Aw N X) H0 H locs
/-- in a method: what stays -/
def Amb (N : Nat) (X : WX) (p : Program) (s : State) (m : MethodId) (args : Array Value) (meth : Method) (c : Code) (cc : ByteArray) (nL : Nat) (own : String) : Prop := CallFix p m c cc nL s args wsA own ∧ va_K X.1 vwCl (xty X) s ∧ ZC X (Aw N X) s s.heap ∧ meth.locks = false
/-- ends -/
abbrev QI (E : EF) (N : Nat) (X : WX) (r : Int32) (st : St) (below : List Frame) (args : Array Value) (s : State) : State → Prop := MQ below (va_Qi (fun r' (_ : Unit) => r' = r) (fun _ t => va_P X.1 vwCl (wcl E N X st) t.heap) (Aw N X)) args s 0 0 (Aw N X)
abbrev QL (E : EF) (N : Nat) (X : WX) (r : Int64) (st : St) (below : List Frame) (args : Array Value) (s : State) : State → Prop := MQ below (va_Ql (fun r' (_ : Unit) => r' = r) (fun _ t => va_P X.1 vwCl (wcl E N X st) t.heap) (Aw N X)) args s 0 0 (Aw N X)
abbrev QV (E : EF) (N : Nat) (X : WX) (st : St) (below : List Frame) (args : Array Value) (s : State) : State → Prop := MQ below (va_Qv (fun (_ : Unit) => True) (fun _ t => va_P X.1 vwCl (wcl E N X st) t.heap) (Aw N X)) args s 0 0 (Aw N X)
/-- contracts -/
def CtI (l : Launch) (y : MethodName) (b : ByteArray) (nL : Nat) (ret : FieldType) (rm : Room) (E : EF) (N : Nat) (X : WX) (av : List Value) (st : St) (r : Int32) (st' : St) : Prop :=
  Met l y (.code y b nL (some ret) :: wsA) rm (va_Pc av (PW E N X st)) (va_Qi (fun r' (_ : Unit) => r' = r) (fun _ t => va_P X.1 vwCl (wcl E N X st') t.heap) (Aw N X)) 0 0 (Aw N X)
def CtL (l : Launch) (y : MethodName) (b : ByteArray) (nL : Nat) (rm : Room) (E : EF) (N : Nat) (X : WX) (av : List Value) (st : St) (r : Int64) (st' : St) : Prop :=
  Met l y (.code y b nL (some .long) :: wsA) rm (va_Pc av (PW E N X st)) (va_Ql (fun r' (_ : Unit) => r' = r) (fun _ t => va_P X.1 vwCl (wcl E N X st') t.heap) (Aw N X)) 0 0 (Aw N X)
def CtV (l : Launch) (y : MethodName) (b : ByteArray) (nL : Nat) (rm : Room) (E : EF) (N : Nat) (X : WX) (av : List Value) (st : St) (st' : St) : Prop :=
  Met l y (.code y b nL none :: wsA) rm (va_Pc av (PW E N X st)) (va_Qv (fun (_ : Unit) => True) (fun _ t => va_P X.1 vwCl (wcl E N X st') t.heap) (Aw N X)) 0 0 (Aw N X)
theorem ct_in {l : Launch} {y : MethodName} {b : ByteArray} {nL : Nat} {ret : Option FieldType} {rm : Room} {E : EF} {N : Nat} {X : WX} {av : List Value} {st : St} {Qc : Array Value → State → Outcome → State → Prop} {own : String} (hy : plainName y.cls = true) (ho : y.cls = own) (hlen : (lg_sl av).length ≤ nL)
    (h : ∀ (p : Program) (e : Env) (s : State) (m : MethodId) (below : List Frame) (meth : Method) (c : Code), Amb N X p s m av.toArray meth c b nL own → meth.sig.returnType = ret → Wd E N X s.heap st s.heap [] → ∀ ls : Array Slot, lv_has ls nL (lv_args 0 av) → W p l e rm s m av.toArray below meth c s.heap [] 0 0 (MQ below Qc av.toArray s 0 0 (Aw N X)) (F0 m 0 ls [])) :
    Met l y (.code y b nL ret :: wsA) rm (va_Pc av (PW E N X st)) Qc 0 0 (Aw N X) := by
  refine Met.ofW (cc := b) (maxL := nL) (ret := ret) hy rfl ?_
  intro p e s m args below meth c s₁ B hml hv
  obtain ⟨rfl, hP, hK, hD, hZ⟩ := hv
  have hts := atoms_spec (ws := .code y b nL ret :: wsA) B.pre
  have hown : s.vm.findClass own = some m.cls := by rw [← ho]; exact findClass_of_methodNamed B.named
  have hl := lv_entry av (n := nL) hlen
  rw [lg_entry_eq]
  exact h p e s m below meth c ⟨⟨B.exec, B.bytes, hml, hown, fun w hw => hts w (List.mem_cons_of_mem _ hw)⟩, hK, hZ, B.notSynchronized⟩ B.returns ⟨hP, hD, va_S.rf⟩ _ hl
