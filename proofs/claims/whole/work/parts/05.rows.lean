/-! ROWS over a world: an instruction, a row -/
theorem wd_set {E : EF} {N : Nat} {X : WX} {H0 : Heap} {st st' : St} {H : Heap} {locs : List Loc} {k : Nat} {e : va_E} (hk : k < N) (he : E X k (gI st' k) (gL st' k) = e) (ho : ∀ a, a ≠ k → gI st' a = gI st a ∧ gL st' a = gL st a) (hP : va_P X.1 vwCl ((wcl E N X st).set k (xq X k, e)) H) (hD : va_D (Aw N X) ((wcl E N X st).set k (xq X k, e))) (hS : va_S (Aw N X) H0 H locs) : Wd E N X H0 st' H locs := by
  rw [wcl_set hk he ho] at hP hD
  exact ⟨hP, hD, hS⟩
theorem sI_o (st : St) (k i : Nat) (v : Int32) : ∀ a, a ≠ k → gI (sI st k i v) a = gI st a ∧ gL (sI st k i v) a = gL st a := fun _ h => ⟨gI_sIs_ne st _ h, rfl⟩
theorem sIs_o (st : St) (k : Nat) (f : Nat → Int32) : ∀ a, a ≠ k → gI (sIs st k f) a = gI st a ∧ gL (sIs st k f) a = gL st a := fun _ h => ⟨gI_sIs_ne st _ h, rfl⟩
theorem sL_o (st : St) (k i : Nat) (v : Int64) : ∀ a, a ≠ k → gI (sL st k i v) a = gI st a ∧ gL (sL st k i v) a = gL st a := fun _ h => ⟨rfl, gL_sLs_ne st _ h⟩
theorem sLs_o (st : St) (k : Nat) (f : Nat → Int64) : ∀ a, a ≠ k → gI (sLs st k f) a = gI st a ∧ gL (sLs st k f) a = gL st a := fun _ h => ⟨rfl, gL_sLs_ne st _ h⟩
theorem gI_sI (st : St) (k i : Nat) (v : Int32) : gI (sI st k i v) k = upd (gI st k) i v := if_pos rfl
theorem gL_sL (st : St) (k i : Nat) (v : Int64) : gL (sL st k i v) k = vp_updL (gL st k) i v := if_pos rfl
theorem gL_sI (st : St) (k i a : Nat) (v : Int32) : gL (sI st k i v) a = gL st a := rfl
theorem gI_sL (st : St) (k i a : Nat) (v : Int64) : gI (sL st k i v) a = gI st a := rfl
/-- checks -/
def inB (i : Int32) (n : Nat) : Bool := decide (¬ (i < 0 ∨ n ≤ i.toNatClampNeg))
theorem inB_in {i : Int32} {n : Nat} (h : inB i n = true) : vp_in i n := by
  unfold inB at h
  have h2 : ¬ (i < 0 ∨ n ≤ i.toNatClampNeg) := of_decide_eq_true h
  exact h2
def gd {α : Type} (b : Bool) (x : Option α) : Option α := match b with
  | true => x
  | false => none
theorem gd_some {α : Type} {b : Bool} {x : Option α} {R : α} (h : gd b x = some R) : b = true ∧ x = some R := by
  cases b
  · cases h
  · exact ⟨rfl, h⟩
def bnd {α β : Type} (e : α) (f : α → β) : β := f e
theorem bnd_nm {α β : Type} {e : α} {f : α → β} {R : β} (h : bnd e f = R) {y : α} (hy : y = e) : f y = R := by subst hy; exact h
theorem ite_t {α : Type} {c : Prop} [Decidable c] {a b R : α} (h : (if c then a else b) = R) (hc : c) : a = R := by rw [if_pos hc] at h; exact h
theorem ite_f {α : Type} {c : Prop} [Decidable c] {a b R : α} (h : (if c then a else b) = R) (hc : ¬ c) : b = R := by rw [if_neg hc] at h; exact h
theorem bd_some {α β : Type} {x : Option α} {f : α → Option β} {R : β} (h : x.bind f = some R) : ∃ a, x = some a ∧ f a = some R := by
  cases x with
  | none => cases h
  | some a => exact ⟨a, rfl, h⟩
theorem so2 {α β : Type} {a : α} {b : β} {R : α × β} (h : some (a, b) = some R) : a = R.1 ∧ b = R.2 := by cases h; exact ⟨rfl, rfl⟩
theorem pr2 {α β : Type} {a : α} {b : β} {R : α × β} (h : (a, b) = R) : a = R.1 ∧ b = R.2 := by cases h; exact ⟨rfl, rfl⟩
def bI (b : Bool) : Int32 := match b with
  | true => 1
  | false => 0
theorem bI_nar (b : Bool) : narrow .boolean (.int (bI b)) = .int (bI b) := by cases b <;> rfl
def rmI (x y : Int32) : Int32 := x - x / y * y
def mnI (x y : Int32) : Int32 := if y < x then y else x
def abI (x : Int32) : Int32 := if 0 ≤ x then x else 0 - x
def usI (x y : Int32) : Int32 := (x.toUInt32 >>> (y.toUInt32 &&& Int32.toUInt32 31)).toInt32
/-- what a copy of n places asks -/
def cpB (sp dp n : Int32) (n0 n1 : Nat) : Bool := decide (¬ sp < 0 ∧ ¬ dp < 0 ∧ ¬ n < 0 ∧ sp.toNatClampNeg + n.toNatClampNeg ≤ n0 ∧ dp.toNatClampNeg + n.toNatClampNeg ≤ n1)
theorem cpB_ok {sp dp n : Int32} {n0 n1 : Nat} (h : cpB sp dp n n0 n1 = true) : ¬ sp < 0 ∧ ¬ dp < 0 ∧ ¬ n < 0 ∧ sp.toNatClampNeg + n.toNatClampNeg ≤ n0 ∧ dp.toNatClampNeg + n.toNatClampNeg ≤ n1 := by
  unfold cpB at h
  exact of_decide_eq_true h
section WR
variable {p : Program} {l : Launch} {e : Env} {R : Room} {s : State} {m : MethodId} {args : Array Value} {below : List Frame} {meth : Method} {c : Code} {H : Heap} {locs : List Loc} {cells slots : Nat} {Q : State → Prop}
variable {cc : ByteArray} {pc : Nat} {ls : Array Slot} {rest : List Value} {E : EF} {N nL : Nat} {X : WX} {st st' : St} {own : String}
theorem w_get (C : Amb N X p s m args meth c cc nL own) (hw : Wd E N X s.heap st H locs) {k ci index NN : Nat} {T : u_T} {Cn : String} {fs : List Value} {v : Value} (hk : k < N) (j : Nat) (hl : Cond.fieldLink own index (T j).1 (T j).2.1 (T j).2.2.1 ∈ wsA) (hE : E X k (gI st k) (gL st k) = .inr (ci, fs)) (hc : vwCl[ci]? = some (Cn, T, NN)) (hin : ∀ w ∈ u_ws Cn T NN, w ∈ wsA) (hj : j < NN) (hv : fs[j]? = some v) (hdg : decode cc pc = .ok (.getfield index, 3))
    (kk : W p l e R s m args below meth c H locs cells slots Q (F0 m (pc + 3) ls (v :: rest))) : W p l e R s m args below meth c H locs cells slots Q (F0 m pc ls (.ref (xq X k) :: rest)) := by
  obtain ⟨⟨hx, hb, hml, hown, hts⟩, hK, hZ, hlk⟩ := C
  exact va_get (D := X.1) (ci := ci) (v := v) (C := Cn) (T := T) (N := NN) hx hb hts hin hown hK hw.1 k (by rw [wcl_get hk, hE]) hc j hj (hts _ hl) (fun _ h9 => h9) hv hdg kk
theorem w_put (C : Amb N X p s m args meth c cc nL own) (hw : Wd E N X s.heap st H locs) {k ci index NN : Nat} {T : u_T} {Cn : String} {fs : List Value} {v : Value} {ty : FieldType} {ty0 : Nat → FieldType} (hk : k < N) (j : Nat) (hl : Cond.fieldLink own index (T j).1 (T j).2.1 (T j).2.2.1 ∈ wsA) (hE : E X k (gI st k) (gL st k) = .inr (ci, fs)) (hc : vwCl[ci]? = some (Cn, T, NN)) (hin : ∀ w ∈ u_ws Cn T NN, w ∈ wsA) (hty : ∀ k, k < NN → parseFieldDescriptor (T k).2.2.1 = some (ty0 k)) (hnm : ∀ a, a < NN → ∀ b, b < NN → a ≠ b → (T a).2.1 ≠ (T b).2.1) (hj : j < NN) (hfin : (T j).2.2.2 = false) (hd : ty0 j = ty) (hn : narrow ty v = v) (hfit : fits ty v = true) (hlen : j < fs.length) (hE' : E X k (gI st' k) (gL st' k) = .inr (ci, fs.set j v)) (ho : ∀ a, a ≠ k → gI st' a = gI st a ∧ gL st' a = gL st a) (hdg : decode cc pc = .ok (.putfield index, 3))
    (kk : ∀ (H1 : Heap) (locs1 : List Loc), Wd E N X s.heap st' H1 locs1 → W p l e R s m args below meth c H1 locs1 cells slots Q (F0 m (pc + 3) ls rest)) : W p l e R s m args below meth c H locs cells slots Q (F0 m pc ls (v :: .ref (xq X k) :: rest)) := by
  obtain ⟨⟨hx, hb, hml, hown, hts⟩, hK, hZ, hlk⟩ := C
  obtain ⟨hP, hD, hS⟩ := hw
  exact va_put (D := X.1) (ci := ci) (v := v) (ty := ty) (C := Cn) (T := T) (N := NN) hx hb hts hin ty0 hty hnm hown hK hP hD hS k (by rw [wcl_get hk, hE]) hc j hj (hts _ hl) (fun _ h9 => h9) hfin (by rw [hty j hj, hd]) hn hfit hlen hdg (fun H1 locs1 hP1 hD1 hS1 => kk H1 locs1 (wd_set hk hE' ho hP1 hD1 hS1))
/-- an int field -/
theorem w_puti (C : Amb N X p s m args meth c cc nL own) (hw : Wd E N X s.heap st H locs) {k ci index NN : Nat} {T : u_T} {Cn : String} {fs : List Value} {v : Int32} {ty0 : Nat → FieldType} (hk : k < N) (j : Nat) (hl : Cond.fieldLink own index (T j).1 (T j).2.1 (T j).2.2.1 ∈ wsA) (hE : E X k (gI st k) (gL st k) = .inr (ci, fs)) (hc : vwCl[ci]? = some (Cn, T, NN)) (hin : ∀ w ∈ u_ws Cn T NN, w ∈ wsA) (hty : ∀ k, k < NN → parseFieldDescriptor (T k).2.2.1 = some (ty0 k)) (hnm : ∀ a, a < NN → ∀ b, b < NN → a ≠ b → (T a).2.1 ≠ (T b).2.1) (hj : j < NN) (hfin : (T j).2.2.2 = false) (hd : ty0 j = .int) (hlen : j < fs.length) (hE' : E X k (upd (gI st k) j v) (gL st k) = .inr (ci, fs.set j (.int v))) (hdg : decode cc pc = .ok (.putfield index, 3))
    (kk : ∀ (H1 : Heap) (locs1 : List Loc), Wd E N X s.heap (sI st k j v) H1 locs1 → W p l e R s m args below meth c H1 locs1 cells slots Q (F0 m (pc + 3) ls rest)) : W p l e R s m args below meth c H locs cells slots Q (F0 m pc ls (.int v :: .ref (xq X k) :: rest)) :=
  w_put C hw hk j hl hE hc hin hty hnm hj hfin hd rfl rfl hlen (by rw [gI_sI]; exact hE') (sI_o st k j v) hdg kk
/-- a boolean field, a constant -/
theorem w_putz (C : Amb N X p s m args meth c cc nL own) (hw : Wd E N X s.heap st H locs) {k ci index NN : Nat} {T : u_T} {Cn : String} {fs : List Value} {v : Int32} {ty0 : Nat → FieldType} (hk : k < N) (j : Nat) (hl : Cond.fieldLink own index (T j).1 (T j).2.1 (T j).2.2.1 ∈ wsA) (hE : E X k (gI st k) (gL st k) = .inr (ci, fs)) (hc : vwCl[ci]? = some (Cn, T, NN)) (hin : ∀ w ∈ u_ws Cn T NN, w ∈ wsA) (hty : ∀ k, k < NN → parseFieldDescriptor (T k).2.2.1 = some (ty0 k)) (hnm : ∀ a, a < NN → ∀ b, b < NN → a ≠ b → (T a).2.1 ≠ (T b).2.1) (hj : j < NN) (hfin : (T j).2.2.2 = false) (hd : ty0 j = .boolean) (hn : narrow .boolean (.int v) = .int v) (hfit : fits .boolean (.int v) = true) (hlen : j < fs.length) (hE' : E X k (upd (gI st k) j v) (gL st k) = .inr (ci, fs.set j (.int v))) (hdg : decode cc pc = .ok (.putfield index, 3))
    (kk : ∀ (H1 : Heap) (locs1 : List Loc), Wd E N X s.heap (sI st k j v) H1 locs1 → W p l e R s m args below meth c H1 locs1 cells slots Q (F0 m (pc + 3) ls rest)) : W p l e R s m args below meth c H locs cells slots Q (F0 m pc ls (.int v :: .ref (xq X k) :: rest)) :=
  w_put C hw hk j hl hE hc hin hty hnm hj hfin hd hn hfit hlen (by rw [gI_sI]; exact hE') (sI_o st k j v) hdg kk
theorem w_iald (C : Amb N X p s m args meth c cc nL own) (hw : Wd E N X s.heap st H locs) {k n : Nat} {i : Int32} (hk : k < N) (hE : E X k (gI st k) (gL st k) = .inl (xc X 1, n, .inl (gI st k))) (hin : inB i n = true) {j : Nat} (hj : i.toNatClampNeg = j) (hdg : decode cc pc = .ok (.iaload, 1))
    (kk : W p l e R s m args below meth c H locs cells slots Q (F0 m (pc + 1) ls (.int (gI st k j) :: rest))) : W p l e R s m args below meth c H locs cells slots Q (F0 m pc ls (.int i :: .ref (xq X k) :: rest)) := by
  subst hj
  exact va_iald C.1.1 C.1.2.1 C.2.1 hw.1 k 1 (by rw [wcl_get hk, hE]) rfl (inB_in hin) hdg kk
theorem w_bald (C : Amb N X p s m args meth c cc nL own) (hw : Wd E N X s.heap st H locs) {k n : Nat} {i : Int32} (hk : k < N) (hE : E X k (gI st k) (gL st k) = .inl (xc X 0, n, .inl (gI st k))) (hin : inB i n = true) {j : Nat} (hj : i.toNatClampNeg = j) (hdg : decode cc pc = .ok (.baload, 1))
    (kk : W p l e R s m args below meth c H locs cells slots Q (F0 m (pc + 1) ls (.int (gI st k j) :: rest))) : W p l e R s m args below meth c H locs cells slots Q (F0 m pc ls (.int i :: .ref (xq X k) :: rest)) := by
  subst hj
  exact va_bald C.1.1 C.1.2.1 C.2.1 hw.1 k 0 (by rw [wcl_get hk, hE]) rfl (inB_in hin) hdg kk
theorem w_sald (C : Amb N X p s m args meth c cc nL own) (hw : Wd E N X s.heap st H locs) {k n : Nat} {i : Int32} (hk : k < N) (hE : E X k (gI st k) (gL st k) = .inl (xc X 3, n, .inl (gI st k))) (hin : inB i n = true) {j : Nat} (hj : i.toNatClampNeg = j) (hdg : decode cc pc = .ok (.saload, 1))
    (kk : W p l e R s m args below meth c H locs cells slots Q (F0 m (pc + 1) ls (.int (gI st k j) :: rest))) : W p l e R s m args below meth c H locs cells slots Q (F0 m pc ls (.int i :: .ref (xq X k) :: rest)) := by
  subst hj
  exact va_sald C.1.1 C.1.2.1 C.2.1 hw.1 k 3 (by rw [wcl_get hk, hE]) rfl (inB_in hin) hdg kk
theorem w_zald (C : Amb N X p s m args meth c cc nL own) (hw : Wd E N X s.heap st H locs) {k n : Nat} {i : Int32} (hk : k < N) (hE : E X k (gI st k) (gL st k) = .inl (xc X 4, n, .inl (gI st k))) (hin : inB i n = true) {j : Nat} (hj : i.toNatClampNeg = j) (hdg : decode cc pc = .ok (.baload, 1))
    (kk : W p l e R s m args below meth c H locs cells slots Q (F0 m (pc + 1) ls (.int (gI st k j) :: rest))) : W p l e R s m args below meth c H locs cells slots Q (F0 m pc ls (.int i :: .ref (xq X k) :: rest)) := by
  subst hj
  exact va_zald C.1.1 C.1.2.1 C.2.1 hw.1 k 4 (by rw [wcl_get hk, hE]) rfl (inB_in hin) hdg kk
theorem w_lald (C : Amb N X p s m args meth c cc nL own) (hw : Wd E N X s.heap st H locs) {k n : Nat} {i : Int32} (hk : k < N) (hE : E X k (gI st k) (gL st k) = .inl (xc X 2, n, .inr (.inl (gL st k)))) (hin : inB i n = true) {j : Nat} (hj : i.toNatClampNeg = j) (hdg : decode cc pc = .ok (.laload, 1))
    (kk : W p l e R s m args below meth c H locs cells slots Q (F0 m (pc + 1) ls (.long (gL st k j) :: rest))) : W p l e R s m args below meth c H locs cells slots Q (F0 m pc ls (.int i :: .ref (xq X k) :: rest)) := by
  subst hj
  exact va_lald C.1.1 C.1.2.1 C.2.1 hw.1 k 2 (by rw [wcl_get hk, hE]) rfl (inB_in hin) hdg kk
theorem w_iast (C : Amb N X p s m args meth c cc nL own) (hw : Wd E N X s.heap st H locs) {k n : Nat} {i v : Int32} (hk : k < N) (hE : ∀ f, E X k f (gL st k) = .inl (xc X 1, n, .inl f)) (hin : inB i n = true) {j : Nat} (hj : i.toNatClampNeg = j) (hdg : decode cc pc = .ok (.iastore, 1))
    (kk : ∀ (H1 : Heap) (locs1 : List Loc), Wd E N X s.heap (sI st k j v) H1 locs1 → W p l e R s m args below meth c H1 locs1 cells slots Q (F0 m (pc + 1) ls rest)) : W p l e R s m args below meth c H locs cells slots Q (F0 m pc ls (.int v :: .int i :: .ref (xq X k) :: rest)) := by
  subst hj
  exact va_iast C.1.1 C.1.2.1 C.2.1 hw.1 hw.2.1 hw.2.2 k 1 (by rw [wcl_get hk, hE]) rfl (inB_in hin) hdg (fun H1 locs1 hP1 hD1 hS1 => kk H1 locs1 (wd_set hk (by rw [gI_sI, gL_sI]; exact hE _) (sI_o st k _ v) hP1 hD1 hS1))
theorem w_bast (C : Amb N X p s m args meth c cc nL own) (hw : Wd E N X s.heap st H locs) {k n : Nat} {i v : Int32} (hk : k < N) (hE : ∀ f, E X k f (gL st k) = .inl (xc X 0, n, .inl f)) (hin : inB i n = true) {j : Nat} (hj : i.toNatClampNeg = j) (hdg : decode cc pc = .ok (.bastore, 1))
    (kk : ∀ (H1 : Heap) (locs1 : List Loc), Wd E N X s.heap (sI st k j (vp_nar .byte v)) H1 locs1 → W p l e R s m args below meth c H1 locs1 cells slots Q (F0 m (pc + 1) ls rest)) : W p l e R s m args below meth c H locs cells slots Q (F0 m pc ls (.int v :: .int i :: .ref (xq X k) :: rest)) := by
  subst hj
  exact va_bast C.1.1 C.1.2.1 C.2.1 hw.1 hw.2.1 hw.2.2 k 0 (by rw [wcl_get hk, hE]) rfl (inB_in hin) hdg (fun H1 locs1 hP1 hD1 hS1 => kk H1 locs1 (wd_set hk (by rw [gI_sI, gL_sI]; exact hE _) (sI_o st k _ _) hP1 hD1 hS1))
theorem w_sast (C : Amb N X p s m args meth c cc nL own) (hw : Wd E N X s.heap st H locs) {k n : Nat} {i v : Int32} (hk : k < N) (hE : ∀ f, E X k f (gL st k) = .inl (xc X 3, n, .inl f)) (hin : inB i n = true) {j : Nat} (hj : i.toNatClampNeg = j) (hdg : decode cc pc = .ok (.sastore, 1))
    (kk : ∀ (H1 : Heap) (locs1 : List Loc), Wd E N X s.heap (sI st k j (vp_nar .short v)) H1 locs1 → W p l e R s m args below meth c H1 locs1 cells slots Q (F0 m (pc + 1) ls rest)) : W p l e R s m args below meth c H locs cells slots Q (F0 m pc ls (.int v :: .int i :: .ref (xq X k) :: rest)) := by
  subst hj
  exact va_sast C.1.1 C.1.2.1 C.2.1 hw.1 hw.2.1 hw.2.2 k 3 (by rw [wcl_get hk, hE]) rfl (inB_in hin) hdg (fun H1 locs1 hP1 hD1 hS1 => kk H1 locs1 (wd_set hk (by rw [gI_sI, gL_sI]; exact hE _) (sI_o st k _ _) hP1 hD1 hS1))
theorem w_zast (C : Amb N X p s m args meth c cc nL own) (hw : Wd E N X s.heap st H locs) {k n : Nat} {i v : Int32} (hk : k < N) (hE : ∀ f, E X k f (gL st k) = .inl (xc X 4, n, .inl f)) (hin : inB i n = true) {j : Nat} (hj : i.toNatClampNeg = j) (hdg : decode cc pc = .ok (.bastore, 1))
    (kk : ∀ (H1 : Heap) (locs1 : List Loc), Wd E N X s.heap (sI st k j (vp_nar .boolean v)) H1 locs1 → W p l e R s m args below meth c H1 locs1 cells slots Q (F0 m (pc + 1) ls rest)) : W p l e R s m args below meth c H locs cells slots Q (F0 m pc ls (.int v :: .int i :: .ref (xq X k) :: rest)) := by
  subst hj
  exact va_zast C.1.1 C.1.2.1 C.2.1 hw.1 hw.2.1 hw.2.2 k 4 (by rw [wcl_get hk, hE]) rfl (inB_in hin) hdg (fun H1 locs1 hP1 hD1 hS1 => kk H1 locs1 (wd_set hk (by rw [gI_sI, gL_sI]; exact hE _) (sI_o st k _ _) hP1 hD1 hS1))
theorem w_last (C : Amb N X p s m args meth c cc nL own) (hw : Wd E N X s.heap st H locs) {k n : Nat} {i : Int32} {v : Int64} (hk : k < N) (hE : ∀ g, E X k (gI st k) g = .inl (xc X 2, n, .inr (.inl g))) (hin : inB i n = true) {j : Nat} (hj : i.toNatClampNeg = j) (hdg : decode cc pc = .ok (.lastore, 1))
    (kk : ∀ (H1 : Heap) (locs1 : List Loc), Wd E N X s.heap (sL st k j v) H1 locs1 → W p l e R s m args below meth c H1 locs1 cells slots Q (F0 m (pc + 1) ls rest)) : W p l e R s m args below meth c H locs cells slots Q (F0 m pc ls (.long v :: .int i :: .ref (xq X k) :: rest)) := by
  subst hj
  exact va_last C.1.1 C.1.2.1 C.2.1 hw.1 hw.2.1 hw.2.2 k 2 (by rw [wcl_get hk, hE]) rfl (inB_in hin) hdg (fun H1 locs1 hP1 hD1 hS1 => kk H1 locs1 (wd_set hk (by rw [gL_sL, gI_sL]; exact hE _) (sL_o st k _ _) hP1 hD1 hS1))
/-- a row of references -/
theorem w_aald (C : Amb N X p s m args meth c cc nL own) (hw : Wd E N X s.heap st H locs) {k n t k' : Nat} {i : Int32} {g : Nat → Option Nat} {ty : FieldType} (hk : k < N) (hE : E X k (gI st k) (gL st k) = .inl (xc X t, n, .inr (.inr (.inr (.inr g))))) (ht : (xty X)[t]? = some (xc X t, ty)) (hty : refKind ty = true) (hin : inB i n = true) (hg : g i.toNatClampNeg = some (xq X k')) (hdg : decode cc pc = .ok (.aaload, 1))
    (kk : W p l e R s m args below meth c H locs cells slots Q (F0 m (pc + 1) ls (.ref (xq X k') :: rest))) : W p l e R s m args below meth c H locs cells slots Q (F0 m pc ls (.int i :: .ref (xq X k) :: rest)) := by
  have hin' := inB_in hin
  have hlt : i.toNatClampNeg < n := Nat.not_le.mp fun q => hin' (Or.inr q)
  have ha : (wcl E N X st)[k]? = some (xq X k, .inl (xc X t, n, .inr (.inr (.inr (.inr g))))) := by rw [wcl_get hk, hE]
  exact W.aald (v := .ref (xq X k')) (ty := ty) C.1.1 C.1.2.1 (hw.1 k _ ha) ((C.2.1.2 t _ ht).1 n (fun j => va_rf (g j))) hty (fun q => by cases q) (by show ¬ (i < 0 ∨ (arrV _ _ _).slots.size ≤ _); rw [arrV_size]; exact hin') (by show (arrV _ _ _).slots[_]? = _; rw [arrV_read _ _ hlt, hg]; rfl) rfl rfl hdg kk
/-- static tables -/
theorem w_gets {hC n : String} {k index : Nat} {tab : List Int32} (C : Amb N X p s m args meth c cc nL own) (hw : Wd E N X s.heap st H locs) (hZ : ZT X (Aw N X) s s.heap hC n k tab) (hl : Cond.fieldLink own index hC n "[I" ∈ wsA) (hdg : decode cc pc = .ok (.getstatic index, 3))
    (kk : W p l e R s m args below meth c H locs cells slots Q (F0 m (pc + 3) ls (.ref (xt X k) :: rest))) : W p l e R s m args below meth c H locs cells slots Q (F0 m pc ls rest) :=
  va_gets C.1.1 C.1.2.1 hZ.1 hw.2.2 C.1.2.2.2.1 (C.1.2.2.2.2 _ hl) (fun _ h => h) hdg kk
theorem w_tald {hC n : String} {k : Nat} {tab : List Int32} {i : Int32} (C : Amb N X p s m args meth c cc nL own) (hw : Wd E N X s.heap st H locs) (hZ : ZT X (Aw N X) s s.heap hC n k tab) (hin : inB i tab.length = true) {j : Nat} (hj : i.toNatClampNeg = j) (hdg : decode cc pc = .ok (.iaload, 1))
    (kk : W p l e R s m args below meth c H locs cells slots Q (F0 m (pc + 1) ls (.int (tb tab j) :: rest))) : W p l e R s m args below meth c H locs cells slots Q (F0 m pc ls (.int i :: .ref (xt X k) :: rest)) := by
  subst hj
  exact va_ti C.1.1 C.1.2.1 hZ.2 hw.2.2 (inB_in hin) rfl hdg kk
/-- ends -/
theorem w_post (hw : Wd E N X s.heap st H locs) {t : State} (ht : t.heap = H) : va_P X.1 vwCl (wcl E N X st) t.heap ∧ va_F (Aw N X) s t := ⟨by rw [ht]; exact hw.1, hw.2.2.F ht⟩
theorem w_iret (C : Amb N X p s m args meth c cc nL own) (hw : Wd E N X s.heap st H locs) (hr : meth.sig.returnType = some .int) {v r : Int32} (hv : v = r) (hs : st = st') (hdg : decode cc pc = .ok (.ireturn, 1)) : W p l e R s m args below meth c H locs 0 0 (QI E N X r st' below args s) (F0 m pc ls [.int v]) := by
  subst hv; subst hs
  exact W.iret (v := v) C.1.1 C.1.2.1 hr (fun t ht hW => ⟨⟨v, (), rfl, rfl, (w_post hw ht).1⟩, (w_post hw ht).2⟩) hw.2.2.2.2 hdg C.2.2.2
theorem w_zret (C : Amb N X p s m args meth c cc nL own) (hw : Wd E N X s.heap st H locs) (hr : meth.sig.returnType = some .boolean) {v : Int32} {b r : Bool} (hb : bI b = v) (hv : b = r) (hs : st = st') (hdg : decode cc pc = .ok (.ireturn, 1)) : W p l e R s m args below meth c H locs 0 0 (QI E N X (bI r) st' below args s) (F0 m pc ls [.int v]) := by
  subst hb; subst hv; subst hs
  exact W.zret (v := bI b) C.1.1 C.1.2.1 hr (bI_nar b) (fun t ht hW => ⟨⟨bI b, (), rfl, rfl, (w_post hw ht).1⟩, (w_post hw ht).2⟩) hw.2.2.2.2 hdg C.2.2.2
theorem w_lret (C : Amb N X p s m args meth c cc nL own) (hw : Wd E N X s.heap st H locs) (hr : meth.sig.returnType = some .long) {v r : Int64} (hv : v = r) (hs : st = st') (hdg : decode cc pc = .ok (.lreturn, 1)) : W p l e R s m args below meth c H locs 0 0 (QL E N X r st' below args s) (F0 m pc ls [.long v]) := by
  subst hv; subst hs
  exact W.lret (v := v) C.1.1 C.1.2.1 hr (fun t ht hW => ⟨⟨v, (), rfl, rfl, (w_post hw ht).1⟩, (w_post hw ht).2⟩) hw.2.2.2.2 hdg C.2.2.2
theorem w_vret (C : Amb N X p s m args meth c cc nL own) (hw : Wd E N X s.heap st H locs) (hr : meth.sig.returnType = none) (hs : st = st') (hdg : decode cc pc = .ok (.return_, 1)) : W p l e R s m args below meth c H locs 0 0 (QV E N X st' below args s) (F0 m pc ls []) := by
  subst hs
  exact W.vret C.1.1 C.1.2.1 hr (fun t ht hW => ⟨⟨(), rfl, trivial, (w_post hw ht).1⟩, (w_post hw ht).2⟩) hw.2.2.2.2 hdg C.2.2.2
theorem w_preU (C : Amb N X p s m args meth c cc nL own) (hw : Wd E N X s.heap st H locs) : ∀ U : State, U.heap = H → s.WarmedH U.vm → PW E N X st U := fun U hU hW => ⟨by rw [hU]; exact hw.1, va_K.moved hW.alike C.2.1, hw.2.1, by rw [hU]; exact C.2.2.1.go hW (fun a h1 h2 => hw.2.2.2.1 a h1 h2)⟩
theorem w_back {E : EF} {N : Nat} {X : WX} {H0 : Heap} {st st' : St} {H H1 : Heap} {locs locs1 : List Loc} (hw : Wd E N X H0 st H locs) {t : State} (ht : t.heap = H1) (hP : va_P X.1 vwCl (wcl E N X st') t.heap) (hS : va_S (Aw N X) H0 H1 locs1) : Wd E N X H0 st' H1 locs1 := ⟨by rw [← ht]; exact hP, wcl_D hw.2.1, hS⟩
theorem gw_list {ws : List Cond} (h : ∀ w ∈ ws, w ∈ wsA) : GoodIn wsA ws := fun w hw => ⟨h w hw, good_of_word (wsA_good (h w hw))⟩
theorem gw_V {own C : String} {idx : Nat} {y : MethodName} {b : ByteArray} {n : Nat} {r : Option FieldType} (g1 : Cond.methodLink own idx y ∈ wsA) (g2 : Cond.instanceMethod y ∈ wsA) (g3 : Cond.selects C y y ∈ wsA) (g4 : Cond.initialized C ∈ wsA) (g5 : Cond.code y b n r ∈ wsA) : GoodIn wsA (wsV own idx C y (.code y b n r :: wsA)) := gw_list (fun w h => by
  unfold wsV at h
  rcases List.mem_append.mp h with h | h
  · simp only [List.mem_cons, List.not_mem_nil, or_false] at h
    rcases h with rfl | rfl | rfl | rfl <;> assumption
  · rcases List.mem_cons.mp h with rfl | h
    · exact g5
    · exact h)
theorem gw_S {own : String} {idx : Nat} {y : MethodName} {b : ByteArray} {n : Nat} {r : Option FieldType} (g1 : Cond.methodLink own idx y ∈ wsA) (g2 : Cond.static y ∈ wsA) (g4 : Cond.initialized y.cls ∈ wsA) (g5 : Cond.code y b n r ∈ wsA) : GoodIn wsA (va_wsS own idx y (.code y b n r :: wsA)) := gw_list (fun w h => by
  unfold va_wsS at h
  rcases List.mem_append.mp h with h | h
  · simp only [List.mem_cons, List.not_mem_nil, or_false] at h
    rcases h with rfl | rfl | rfl <;> assumption
  · rcases List.mem_cons.mp h with rfl | h
    · exact g5
    · exact h)
theorem gw_C {y : MethodName} {b : ByteArray} {n : Nat} {r : Option FieldType} (g5 : Cond.code y b n r ∈ wsA) : GoodIn wsA (.code y b n r :: wsA) := gw_list (fun w h => by
  rcases List.mem_cons.mp h with rfl | h
  · exact g5
  · exact h)
/-- what a call asks of the method's name -/
def yOk (y : MethodName) (n : Nat) : Prop := y.cls ≠ "java/lang/invoke/MethodHandle" ∧ y.cls ≠ "java/lang/invoke/VarHandle" ∧ (parseMethodDescriptor y.desc).map (fun d => d.parameters.length) = some n
theorem w_runV {y : MethodName} {b : ByteArray} {maxL idx n k ci NN : Nat} {ret : Option FieldType} {rm : Room} {Cn : String} {T : u_T} {fs : List Value} {As st0 : List Value} {Qc : Array Value → State → Outcome → State → Prop} (C : Amb N X p s m args meth c cc nL own) (hw : Wd E N X s.heap st H locs) (hM : Met l y (.code y b maxL ret :: wsA) rm (va_Pc (.ref (xq X k) :: As) (PW E N X st)) Qc 0 0 (Aw N X)) (hk : k < N) (hE : E X k (gI st k) (gL st k) = .inr (ci, fs)) (hc : vwCl[ci]? = some (Cn, T, NN)) (g1 : Cond.methodLink own idx y ∈ wsA) (g2 : Cond.instanceMethod y ∈ wsA) (g3 : Cond.selects Cn y y ∈ wsA) (g4 : Cond.initialized Cn ∈ wsA) (g5 : Cond.code y b maxL ret ∈ wsA) (hy : y.cls = Cn) (hd : yOk y n) (hR : rm.frames + 1 ≤ R.frames ∧ 8 + (maxL + 11) + rm.locals ≤ R.locals) (hrc : rm.cells = 0) (hrs : rm.slots = 0) (hn : As.length = n) (hst : st0 = As.reverse ++ .ref (xq X k) :: rest) (hsz : ls.size = nL) (hW : (rest.map fun v => v.category).sum ≤ 8) (hdg : decode cc pc = .ok (.invokevirtual idx, 3)) (hf : cells ≤ R.cells ∧ slots ≤ R.slots) :
    va_Run p l e R s m args below meth c H locs cells slots 0 0 (F0 m pc ls st0) rest (Qc (Value.ref (xq X k) :: As).toArray) (Aw N X) :=
  va_runV (As := As) (rest := rest) C.1 hM (cwV n C.1.2.2.2.2 (gw_V g1 g2 g3 g4 g5) rfl hrc hrs ⟨hy, hd⟩ hR) ⟨PW.blind, va_recv C.2.1 hw.1 (ci := ci) (q0 := k) hc (by rw [wcl_get hk, hE]), fun U hU hW => ⟨rfl, w_preU C hw U hU hW⟩⟩ rfl hn hsz hst (lv_room hW) hdg hf
theorem w_runS {y : MethodName} {b : ByteArray} {maxL idx n : Nat} {ret : Option FieldType} {rm : Room} {As st0 : List Value} {Qc : Array Value → State → Outcome → State → Prop} (C : Amb N X p s m args meth c cc nL own) (hw : Wd E N X s.heap st H locs) (hM : Met l y (.code y b maxL ret :: wsA) rm (va_Pc As (PW E N X st)) Qc 0 0 (Aw N X)) (g1 : Cond.methodLink own idx y ∈ wsA) (g2 : Cond.static y ∈ wsA) (g4 : Cond.initialized y.cls ∈ wsA) (g5 : Cond.code y b maxL ret ∈ wsA) (hd : yOk y n) (hR : rm.frames + 1 ≤ R.frames ∧ 8 + (maxL + 11) + rm.locals ≤ R.locals) (hrc : rm.cells = 0) (hrs : rm.slots = 0) (hn : As.length = n) (hst : st0 = As.reverse ++ rest) (hsz : ls.size = nL) (hW : (rest.map fun v => v.category).sum ≤ 8) (hdg : decode cc pc = .ok (.invokestatic idx, 3)) (hf : cells ≤ R.cells ∧ slots ≤ R.slots) :
    va_Run p l e R s m args below meth c H locs cells slots 0 0 (F0 m pc ls st0) rest (Qc As.toArray) (Aw N X) :=
  va_runS (As := As) (rest := rest) C.1 hM (va_cwS n C.1.2.2.2.2 (gw_S g1 g2 g4 g5) rfl hrc hrs hd hR) ⟨PW.blind, fun U hU hW => ⟨rfl, w_preU C hw U hU hW⟩⟩ rfl hn hsz hst (lv_room hW) hdg hf
theorem w_runSN {y : MethodName} {host : String} {b : ByteArray} {maxL idx n : Nat} {ret : Option FieldType} {rm : Room} {As st0 : List Value} {Qc : Array Value → State → Outcome → State → Prop} (C : Amb N X p s m args meth c cc nL own) (hw : Wd E N X s.heap st H locs) (hM : Met l y (.code y b maxL ret :: wsA) rm (va_Pc As (PW E N X st)) Qc 0 0 (Aw N X)) (g1 : va_Nw (.methodLinkNest own idx y host) s) (g2 : Cond.static y ∈ wsA) (g4 : Cond.initialized y.cls ∈ wsA) (g5 : Cond.code y b maxL ret ∈ wsA) (hd : yOk y n) (hR : rm.frames + 1 ≤ R.frames ∧ 8 + (maxL + 11) + rm.locals ≤ R.locals) (hrc : rm.cells = 0) (hrs : rm.slots = 0) (hn : As.length = n) (hst : st0 = As.reverse ++ rest) (hsz : ls.size = nL) (hW : (rest.map fun v => v.category).sum ≤ 8) (hdg : decode cc pc = .ok (.invokestatic idx, 3)) (hf : cells ≤ R.cells ∧ slots ≤ R.slots) :
    va_Run p l e R s m args below meth c H locs cells slots 0 0 (F0 m pc ls st0) rest (Qc As.toArray) (Aw N X) :=
  va_runSN (As := As) (rest := rest) C.1 hM ⟨va_cnB n C.1.2.2.2.2 (gw_C g5) rfl hrc hrs g1 (C.1.2.2.2.2 _ g4) hd hR, C.1.2.2.2.2 _ g2, trivial⟩ ⟨PW.blind, fun U hU hW => ⟨rfl, w_preU C hw U hU hW⟩⟩ rfl hn hsz hst (lv_room hW) hdg hf
theorem w_goI {st0 : List Value} {a : Array Value} {r : Int32} (hw : Wd E N X s.heap st H locs) (hr : va_Run p l e R s m args below meth c H locs cells slots 0 0 (F0 m pc ls st0) rest (va_Qi (fun r' (_ : Unit) => r' = r) (fun _ t => va_P X.1 vwCl (wcl E N X st') t.heap) (Aw N X) a) (Aw N X))
    (kk : ∀ (H1 : Heap) (locs1 : List Loc), Wd E N X s.heap st' H1 locs1 → W p l e R s m args below meth c H1 locs1 cells slots Q (F0 m (pc + 3) ls (.int r :: rest))) : W p l e R s m args below meth c H locs cells slots Q (F0 m pc ls st0) :=
  va_calli hr hw.2.2 (fun _ _ h => h) (fun _ h => h) (fun r' u t H1 locs1 ht hvm hp hB hz hk hS => by subst hp; exact kk H1 locs1 (w_back hw ht hB hS))
theorem w_goL {st0 : List Value} {a : Array Value} {r : Int64} (hw : Wd E N X s.heap st H locs) (hr : va_Run p l e R s m args below meth c H locs cells slots 0 0 (F0 m pc ls st0) rest (va_Ql (fun r' (_ : Unit) => r' = r) (fun _ t => va_P X.1 vwCl (wcl E N X st') t.heap) (Aw N X) a) (Aw N X))
    (kk : ∀ (H1 : Heap) (locs1 : List Loc), Wd E N X s.heap st' H1 locs1 → W p l e R s m args below meth c H1 locs1 cells slots Q (F0 m (pc + 3) ls (.long r :: rest))) : W p l e R s m args below meth c H locs cells slots Q (F0 m pc ls st0) :=
  va_calll hr hw.2.2 (fun _ _ h => h) (fun _ h => h) (fun r' u t H1 locs1 ht hvm hp hB hz hk hS => by subst hp; exact kk H1 locs1 (w_back hw ht hB hS))
theorem w_goV {st0 : List Value} {a : Array Value} (hw : Wd E N X s.heap st H locs) (hr : va_Run p l e R s m args below meth c H locs cells slots 0 0 (F0 m pc ls st0) rest (va_Qv (fun (_ : Unit) => True) (fun _ t => va_P X.1 vwCl (wcl E N X st') t.heap) (Aw N X) a) (Aw N X))
    (kk : ∀ (H1 : Heap) (locs1 : List Loc), Wd E N X s.heap st' H1 locs1 → W p l e R s m args below meth c H1 locs1 cells slots Q (F0 m (pc + 3) ls rest)) : W p l e R s m args below meth c H locs cells slots Q (F0 m pc ls st0) :=
  va_callv hr hw.2.2 (fun _ _ h => h) (fun _ h => h) (fun u t H1 locs1 ht hvm hp hB hz hk hS => kk H1 locs1 (w_back hw ht hB hS))
theorem w_irem (C : Amb N X p s m args meth c cc nL own) {x y : Int32} (hne : ¬ y = 0) (hdg : decode cc pc = .ok (.irem, 1))
    (k : W p l e R s m args below meth c H locs cells slots Q (F0 m (pc + 1) ls (.int (rmI x y) :: rest))) : W p l e R s m args below meth c H locs cells slots Q (F0 m pc ls (.int y :: .int x :: rest)) := lv_irem C.1.1 C.1.2.1 hdg hne k
theorem w_min (C : Amb N X p s m args meth c cc nL own) (hl : ls.size = nL) {idx : Nat} (g1 : Cond.methodLink own idx Lib.Math.min.name ∈ wsA) (hF : 1 ≤ R.frames) (hL : (rest.map fun v => v.category).sum + 13 ≤ R.locals) (hc : cells ≤ R.cells) (hs : slots ≤ R.slots) {x y : Int32} (hdg : decode cc pc = .ok (.invokestatic idx, 3))
    (k : W p l e R s m args below meth c H locs cells slots Q (F0 m (pc + 3) ls (.int (mnI x y) :: rest))) : W p l e R s m args below meth c H locs cells slots Q (F0 m pc ls (.int y :: .int x :: rest)) := va_mmin C.1.1 C.1.2.1 (C.1.2.2.1.trans hl.symm) C.1.2.2.2.1 (C.1.2.2.2.2 _ g1) (C.1.2.2.2.2 _ kt_Lib_Math_min_name) (C.1.2.2.2.2 _ kz_J9) (C.1.2.2.2.2 _ kc_min) hF hL hc hs hdg k
theorem w_abs (C : Amb N X p s m args meth c cc nL own) (hl : ls.size = nL) {idx : Nat} (g1 : Cond.methodLink own idx Lib.Math.abs.name ∈ wsA) (hF : 1 ≤ R.frames) (hL : (rest.map fun v => v.category).sum + 13 ≤ R.locals) (hc : cells ≤ R.cells) (hs : slots ≤ R.slots) {x : Int32} (hdg : decode cc pc = .ok (.invokestatic idx, 3))
    (k : W p l e R s m args below meth c H locs cells slots Q (F0 m (pc + 3) ls (.int (abI x) :: rest))) : W p l e R s m args below meth c H locs cells slots Q (F0 m pc ls (.int x :: rest)) := va_mabs C.1.1 C.1.2.1 (C.1.2.2.1.trans hl.symm) C.1.2.2.2.1 (C.1.2.2.2.2 _ g1) (C.1.2.2.2.2 _ kt_Lib_Math_abs_name) (C.1.2.2.2.2 _ kz_J9) (C.1.2.2.2.2 _ kc_abs) hF hL hc hs hdg k
theorem w_cpyi (C : Amb N X p s m args meth c cc nL own) (hw : Wd E N X s.heap st H locs) (hl : ls.size = nL) {idx k0 k1 n0 n1 : Nat} (g1 : Cond.methodLink own idx arraycopyName ∈ wsA) (hk0 : k0 < N) (hk1 : k1 < N) (hE0 : E X k0 (gI st k0) (gL st k0) = .inl (xc X 1, n0, .inl (gI st k0))) (hE1 : ∀ f, E X k1 f (gL st k1) = .inl (xc X 1, n1, .inl f)) {sp dp n : Int32} (hck : cpB sp dp n n0 n1 = true) (hF : 1 ≤ R.frames) (hL : (rest.map fun v => v.category).sum + (nativeFrameWords "java/lang/System" "arraycopy" 5 + 11) ≤ R.locals) (hdg : decode cc pc = .ok (.invokestatic idx, 3))
    (kk : ∀ (H1 : Heap) (locs1 : List Loc), Wd E N X s.heap (sIs st k1 (va_cpy (gI st k0) (gI st k1) sp.toNatClampNeg dp.toNatClampNeg n.toNatClampNeg)) H1 locs1 → W p l e R s m args below meth c H1 locs1 cells slots Q (F0 m (pc + 3) ls rest)) : W p l e R s m args below meth c H locs cells slots Q (F0 m pc ls (.int n :: .int dp :: .ref (xq X k1) :: .int sp :: .ref (xq X k0) :: rest)) := by
  obtain ⟨h1, h2, h3, h4, h5⟩ := cpB_ok hck
  exact va_copyi C.1.1 C.1.2.1 (C.1.2.2.1.trans hl.symm) C.1.2.2.2.1 (C.1.2.2.2.2 _ g1) (C.1.2.2.2.2 _ knat) (C.1.2.2.2.2 _ kt_arraycopyName) (C.1.2.2.2.2 _ kz_J10) C.2.1 hw.1 hw.2.1 hw.2.2 k0 k1 1 1 (by rw [wcl_get hk0, hE0]) (by rw [wcl_get hk1, hE1]) rfl rfl rfl h1 h2 h3 h4 h5 (fun i hi => rfl) hF hL hdg (fun H1 locs1 hP1 hD1 hS1 => kk H1 locs1 (wd_set hk1 (by rw [gI_sIs, gL_sIs]; exact hE1 _) (sIs_o st k1 _) hP1 hD1 hS1))
theorem w_cpyl (C : Amb N X p s m args meth c cc nL own) (hw : Wd E N X s.heap st H locs) (hl : ls.size = nL) {idx k0 k1 n0 n1 : Nat} (g1 : Cond.methodLink own idx arraycopyName ∈ wsA) (hk0 : k0 < N) (hk1 : k1 < N) (hE0 : E X k0 (gI st k0) (gL st k0) = .inl (xc X 2, n0, .inr (.inl (gL st k0)))) (hE1 : ∀ f, E X k1 (gI st k1) f = .inl (xc X 2, n1, .inr (.inl f))) {sp dp n : Int32} (hck : cpB sp dp n n0 n1 = true) (hF : 1 ≤ R.frames) (hL : (rest.map fun v => v.category).sum + (nativeFrameWords "java/lang/System" "arraycopy" 5 + 11) ≤ R.locals) (hdg : decode cc pc = .ok (.invokestatic idx, 3))
    (kk : ∀ (H1 : Heap) (locs1 : List Loc), Wd E N X s.heap (sLs st k1 (va_cpy (gL st k0) (gL st k1) sp.toNatClampNeg dp.toNatClampNeg n.toNatClampNeg)) H1 locs1 → W p l e R s m args below meth c H1 locs1 cells slots Q (F0 m (pc + 3) ls rest)) : W p l e R s m args below meth c H locs cells slots Q (F0 m pc ls (.int n :: .int dp :: .ref (xq X k1) :: .int sp :: .ref (xq X k0) :: rest)) := by
  obtain ⟨h1, h2, h3, h4, h5⟩ := cpB_ok hck
  exact va_copyl C.1.1 C.1.2.1 (C.1.2.2.1.trans hl.symm) C.1.2.2.2.1 (C.1.2.2.2.2 _ g1) (C.1.2.2.2.2 _ knat) (C.1.2.2.2.2 _ kt_arraycopyName) (C.1.2.2.2.2 _ kz_J10) C.2.1 hw.1 hw.2.1 hw.2.2 k0 k1 2 2 (by rw [wcl_get hk0, hE0]) (by rw [wcl_get hk1, hE1]) rfl rfl rfl h1 h2 h3 h4 h5 (fun i hi => rfl) hF hL hdg (fun H1 locs1 hP1 hD1 hS1 => kk H1 locs1 (wd_set hk1 (by rw [gL_sLs, gI_sLs]; exact hE1 _) (sLs_o st k1 _) hP1 hD1 hS1))
theorem w_alen (C : Amb N X p s m args meth c cc nL own) (hw : Wd E N X s.heap st H locs) {k t : Nat} {x : vp_A} {ty : FieldType} {v : Int32} (hk : k < N) (hE : E X k (gI st k) (gL st k) = .inl (xc X t, x)) (ht : (xty X)[t]? = some (xc X t, ty)) (hv : Int32.ofNat x.1 = v) (hdg : decode cc pc = .ok (.arraylength, 1))
    (kk : W p l e R s m args below meth c H locs cells slots Q (F0 m (pc + 1) ls (.int v :: rest))) : W p l e R s m args below meth c H locs cells slots Q (F0 m pc ls (.ref (xq X k) :: rest)) :=
  va_alen C.1.1 C.1.2.1 C.2.1 hw.1 k t (by rw [wcl_get hk, hE]) ht hv hdg kk
end WR
theorem ne_toInt {x k : Int32} {a : Int} (h : ¬ x = k) (hk : k.toInt = a) : x.toInt ≠ a := fun q => h (Int32.toInt_inj.mp (by rw [q, hk]))
theorem inB_lt {i : Int32} {n : Nat} (h : inB i n = true) : i.toNatClampNeg < n := Nat.not_le.mp fun q => inB_in h (Or.inr q)
