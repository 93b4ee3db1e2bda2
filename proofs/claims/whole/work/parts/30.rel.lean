/-! PHASE B: what ties the class's state to the reference's. Numbers first. -/
theorem gI_sIx (st : St) (k i : Nat) (v : Int32) (a : Nat) : gI (sI st k i v) a = if a = k then upd (gI st k) i v else gI st a := by
  by_cases h : a = k
  · rw [if_pos h, h, gI_sI]
  · rw [if_neg h, (sI_o st k i v a h).1]
theorem gI_sIsx (st : St) (k : Nat) (f : Nat → Int32) (a : Nat) : gI (sIs st k f) a = if a = k then f else gI st a := rfl
theorem gL_sLx (st : St) (k i : Nat) (v : Int64) (a : Nat) : gL (sL st k i v) a = if a = k then vp_updL (gL st k) i v else gL st a := by
  by_cases h : a = k
  · rw [if_pos h, h, gL_sL]
  · rw [if_neg h, (sL_o st k i v a h).2]
theorem gL_sLsx (st : St) (k : Nat) (f : Nat → Int64) (a : Nat) : gL (sLs st k f) a = if a = k then f else gL st a := rfl
theorem upd_x (f : Nat → Int32) (i : Nat) (v : Int32) (j : Nat) : upd f i v j = if j = i then v else f j := rfl
theorem updL_x (f : Nat → Int64) (i : Nat) (v : Int64) (j : Nat) : vp_updL f i v j = if j = i then v else f j := rfl
theorem gd_true {α : Type} (x : Option α) : gd true x = x := rfl
theorem bnd_x {α β : Type} (e : α) (f : α → β) : bnd e f = f e := rfl
theorem bI_0 (b : Bool) : (bI b = 0) = (b = false) := by cases b <;> simp [bI]
theorem inB_t {i n : Nat} (h : i < n) (hn : n < 1000) : inB (nI i) n = true := inB_nI h (by omega)
theorem nIc {n : Nat} (h : n < 100000) : (nI n).toNatClampNeg = n := nI_clamp (by omega)
theorem nIlt {a b : Nat} (ha : a < 100000) (hb : b < 100000) : (nI a < nI b) = (a < b) := propext (nI_ltI (by omega) (by omega))
theorem nIle {a b : Nat} (ha : a < 100000) (hb : b < 100000) : (nI a ≤ nI b) = (a ≤ b) := propext (nI_leI (by omega) (by omega))
theorem nIeq {a b : Nat} (ha : a < 100000) (hb : b < 100000) : (nI a = nI b) = (a = b) := propext (nI_eq (by omega) (by omega))
/-- written numbers -/
theorem lit_nI (n : Nat) : (OfNat.ofNat n : Int32) = nI n := rfl
theorem nI_s1 (n : Nat) : nI (n + 1) - 1 = nI n := nI_pred n
theorem fa_nle {a b : Int32} (h : a < b) : ¬ b ≤ a := fun q => by
  have h1 := Int32.lt_iff_toInt_lt.mp h
  have h2 := Int32.le_iff_toInt_le.mp q
  omega
theorem fa_nlt {a b : Int32} (h : ¬ a < b) : b ≤ a := Int32.le_iff_toInt_le.mpr (by
  have h1 : ¬ a.toInt < b.toInt := fun q => h (Int32.lt_iff_toInt_lt.mpr q)
  omega)
theorem isW (v a b : Int32) : fX11_isWithin v a b = decide (a ≤ v ∧ v ≤ b) := by
  unfold fX11_isWithin
  by_cases h : v < a
  · rw [if_pos h, decide_eq_false]
    exact fun q => (fa_nle h) q.1
  · rw [if_neg h]
    by_cases h2 : b < v
    · rw [if_pos h2, decide_eq_false]
      exact fun q => (fa_nle h2) q.2
    · rw [if_neg h2, decide_eq_true ⟨fa_nlt h, fa_nlt h2⟩]
theorem isI (v a b : Int32) : fX12_in v a b = decide (a ≤ v ∧ v ≤ b) := isW v a b
/-- an int within 0 and m is a number -/
theorem in_nat {v m : Int32} {n : Nat} (hm : m = nI n) (hn : n < 100000) : (0 ≤ v ∧ v ≤ m) ↔ ∃ j : Nat, j ≤ n ∧ v = nI j := by
  constructor
  · intro h
    have h0 : ¬ v < 0 := fun q => (fa_nle q) h.1
    exact nI_of2 (M := m) (by rw [hm]; exact nI_toInt (by omega)) h0 h.2
  · rintro ⟨j, hj, rfl⟩
    exact ⟨nI_pos' (by omega), by rw [hm]; exact nI_le hj (by omega)⟩
/-! the law: tokens (kind, value): 1 a number, 2 a name, 3 !, 4 -, else a sign of two -/
abbrev Tk : Type := Nat × Int32
def sg (t : Tk) : Int32 := if t.1 = 1 then t.2 else if t.1 = 2 then -1 - t.2 else if t.1 = 3 then -17 else if t.1 = 4 then -18 else if t.1 = 124 then -7 else if t.1 = 38 then -8 else if t.1 = 60 then -9 else if t.1 = 61 then -10 else if t.1 = 62 then -11 else if t.1 = 43 then -12 else if t.1 = 45 then -13 else if t.1 = 42 then -14 else if t.1 = 47 then -15 else -16
def isOp (k : Nat) : Bool := k == 124 || k == 38 || k == 60 || k == 61 || k == 62 || k == 43 || k == 45 || k == 42 || k == 47 || k == 37
/-- tokens that lead from a stack of h to one of g -/
def vd : List Tk → Nat → Nat → Prop
  | [], h, g => h = g
  | t :: ts, h, g => if t.1 = 1 then (0 ≤ t.2 ∧ vd ts (h + 1) g) else if t.1 = 2 then ((∃ i : Nat, i < 6 ∧ t.2 = nI i) ∧ vd ts (h + 1) g) else if t.1 = 3 ∨ t.1 = 4 then (1 ≤ h ∧ vd ts h g) else (isOp t.1 = true ∧ 2 ≤ h ∧ vd ts (h - 1) g)
def toks (L : List (List Tk × List Tk)) : Nat := (L.map (fun q => q.1.length + q.2.length)).sum
/-- the reference's arrays hold the lines, from line l and step p on -/
def LM (d : St) : Nat → Nat → List (List Tk × List Tk) → Prop
  | l, _, [] => gI d 22 0 = nI l
  | l, p, (t, b) :: P => gI d 23 l = nI (p + t.length) ∧ gI d 24 l = nI (p + t.length + b.length) ∧ (∀ i (h : i < (t ++ b).length), gI d 20 (p + i) = nI ((t ++ b)[i].1) ∧ gI d 21 (p + i) = (t ++ b)[i].2) ∧ LM d (l + 1) (p + t.length + b.length) P
/-- a line as code -/
def lnC (q : List Tk × List Tk) : List Int32 := q.1.map sg ++ (if q.1 = [] then [] else [-19]) ++ q.2.map sg ++ [-20]
def LC (row : Nat → Int32) (len : Int32) (P : List (List Tk × List Tk)) : Prop := len = nI (P.flatMap lnC).length ∧ (P.flatMap lnC).length ≤ 121 ∧ ∀ i (h : i < (P.flatMap lnC).length), row i = (P.flatMap lnC)[i]
def okP (P : List (List Tk × List Tk)) : Prop := P ≠ [] ∧ P.length ≤ 61 ∧ toks P ≤ 121 ∧ ∀ q ∈ P, (q.1 = [] ∨ vd q.1 0 1) ∧ vd q.2 0 1
/-! the parts of the tie -/
def cs (w : Nat) : Nat := if w < 6 then 1 else if w < 10 then 2 else 3
def RLa (c d : St) : Prop := (∃ nf : Nat, nf ≤ 8 ∧ gI c 1 1 = nI nf ∧ gI d 0 1 = nI nf) ∧ (∃ nl : Nat, nl ≤ 10 ∧ gI c 1 2 = nI nl ∧ gI d 0 8 = nI nl) ∧ (∃ nc : Nat, nc ≤ 12 ∧ gI c 1 3 = nI nc ∧ gI d 0 13 = nI nc) ∧ ∀ w j : Nat, w < 14 → j < 13 → nI j < gI c 1 (cs w) → gI d (1 + w) j = gI c (3 + w) j ∧ tb tLEAST w ≤ gI c (3 + w) j ∧ gI c (3 + w) j ≤ tb tMOST w
def RC (c d : St) : Prop := ∃ nd nu : Nat, nd + nu ≤ 40 ∧ gI c 44 0 = nI nd ∧ gI d 0 18 = nI nd ∧ gI c 44 1 = nI nu ∧ gI d 0 19 = nI nu ∧ ∀ j : Nat, j < nd + nu → ∃ w m : Nat, w < 14 ∧ m < 13 ∧ nI m < gI c 1 (cs w) ∧ gI c 45 j = nI m ∧ gI d 16 j = nI m ∧ gI c 46 j = nI w ∧ gI d 15 j = nI w ∧ gI d 17 j = gI c 47 j ∧ gI d 18 j = gI c 48 j ∧ tb tLEAST w ≤ gI c 47 j ∧ gI c 47 j ≤ tb tMOST w ∧ tb tLEAST w ≤ gI c 48 j ∧ gI c 48 j ≤ tb tMOST w
/-- how many of the first n bits are set -/
def pop (F : Nat) : Nat → Nat
  | 0 => 0
  | n + 1 => pop F n + (if F.testBit n then 1 else 0)
def bit (F j : Nat) : Int32 := if F.testBit j then 1 else 0
/-- found ones, debts, what is led: of a Deeds cell k, against the reference's rows -/
def RDk (c d : St) (k kf ko kl : Nat) (nl : Int32) : Prop := (∃ F : Nat, F < 1024 ∧ gI c k 1 = nI F ∧ (∀ j, j < 10 → gI d kf j = bit F j) ∧ (∀ j, j < 10 → nl ≤ nI j → F.testBit j = false) ∧ gI d kl 0 = nI (pop F 10)) ∧ (∀ j, j < 36 → gI d ko j = gI c (k + 1) j) ∧ gI d kl 1 = gI c k 2 ∧ gI d kl 2 = gI c k 3 ∧ gI d kl 3 = gI c k 4
def RD (c d : St) : Prop := RDk c d 39 30 31 32 (gI c 1 2)
def RI (c d : St) : Prop := (gI c 0 10 = -1 ∧ gI d 0 44 = 0) ∨ (gI d 0 44 = 1 ∧ RDk c d 41 33 34 36 (gI c 1 2) ∧ ∃ k : Nat, k ≤ 8 ∧ nI k ≤ gI c 1 1 ∧ gI c 0 10 = nI k ∧ gI d 0 45 = nI k ∧ ∀ j, j < k → gI d 35 j = gI c 43 j ∧ -1 ≤ gI c 43 j ∧ gI c 43 j ≤ 5)
def RB (c d : St) : Prop := (∃ nb : Nat, nb ≤ 50 ∧ gI c 49 1 = nI nb ∧ gI d 0 50 = nI nb ∧ ∀ j, j < nb → ∃ k : Nat, k < 8 ∧ gI c 50 j = nI k ∧ gI d 37 j = nI k) ∧ (∃ nr : Nat, nr ≤ 1000 ∧ gI c 49 3 = nI nr ∧ gI d 0 52 = nI nr ∧ ∀ j, j < nr → j < 24 → gI d 38 j = gI c 51 j)
/-- a shelf: nothing, a body, a row -/
def RSi (c d : St) (i : Nat) : Prop := (gI c (53 + 2 * i) 0 = 0 ∧ gI d 39 i = -1) ∨ (gI c (53 + 2 * i) 0 = 1 ∧ ∃ b : Nat, b < 50 ∧ nI b < gI c 49 1 ∧ gI c (53 + 2 * i) 1 = nI b ∧ gI d 39 i = nI b) ∨ (gI c (53 + 2 * i) 0 = 2 ∧ ∃ so n : Nat, so < 5 ∧ n ≤ 60 ∧ gI c (53 + 2 * i) 2 = nI so ∧ gI d 39 i = -2 - nI so ∧ gI c (53 + 2 * i) 3 = nI n ∧ gI d 40 i = nI n ∧ (so = 0 → ∀ j, j < 60 → -128 ≤ gL c (54 + 2 * i) j ∧ gL c (54 + 2 * i) j ≤ 127) ∧ (so = 1 → ∀ j, j < 60 → -32768 ≤ gL c (54 + 2 * i) j ∧ gL c (54 + 2 * i) j ≤ 32767))
def RS (c d : St) : Prop := ∀ i, i < 6 → RSi c d i ∧ ∀ j, j < 60 → gL d 41 (60 * i + j) = gL c (54 + 2 * i) j
def RT (c d : St) : Prop := ∃ nt : Nat, nt ≤ 120 ∧ gI c 21 1 = nI nt ∧ gI d 0 25 = nI nt ∧ ∀ j, j < nt → ∃ b : Nat, b < 256 ∧ gI c 22 j = nI b ∧ gI d 19 j = (nI b).toInt8.toInt32
def RW (c d : St) : Prop := ((gI c 17 0 = 18 ∧ gI c 21 3 = 23) ∨ (gI c 17 0 = 23 ∧ gI c 21 3 = 18)) ∧ ((gI d 0 37 = 0 ∧ gI c 17 1 = 0) ∨ (gI d 0 37 = 1 ∧ ∃ P : List (List Tk × List Tk), okP P ∧ LM d 0 0 P ∧ LC (gI c (gI c 17 0).toNatClampNeg) (gI c 17 1) P))
def Rel (c d : St) : Prop := RLa c d ∧ RC c d ∧ RD c d ∧ RI c d ∧ RB c d ∧ RS c d ∧ RT c d ∧ RW c d
