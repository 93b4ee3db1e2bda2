/-! VIEWS: what the queries look at: how many, the numbers, the law. -/
abbrev LwP : Type := Option (List (List Tk × List Tk))
def ct (nf nl nc w : Nat) : Nat := if w < 6 then nf else if w < 10 then nl else nc
def WC (c : St) : LwP → Prop
  | none => gI c 17 1 = 0
  | some P => okP P ∧ LC (gI c (gI c 17 0).toNatClampNeg) (gI c 17 1) P
def WD (d : St) : LwP → Prop
  | none => gI d 0 37 = 0
  | some P => gI d 0 37 = 1 ∧ okP P ∧ LM d 0 0 P
def VC (c : St) (nf nl nc : Nat) (V : Nat → Nat → Int32) (P : LwP) : Prop := gI c 1 1 = nI nf ∧ gI c 1 2 = nI nl ∧ gI c 1 3 = nI nc ∧ (∀ w j, w < 14 → j < 13 → gI c (3 + w) j = V w j) ∧ (gI c 17 0 = 18 ∨ gI c 17 0 = 23) ∧ WC c P
def VD (d : St) (nf nl nc : Nat) (V : Nat → Nat → Int32) (P : LwP) : Prop := gI d 0 1 = nI nf ∧ gI d 0 8 = nI nl ∧ gI d 0 13 = nI nc ∧ (∀ w j, w < 14 → j < ct nf nl nc w → gI d (1 + w) j = V w j) ∧ WD d P
def VB (nf nl nc : Nat) (V : Nat → Nat → Int32) : Prop := nf ≤ 8 ∧ nl ≤ 10 ∧ nc ≤ 12 ∧ ∀ w j, w < 14 → j < ct nf nl nc w → tb tLEAST w ≤ V w j ∧ V w j ≤ tb tMOST w
theorem views {c d : St} (h : Rel c d) : ∃ nf nl nc P, VC c nf nl nc (fun w j => gI c (3 + w) j) P ∧ VD d nf nl nc (fun w j => gI c (3 + w) j) P ∧ VB nf nl nc (fun w j => gI c (3 + w) j) := by
  obtain ⟨⟨⟨nf, f1, f2, f3⟩, ⟨nl, l1, l2, l3⟩, ⟨nc, c1, c2, c3⟩, hv⟩, -, -, -, -, -, -, hw1, hw2⟩ := h
  have hct : ∀ w j, w < 14 → j < ct nf nl nc w → nI j < gI c 1 (cs w) := fun w j hw hj => by
    unfold cs
    unfold ct at hj
    by_cases h6 : w < 6
    · rw [if_pos h6] at hj ⊢
      rw [f2, nIlt (by omega) (by omega)]
      exact hj
    · rw [if_neg h6] at hj ⊢
      by_cases h10 : w < 10
      · rw [if_pos h10] at hj ⊢
        rw [l2, nIlt (by omega) (by omega)]
        exact hj
      · rw [if_neg h10] at hj ⊢
        rw [c2, nIlt (by omega) (by omega)]
        exact hj
  have hj13 : ∀ w j, j < ct nf nl nc w → j < 13 := fun w j hj => by
    unfold ct at hj
    split at hj
    · omega
    · split at hj <;> omega
  have h17 : gI c 17 0 = 18 ∨ gI c 17 0 = 23 := by
    rcases hw1 with q | q
    · exact Or.inl q.1
    · exact Or.inr q.1
  rcases hw2 with ⟨q1, q2⟩ | ⟨q1, P, q2, q3, q4⟩
  · exact ⟨nf, nl, nc, none, ⟨f2, l2, c2, fun _ _ _ _ => rfl, h17, q2⟩, ⟨f3, l3, c3, fun w j hw hj => (hv w j hw (hj13 w j hj) (hct w j hw hj)).1, q1⟩, f1, l1, c1, fun w j hw hj => (hv w j hw (hj13 w j hj) (hct w j hw hj)).2⟩
  · exact ⟨nf, nl, nc, some P, ⟨f2, l2, c2, fun _ _ _ _ => rfl, h17, q2, q4⟩, ⟨f3, l3, c3, fun w j hw hj => (hv w j hw (hj13 w j hj) (hct w j hw hj)).1, q1, q2, q3⟩, f1, l1, c1, fun w j hw hj => (hv w j hw (hj13 w j hj) (hct w j hw hj)).2⟩
/-- numbers that are not below 0 -/
theorem vb_nat {nf nl nc : Nat} {V : Nat → Nat → Int32} (hb : VB nf nl nc V) (w j a b : Nat) (hw : w < 14) (hj : j < ct nf nl nc w) (ha : tb tLEAST w = nI a) (hb2 : tb tMOST w = nI b) (hb3 : b < 100000) (hab : a ≤ b) : ∃ x : Nat, V w j = nI x ∧ a ≤ x ∧ x ≤ b := by
  obtain ⟨h1, h2⟩ := hb.2.2.2 w j hw hj
  rw [ha] at h1
  rw [hb2] at h2
  have h0 : (0 : Int32) ≤ V w j := i32_lele (nI_pos' (by omega)) h1
  obtain ⟨x, hx, e⟩ := (in_nat (v := V w j) (n := b) rfl (by omega)).mp ⟨h0, h2⟩
  rw [e, nIle (by omega) (by omega)] at h1
  exact ⟨x, e, h1, hx⟩
theorem sub_lt0 {x a : Nat} (hx : x < 100000) (ha : a < 100000) : nI x - nI a < 0 ↔ x < a := by
  have e := pk_sub_toInt (a := x) (b := a) (by omega) (by omega)
  rw [Int32.lt_iff_toInt_lt, e]
  have e0 : (0 : Int32).toInt = 0 := rfl
  omega
theorem sub_ge {x a w : Nat} (hx : x < 100000) (ha : a < 100000) (hw : w < 100000) : nI w ≤ nI x - nI a ↔ a + w ≤ x := by
  have e := pk_sub_toInt (a := x) (b := a) (by omega) (by omega)
  rw [Int32.le_iff_toInt_le, e, nI_toInt (by omega)]
  omega
/-- whether a field has a cell -/
def hitV (V : Nat → Nat → Int32) (f x y : Nat) : Bool := decide ((V 0 f).toNatClampNeg ≤ x ∧ x < (V 0 f).toNatClampNeg + (V 2 f).toNatClampNeg ∧ (V 1 f).toNatClampNeg ≤ y ∧ y < (V 1 f).toNatClampNeg + (V 3 f).toNatClampNeg)
def fldV (V : Nat → Nat → Int32) (x y : Nat) : Nat → Nat → Option Nat
  | 0, _ => none
  | m + 1, f => if hitV V f x y = true then some f else fldV V x y m (f + 1)
def fR (z : Int32) : Option Nat → Int32
  | none => z
  | some g => nI g
theorem fldV_lt {V : Nat → Nat → Int32} {x y : Nat} : ∀ (m f g : Nat), fldV V x y m f = some g → g < f + m ∧ f ≤ g ∧ hitV V g x y = true := by
  intro m
  induction m with
  | zero => intro f g h; cases h
  | succ m ih =>
    intro f g h
    rw [fldV] at h
    by_cases q : hitV V f x y = true
    · rw [if_pos q] at h
      cases h
      exact ⟨by omega, by omega, q⟩
    · rw [if_neg q] at h
      have := ih (f + 1) g h
      exact ⟨by omega, by omega, this.2.2⟩
theorem c_fieldAt2 (n : Nat) {c : St} {nf nl nc : Nat} {V : Nat → Nat → Int32} {P : LwP} (hv : VC c nf nl nc V P) (hb : VB nf nl nc V) {x y : Nat} (hx : x < 20) (hy : y < 20) : ∀ (m f k : Nat), f + m = nf → m < k → fX3_fieldAt_2 n c k (nI x) (nI y) (nI f) = some (fR (-1) (fldV V x y m f)) := by
  have h8 := hb.1
  intro m
  induction m with
  | zero =>
    intro f k hf hk
    obtain ⟨k, rfl⟩ : ∃ k', k = k' + 1 := ⟨k - 1, by omega⟩
    rw [fX3_fieldAt_2, hv.1, if_pos (nI_le (by omega) (by omega))]
    rfl
  | succ m ih =>
    intro f k hf hk
    obtain ⟨k, rfl⟩ : ∃ k', k = k' + 1 := ⟨k - 1, by omega⟩
    obtain ⟨p, p1, p2, p3⟩ := vb_nat hb 0 f 0 19 (by omega) (by unfold ct; rw [if_pos (by omega)]; omega) rfl rfl (by omega) (by omega)
    obtain ⟨q, q1, q2, q3⟩ := vb_nat hb 1 f 0 19 (by omega) (by unfold ct; rw [if_pos (by omega)]; omega) rfl rfl (by omega) (by omega)
    obtain ⟨r, r1, r2, r3⟩ := vb_nat hb 2 f 1 20 (by omega) (by unfold ct; rw [if_pos (by omega)]; omega) rfl rfl (by omega) (by omega)
    obtain ⟨s, s1, s2, s3⟩ := vb_nat hb 3 f 1 20 (by omega) (by unfold ct; rw [if_pos (by omega)]; omega) rfl rfl (by omega) (by omega)
    rw [fX3_fieldAt_2, hv.1, if_neg (nI_ge (by omega) (by omega)), fldV]
    simp only [inB_t (show f < 13 by omega) (by omega), gd_true, bnd_x, nIc (show f < 100000 by omega), hv.2.2.2.1 0 f (by omega) (by omega), hv.2.2.2.1 1 f (by omega) (by omega), hv.2.2.2.1 2 f (by omega) (by omega), hv.2.2.2.1 3 f (by omega) (by omega), p1, q1, r1, s1, nI_1, ih (f + 1) k (by omega) (by omega)]
    have hit : hitV V f x y = decide (p ≤ x ∧ x < p + r ∧ q ≤ y ∧ y < q + s) := by
      unfold hitV
      rw [p1, q1, r1, s1, nIc (by omega), nIc (by omega), nIc (by omega), nIc (by omega)]
    rw [hit]
    by_cases z1 : p ≤ x
    · rw [if_neg (fun e => by rw [sub_lt0 (by omega) (by omega)] at e; omega)]
      by_cases z2 : x < p + r
      · rw [if_neg (fun e => by rw [sub_ge (by omega) (by omega) (by omega)] at e; omega)]
        by_cases z3 : q ≤ y
        · rw [if_neg (fun e => by rw [sub_lt0 (by omega) (by omega)] at e; omega)]
          by_cases z4 : y < q + s
          · rw [if_neg (fun e => by rw [sub_ge (by omega) (by omega) (by omega)] at e; omega), if_pos (decide_eq_true ⟨z1, z2, z3, z4⟩)]
            rfl
          · rw [if_pos ((sub_ge (by omega) (by omega) (by omega)).mpr (by omega)), if_neg (by rw [decide_eq_true_eq]; omega)]
        · rw [if_pos ((sub_lt0 (by omega) (by omega)).mpr (by omega)), if_neg (by rw [decide_eq_true_eq]; omega)]
      · rw [if_pos ((sub_ge (by omega) (by omega) (by omega)).mpr (by omega)), if_neg (by rw [decide_eq_true_eq]; omega)]
    · rw [if_pos ((sub_lt0 (by omega) (by omega)).mpr (by omega)), if_neg (by rw [decide_eq_true_eq]; omega)]
theorem d_fieldAt2 (n : Nat) {d : St} {nf nl nc : Nat} {V : Nat → Nat → Int32} {P : LwP} (hv : VD d nf nl nc V P) (hb : VB nf nl nc V) {x y : Nat} (hx : x < 20) (hy : y < 20) : ∀ (m f k : Nat), f + m = nf → m < k → fX12_fieldAt_2 n d k (nI x) (nI y) (nI f) = some (fR (-2) (fldV V x y m f)) := by
  have h8 := hb.1
  intro m
  induction m with
  | zero =>
    intro f k hf hk
    obtain ⟨k, rfl⟩ : ∃ k', k = k' + 1 := ⟨k - 1, by omega⟩
    rw [fX12_fieldAt_2, hv.1, if_pos (nI_le (by omega) (by omega))]
    rfl
  | succ m ih =>
    intro f k hf hk
    obtain ⟨k, rfl⟩ : ∃ k', k = k' + 1 := ⟨k - 1, by omega⟩
    have hct : ∀ w, w < 6 → f < ct nf nl nc w := fun w hw => by unfold ct; rw [if_pos hw]; omega
    obtain ⟨p, p1, p2, p3⟩ := vb_nat hb 0 f 0 19 (by omega) (hct 0 (by omega)) rfl rfl (by omega) (by omega)
    obtain ⟨q, q1, q2, q3⟩ := vb_nat hb 1 f 0 19 (by omega) (hct 1 (by omega)) rfl rfl (by omega) (by omega)
    obtain ⟨r, r1, r2, r3⟩ := vb_nat hb 2 f 1 20 (by omega) (hct 2 (by omega)) rfl rfl (by omega) (by omega)
    obtain ⟨s, s1, s2, s3⟩ := vb_nat hb 3 f 1 20 (by omega) (hct 3 (by omega)) rfl rfl (by omega) (by omega)
    rw [fX12_fieldAt_2, hv.1, if_neg (nI_ge (by omega) (by omega)), fldV]
    unfold fX12_isIn
    simp only [inB_t (show f < 8 by omega) (by omega), gd_true, bnd_x, nIc (show f < 100000 by omega), nI_1, ih (f + 1) k (by omega) (by omega)]
    rw [show gI d 1 f = nI p from (hv.2.2.2.1 0 f (by omega) (hct 0 (by omega))).trans p1, show gI d 2 f = nI q from (hv.2.2.2.1 1 f (by omega) (hct 1 (by omega))).trans q1, show gI d 3 f = nI r from (hv.2.2.2.1 2 f (by omega) (hct 2 (by omega))).trans r1, show gI d 4 f = nI s from (hv.2.2.2.1 3 f (by omega) (hct 3 (by omega))).trans s1, nI_add, nI_add]
    have hit : hitV V f x y = decide (p ≤ x ∧ x < p + r ∧ q ≤ y ∧ y < q + s) := by
      unfold hitV
      rw [p1, q1, r1, s1, nIc (by omega), nIc (by omega), nIc (by omega), nIc (by omega)]
    rw [hit]
    by_cases z1 : p ≤ x
    · rw [if_neg (nI_nlt z1 (by omega))]
      by_cases z2 : x < p + r
      · rw [if_neg (nI_ge z2 (by omega))]
        by_cases z3 : q ≤ y
        · rw [if_neg (nI_nlt z3 (by omega))]
          by_cases z4 : y < q + s
          · rw [if_neg (nI_ge z4 (by omega)), if_pos (decide_eq_true ⟨z1, z2, z3, z4⟩)]
            rfl
          · rw [if_pos (nI_le (by omega) (by omega)), if_neg (by rw [decide_eq_true_eq]; omega)]
            rfl
        · rw [if_pos (nI_lt (by omega) (by omega)), if_neg (by rw [decide_eq_true_eq]; omega)]
          rfl
      · rw [if_pos (nI_le (by omega) (by omega)), if_neg (by rw [decide_eq_true_eq]; omega)]
        rfl
    · rw [if_pos (nI_lt (by omega) (by omega)), if_neg (by rw [decide_eq_true_eq]; omega)]
      rfl
theorem c_fieldAt {n : Nat} (hn : 5000 < n) {c : St} {nf nl nc : Nat} {V : Nat → Nat → Int32} {P : LwP} (hv : VC c nf nl nc V P) (hb : VB nf nl nc V) {x y : Nat} (hx : x < 20) (hy : y < 20) : fX3_fieldAt n c (nI x) (nI y) = some (fR (-1) (fldV V x y nf 0)) :=
  c_fieldAt2 n hv hb hx hy nf 0 n (by omega) (by have := hb.1; omega)
theorem d_fieldAt {n : Nat} (hn : 5000 < n) {d : St} {nf nl nc : Nat} {V : Nat → Nat → Int32} {P : LwP} (hv : VD d nf nl nc V P) (hb : VB nf nl nc V) {x y : Nat} (hx : x < 20) (hy : y < 20) : fX12_fieldAt n d (nI x) (nI y) = some (fR (-2) (fldV V x y nf 0)) :=
  d_fieldAt2 n hv hb hx hy nf 0 n (by omega) (by have := hb.1; omega)
theorem s_at {n : Nat} (hn : 5000 < n) : S_at Rel n := by
  intro c d a1 h
  obtain ⟨nf, nl, nc, P, hc, hd, hb⟩ := views h
  unfold fX11_at fX12_at
  rw [show fX12_in a1 0 399 = fX11_isCell a1 from rfl]
  simp only [if_bI]
  cases h1 : fX11_isCell a1 with
  | false => exact ⟨_, _, _, ⟨rfl, rfl⟩, ⟨rfl, rfl⟩, h⟩
  | true =>
  obtain ⟨k, hk, rfl⟩ := cell_in h1
  simp only [cond_true]
  rw [show rmI (nI k) 20 = nI (k % 20) from rm_nI (a := k) (d := 20) (by omega) (by omega) (by omega), show nI k / 20 = nI (k / 20) from dv_nI (a := k) (d := 20) (by omega) (by omega) (by omega), c_fieldAt hn hc hb (by omega) (by omega), d_fieldAt hn hd hb (by omega) (by omega)]
  cases hf : fldV (fun w j => gI c (3 + w) j) (k % 20) (k / 20) nf 0 with
  | none => exact ⟨_, _, _, ⟨rfl, rfl⟩, ⟨rfl, rfl⟩, h⟩
  | some g =>
    have := fldV_lt nf 0 g hf
    have h8 := hb.1
    refine ⟨nI g, _, _, ⟨?_, rfl⟩, ⟨rfl, rfl⟩, h⟩
    show (if 0 ≤ nI g then some (nI g) else some (-2)) = some (nI g)
    rw [if_pos (nI_pos' (by omega))]
/-- whose field a cell is -/
def ownV (V : Nat → Nat → Int32) (nf x y : Nat) : Int32 := match fldV V x y nf 0 with
  | none => -1
  | some g => V 4 g
theorem own_rng {nf nl nc : Nat} {V : Nat → Nat → Int32} (hb : VB nf nl nc V) (g : Nat) (hg : g < nf) : V 4 g = -1 ∨ ∃ o : Nat, o < 6 ∧ V 4 g = nI o := by
  obtain ⟨h1, h2⟩ := hb.2.2.2 4 g (by omega) (by unfold ct; rw [if_pos (by omega)]; exact hg)
  by_cases h0 : (0 : Int32) ≤ V 4 g
  · obtain ⟨o, ho, e⟩ := (in_nat (v := V 4 g) (n := 5) rfl (by omega)).mp ⟨h0, h2⟩
    exact Or.inr ⟨o, by omega, e⟩
  · left
    have q1 : (-1 : Int32) ≤ V 4 g := h1
    have e1 : (-1 : Int32).toInt = -1 := rfl
    have e0 : (0 : Int32).toInt = 0 := rfl
    have q2 := Int32.le_iff_toInt_le.mp q1
    have q3 : ¬ (0 : Int32).toInt ≤ (V 4 g).toInt := fun q => h0 (Int32.le_iff_toInt_le.mpr q)
    exact Int32.toInt_inj.mp (by omega)
theorem ownV_rng {nf nl nc : Nat} {V : Nat → Nat → Int32} (hb : VB nf nl nc V) (x y : Nat) : ownV V nf x y = -1 ∨ ∃ o : Nat, o < 6 ∧ ownV V nf x y = nI o := by
  unfold ownV
  cases hf : fldV V x y nf 0 with
  | none => exact Or.inl rfl
  | some g => exact own_rng hb g (by have := fldV_lt nf 0 g hf; omega)
/-- the finder as the reference has it -/
def fnd (o : Int32) : Int32 := if 0 ≤ o then o else -2
theorem c_owner {c : St} {nf nl nc : Nat} {V : Nat → Nat → Int32} {P : LwP} (hv : VC c nf nl nc V P) (hb : VB nf nl nc V) (x y : Nat) : fX3_ownerOf c (fR (-1) (fldV V x y nf 0)) = some (ownV V nf x y) := by
  unfold fX3_ownerOf ownV
  have h8 := hb.1
  cases hf : fldV V x y nf 0 with
  | none => rfl
  | some g =>
    have := fldV_lt nf 0 g hf
    show (if 0 ≤ nI g then gd (inB (nI g) 13) (some (gI c 7 (nI g).toNatClampNeg)) else some (-1)) = some (V 4 g)
    rw [if_pos (nI_pos' (by omega)), inB_t (by omega) (by omega), gd_true, nIc (by omega), hv.2.2.2.1 4 g (by omega) (by omega)]
theorem d_finder {n : Nat} (hn : 5000 < n) {d : St} {nf nl nc : Nat} {V : Nat → Nat → Int32} {P : LwP} (hv : VD d nf nl nc V P) (hb : VB nf nl nc V) {j x y : Nat} (hj : j < 11) (hx : x < 20) (hy : y < 20) (h7 : gI d 7 j = nI x) (h9 : gI d 8 j = nI y) : fX12_finder n d (nI j) = some (fnd (ownV V nf x y)) := by
  unfold fX12_finder
  have h8 := hb.1
  simp only [inB_t hj (by omega), gd_true, nIc (show j < 100000 by omega), h7, h9, d_fieldAt hn hv hb hx hy]
  unfold ownV
  cases hf : fldV V x y nf 0 with
  | none => rfl
  | some g =>
    have hg := fldV_lt nf 0 g hf
    show (if nI g < 0 then some (-2) else gd (inB (nI g) 8) (if 0 ≤ gI d 5 (nI g).toNatClampNeg then gd (inB (nI g) 8) (some (gI d 5 (nI g).toNatClampNeg)) else some (-2))) = some (fnd (V 4 g))
    rw [if_neg (nI_pos (by omega)), inB_t (by omega) (by omega), gd_true, gd_true, nIc (by omega), show gI d 5 g = V 4 g from hv.2.2.2.1 4 g (by omega) (by unfold ct; rw [if_pos (by omega)]; omega)]
    unfold fnd
    split <;> rfl
/-! only scratch changes -/
def Qc (c c' : St) : Prop := (∀ k, ¬ (k = 19 ∨ k = 20 ∨ (24 ≤ k ∧ k ≤ 38)) → gI c' k = gI c k) ∧ ∀ k, gL c' k = gL c k
def Qd (d d' : St) : Prop := (∀ k, ¬ (25 ≤ k ∧ k ≤ 29) → gI d' k = gI d k) ∧ ∀ k, gL d' k = gL d k
theorem Qc_rf (c : St) : Qc c c := ⟨fun _ _ => rfl, fun _ => rfl⟩
theorem Qd_rf (d : St) : Qd d d := ⟨fun _ _ => rfl, fun _ => rfl⟩
theorem Qc_tr {a b c : St} (h1 : Qc a b) (h2 : Qc b c) : Qc a c := ⟨fun k h => (h2.1 k h).trans (h1.1 k h), fun k => (h2.2 k).trans (h1.2 k)⟩
theorem Qd_tr {a b c : St} (h1 : Qd a b) (h2 : Qd b c) : Qd a c := ⟨fun k h => (h2.1 k h).trans (h1.1 k h), fun k => (h2.2 k).trans (h1.2 k)⟩
theorem Qc_sI (c : St) (k i : Nat) (v : Int32) (hk : k = 19 ∨ k = 20 ∨ (24 ≤ k ∧ k ≤ 38)) : Qc c (sI c k i v) := ⟨fun a h => by rw [gI_sIx, if_neg (fun e => h (by rw [e]; exact hk))], fun _ => rfl⟩
theorem Qd_sI (d : St) (k i : Nat) (v : Int32) (hk : 25 ≤ k ∧ k ≤ 29) : Qd d (sI d k i v) := ⟨fun a h => by rw [gI_sIx, if_neg (fun e => h (by rw [e]; exact hk))], fun _ => rfl⟩
theorem Qc_sIs (c : St) (k : Nat) (f : Nat → Int32) (hk : k = 19 ∨ k = 20 ∨ (24 ≤ k ∧ k ≤ 38)) : Qc c (sIs c k f) := ⟨fun a h => by rw [gI_sIsx, if_neg (fun e => h (by rw [e]; exact hk))], fun _ => rfl⟩
theorem Rel_Q {c c' d d' : St} (h : Rel c d) (hc : Qc c c') (hd : Qd d d') : Rel c' d' := by
  refine Rel_fr h (fun k i q => ?_) (fun k i q => ?_) (fun k _ _ => hc.2 k) (hd.2 41)
  · rw [hc.1 k (by unfold fAc fLc fpL fCc fDc fIc fBc fSc fTc fWc at q; omega)]
  · rw [hd.1 k (by unfold fAd fLd fpL fCd fDd fId fBd fSd fTd fWd at q; omega)]
theorem LC_fr {c c' : St} {P : List (List Tk × List Tk)} (h : LC (gI c (gI c 17 0).toNatClampNeg) (gI c 17 1) P) (hr : gI c 17 0 = 18 ∨ gI c 17 0 = 23) (h1 : gI c' 17 = gI c 17) (h2 : gI c' 18 = gI c 18) (h3 : gI c' 23 = gI c 23) : LC (gI c' (gI c' 17 0).toNatClampNeg) (gI c' 17 1) P := by
  rw [h1]
  rcases hr with e | e
  · rw [e] at h ⊢
    rw [show (18 : Int32).toNatClampNeg = 18 by decide] at h ⊢
    rw [h2]; exact h
  · rw [e] at h ⊢
    rw [show (23 : Int32).toNatClampNeg = 23 by decide] at h ⊢
    rw [h3]; exact h
/-- a view stays if its cells do -/
theorem VC_fr {c c' : St} {nf nl nc : Nat} {V V' : Nat → Nat → Int32} {P : LwP} (h : VC c nf nl nc V P) (h0 : gI c' 1 = gI c 1) (h1 : gI c' 17 = gI c 17) (h2 : gI c' 18 = gI c 18) (h3 : gI c' 23 = gI c 23) (h4 : ∀ w j, w < 14 → j < 13 → gI c' (3 + w) j = V' w j) : VC c' nf nl nc V' P := by
  obtain ⟨a1, a2, a3, a4, a5, a6⟩ := h
  refine ⟨by rw [h0, a1], by rw [h0, a2], by rw [h0, a3], h4, by rw [h1]; exact a5, ?_⟩
  cases P with
  | none => show gI c' 17 1 = 0; rw [h1]; exact a6
  | some P => exact ⟨a6.1, LC_fr a6.2 a5 h1 h2 h3⟩
theorem VC_Q {c c' : St} {nf nl nc : Nat} {V : Nat → Nat → Int32} {P : LwP} (h : VC c nf nl nc V P) (q : Qc c c') : VC c' nf nl nc V P :=
  VC_fr h (q.1 1 (by omega)) (q.1 17 (by omega)) (q.1 18 (by omega)) (q.1 23 (by omega)) (fun w j hw hj => by rw [q.1 (3 + w) (by omega)]; exact h.2.2.2.1 w j hw hj)
theorem LM_eq {d d' : St} (h20 : gI d' 20 = gI d 20) (h21 : gI d' 21 = gI d 21) (h22 : gI d' 22 = gI d 22) (h23 : gI d' 23 = gI d 23) (h24 : gI d' 24 = gI d 24) : ∀ (P : List (List Tk × List Tk)) (l p : Nat), LM d l p P → LM d' l p P := by
  intro P
  induction P with
  | nil => intro l p h; show gI d' 22 0 = nI l; rw [h22]; exact h
  | cons q P ih =>
    intro l p h
    obtain ⟨t, b⟩ := q
    obtain ⟨h1, h2, h3, h4⟩ := h
    exact ⟨by rw [h23, h1], by rw [h24, h2], fun i hi => by rw [h20, h21]; exact h3 i hi, ih _ _ h4⟩
theorem VD_fr {d d' : St} {nf nl nc : Nat} {V V' : Nat → Nat → Int32} {P : LwP} (h : VD d nf nl nc V P) (h0 : gI d' 0 = gI d 0) (h20 : gI d' 20 = gI d 20) (h21 : gI d' 21 = gI d 21) (h22 : gI d' 22 = gI d 22) (h23 : gI d' 23 = gI d 23) (h24 : gI d' 24 = gI d 24) (h4 : ∀ w j, w < 14 → j < ct nf nl nc w → gI d' (1 + w) j = V' w j) : VD d' nf nl nc V' P := by
  obtain ⟨a1, a2, a3, a4, a5⟩ := h
  refine ⟨by rw [h0, a1], by rw [h0, a2], by rw [h0, a3], h4, ?_⟩
  cases P with
  | none => show gI d' 0 37 = 0; rw [h0]; exact a5
  | some P => exact ⟨by rw [h0]; exact a5.1, a5.2.1, LM_eq h20 h21 h22 h23 h24 P 0 0 a5.2.2⟩
theorem VD_Q {d d' : St} {nf nl nc : Nat} {V : Nat → Nat → Int32} {P : LwP} (h : VD d nf nl nc V P) (q : Qd d d') : VD d' nf nl nc V P :=
  VD_fr h (q.1 0 (by omega)) (q.1 20 (by omega)) (q.1 21 (by omega)) (q.1 22 (by omega)) (q.1 23 (by omega)) (q.1 24 (by omega)) (fun w j hw hj => by rw [q.1 (1 + w) (by omega)]; exact h.2.2.2.1 w j hw hj)
