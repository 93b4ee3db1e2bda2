/-! sight: all who saw it -/
def vS (E : Nat → Int32) (j : Nat) : Bool := vw (E (4 * j)) (E (4 * j + 1)) (E (4 * j + 2)) (E (4 * j + 3))
def onS (E : Nat → Int32) (xy j : Nat) : Bool := onl (lx (E (4 * j)) (E (4 * j + 2))) (lx (E (4 * j + 1)) (E (4 * j + 3))) xy 20 0
def allV (E : Nat → Int32) : Nat → Nat → Bool
  | 0, _ => true
  | r + 1, j => vS E j && allV E r (j + 1)
def allO (E : Nat → Int32) (xy : Nat) : Nat → Nat → Bool
  | 0, _ => true
  | r + 1, j => onS E xy j && allO E xy r (j + 1)
def cntO (E : Nat → Int32) (xy : Nat) : Nat → Nat → Nat
  | 0, _ => 0
  | r + 1, j => (if onS E xy j = true then 1 else 0) + cntO E xy r (j + 1)
theorem cntO_le (E : Nat → Int32) (xy : Nat) : ∀ r j, cntO E xy r j ≤ r := by
  intro r
  induction r with
  | zero => intro j; exact Nat.le_refl 0
  | succ r ih =>
    intro j
    rw [cntO]
    have := ih (j + 1)
    split <;> omega
theorem cntO_eq (E : Nat → Int32) (xy : Nat) : ∀ r j, cntO E xy r j = r ↔ allO E xy r j = true := by
  intro r
  induction r with
  | zero => intro j; exact ⟨fun _ => rfl, fun _ => rfl⟩
  | succ r ih =>
    intro j
    rw [cntO, allO]
    have h := ih (j + 1)
    have hl := cntO_le E xy r (j + 1)
    by_cases z : onS E xy j = true
    · rw [if_pos z, z, Bool.true_and, ← h]
      omega
    · rw [if_neg z, Bool.eq_false_iff.mpr z, Bool.false_and]
      exact ⟨fun q => by omega, fun q => by cases q⟩
theorem sub4_lt {ln m : Nat} (h1 : ln < 1000) (h2 : m < 1000) : (nI ln - 4 < nI m) ↔ ln < m + 4 := by
  have e := pk_sub_toInt (a := ln) (b := 4) (by omega) (by omega)
  rw [show (4 : Int32) = nI 4 from rfl, Int32.lt_iff_toInt_lt, e, nI_toInt (by omega)]
  omega
theorem F37_n {c c' : St} (h : F37 c c') : Qn c c' := ⟨fun k _ q _ => h.1 k q, h.2⟩
theorem F37_tr {a b c : St} (h1 : F37 a b) (h2 : F37 b c) : F37 a c := ⟨fun k q => (h2.1 k q).trans (h1.1 k q), fun k => (h2.2 k).trans (h1.2 k)⟩
theorem c_l24 {n : Nat} (hn : 5000 < n) {c0 d0 : St} {s ln R : Nat} (hR : rwE c0 d0 s ln) (hl : ln = 4 * R) : ∀ (r j k : Nat) (c : St), j + r = R → r < k → gI c (53 + 2 * s) = gI c0 (53 + 2 * s) → gL c (54 + 2 * s) = gL c0 (54 + 2 * s) → ∃ c', fX8_look_24 n k c s (nI (4 * j)) = (if allV (eR c0 s) r j = true then fX8_look_84 n n c' s 0 else some c') ∧ F37 c c' ∧ (allV (eR c0 s) r j = true → ∀ xy, xy < 400 → gI c' 37 xy = gI c 37 xy + nI (cntO (eR c0 s) xy r j)) := by
  have hl60 := hR.1
  intro r
  induction r with
  | zero =>
    intro j k c hj hk h53 h54
    obtain ⟨k, rfl⟩ : ∃ k', k = k' + 1 := ⟨k - 1, by omega⟩
    rw [fX8_look_24, h53, hR.2.1, if_pos ((sub4_lt (by omega) (by omega)).mpr (by omega)), allV]
    exact ⟨c, rfl, ⟨fun _ _ => rfl, fun _ => rfl⟩, fun _ xy _ => (Int32.add_zero _).symm⟩
  | succ r ih =>
    intro j k c hj hk h53 h54
    obtain ⟨k, rfl⟩ : ∃ k', k = k' + 1 := ⟨k - 1, by omega⟩
    rw [fX8_look_24, h53, h54, hR.2.1, if_neg (fun q => by have := (sub4_lt (by omega) (by omega)).mp q; omega)]
    simp only [nI_1, nk2, nk3, nk4, bnd_x]
    rw [inB_t (show 4 * j < 60 by omega) (by omega), inB_t (show 4 * j + 1 < 60 by omega) (by omega), inB_t (show 4 * j + 2 < 60 by omega) (by omega), inB_t (show 4 * j + 3 < 60 by omega) (by omega)]
    simp only [gd_true, nIc (show 4 * j < 100000 by omega), nIc (show 4 * j + 1 < 100000 by omega), nIc (show 4 * j + 2 < 100000 by omega), nIc (show 4 * j + 3 < 100000 by omega)]
    rw [allV]
    have hfo := c_follow hn (c := c) (eR c0 s (4 * j)) (eR c0 s (4 * j + 1)) (eR c0 s (4 * j + 2)) (eR c0 s (4 * j + 3))
    show ∃ c', ((fX8_follow n c (eR c0 s (4 * j)) (eR c0 s (4 * j + 1)) (eR c0 s (4 * j + 2)) (eR c0 s (4 * j + 3))).bind _) = _ ∧ _
    rcases hfo with ⟨f1, f2⟩ | ⟨f1, c1, f2, f3, f4⟩
    · have f1' : vS (eR c0 s) j = false := f1
      rw [f2, Option.bind_some, f1', Bool.false_and]
      exact ⟨c, rfl, ⟨fun _ _ => rfl, fun _ => rfl⟩, fun q => by cases q⟩
    · have f1' : vS (eR c0 s) j = true := f1
      rw [f2, Option.bind_some, f1', Bool.true_and]
      obtain ⟨c', u1, u2, u3⟩ := ih (j + 1) k c1 (by omega) (by omega) (by rw [f4.1 _ (by omega), h53]) (by rw [f4.2, h54])
      rw [show 4 * (j + 1) = 4 * j + 4 by omega] at u1
      refine ⟨c', u1, F37_tr f4 u2, fun q xy hxy => ?_⟩
      rw [u3 q xy hxy, f3 xy hxy, Int32.add_assoc, nI_add, cntO]
      rfl
theorem d_isSight {c d : St} {s ln j : Nat} (hs : s < 6) (hR : rwE c d s ln) (hj : 4 * j + 3 < ln) : fX12_isSight d (nI s) (nI (4 * j)) = some (vS (eR c s) j) := by
  have hl60 := hR.1
  unfold fX12_isSight
  simp only [nk2, nk3, nI_1]
  rw [inB_t hs (by omega), gd_true, nIc (by omega), hR.2.2.1, if_pos (nI_lt hj (by omega)), d_told hs hR (show 4 * j + 2 < 60 by omega), Option.bind_some, d_told hs hR (show 4 * j + 3 < 60 by omega), Option.bind_some, d_told hs hR (show 4 * j < 60 by omega), Option.bind_some, d_told hs hR (show 4 * j + 1 < 60 by omega), Option.bind_some, isI, isI, isI, isI]
  simp only [if_bI]
  unfold vS vw
  show cond (in19 (eR c s (4 * j))) (cond (in19 (eR c s (4 * j + 1))) (cond (in9 (eR c s (4 * j + 2))) (cond (in9 (eR c s (4 * j + 3))) _ _) _) _) _ = _
  by_cases w1 : eR c s (4 * j + 2) = 0
  · by_cases w2 : eR c s (4 * j + 3) = 0
    · rw [if_pos w1, if_pos w2, decide_eq_false (fun q => q w1), decide_eq_false (fun q => q w2)]
      cases in19 (eR c s (4 * j)) <;> cases in19 (eR c s (4 * j + 1)) <;> cases in9 (eR c s (4 * j + 2)) <;> cases in9 (eR c s (4 * j + 3)) <;> rfl
    · rw [if_pos w1, if_neg w2, decide_eq_true w2]
      cases in19 (eR c s (4 * j)) <;> cases in19 (eR c s (4 * j + 1)) <;> cases in9 (eR c s (4 * j + 2)) <;> cases in9 (eR c s (4 * j + 3)) <;> cases (decide (¬ eR c s (4 * j + 2) = 0)) <;> rfl
  · rw [if_neg w1, decide_eq_true w1]
    cases in19 (eR c s (4 * j)) <;> cases in19 (eR c s (4 * j + 1)) <;> cases in9 (eR c s (4 * j + 2)) <;> cases in9 (eR c s (4 * j + 3)) <;> rfl
theorem d_sights {n : Nat} {c d : St} {s ln R : Nat} (hs : s < 6) (hR : rwE c d s ln) (hl : ln = 4 * R) : ∀ (r j k : Nat), j + r = R → r < k → fX12_areSights_2 n d k (nI s) (nI (4 * j)) = some (allV (eR c s) r j) := by
  have hl60 := hR.1
  intro r
  induction r with
  | zero =>
    intro j k hj hk
    obtain ⟨k, rfl⟩ : ∃ k', k = k' + 1 := ⟨k - 1, by omega⟩
    rw [fX12_areSights_2, inB_t hs (by omega), gd_true, nIc (by omega), hR.2.2.1, if_pos (nI_le (by omega) (by omega))]
    rfl
  | succ r ih =>
    intro j k hj hk
    obtain ⟨k, rfl⟩ : ∃ k', k = k' + 1 := ⟨k - 1, by omega⟩
    rw [fX12_areSights_2, inB_t hs (by omega), gd_true, nIc (by omega), hR.2.2.1, if_neg (nI_ge (by omega) (by omega)), d_isSight hs hR (by omega), Option.bind_some, bnd_x, nk4, show 4 * j + 4 = 4 * (j + 1) by omega, ih (j + 1) k (by omega) (by omega), if_bI, allV]
    cases vS (eR c s) j <;> rfl
theorem d_sights_n {n : Nat} {c d : St} {s ln : Nat} (hs : s < 6) (hR : rwE c d s ln) (hl : ¬ ln % 4 = 0) : ∀ (r j k : Nat), j + r = 15 → r < k → 4 * j < ln → fX12_areSights_2 n d k (nI s) (nI (4 * j)) = some false := by
  have hl60 := hR.1
  intro r
  induction r with
  | zero => intro j k hj hk h; omega
  | succ r ih =>
    intro j k hj hk h
    obtain ⟨k, rfl⟩ : ∃ k', k = k' + 1 := ⟨k - 1, by omega⟩
    rw [fX12_areSights_2, inB_t hs (by omega), gd_true, nIc (by omega), hR.2.2.1, if_neg (nI_ge (by omega) (by omega))]
    by_cases z : 4 * j + 3 < ln
    · rw [d_isSight hs hR z, Option.bind_some, bnd_x, nk4, show 4 * j + 4 = 4 * (j + 1) by omega, ih (j + 1) k (by omega) (by omega) (by omega), ite_self]
    · unfold fX12_isSight
      rw [inB_t hs (by omega), gd_true, nIc (by omega), hR.2.2.1, nk3, if_neg (nI_nlt (by omega) (by omega))]
      rfl
theorem d_online {n : Nat} {c d : St} {s ln j xy : Nat} (hs : s < 6) (hR : rwE c d s ln) (hj : 4 * j + 3 < 60) : ∀ (r t k : Nat), t + r = 20 → r < k → fX12_isOnLine_3 n d k (nI s) (nI (4 * j)) (nI (xy % 20)) (nI (xy / 20)) (nI t) = some (onl (lx (eR c s (4 * j)) (eR c s (4 * j + 2))) (lx (eR c s (4 * j + 1)) (eR c s (4 * j + 3))) xy r t) := by
  intro r
  induction r with
  | zero =>
    intro t k ht hk
    obtain ⟨k, rfl⟩ : ∃ k', k = k' + 1 := ⟨k - 1, by omega⟩
    rw [fX12_isOnLine_3, if_pos (show (20 : Int32) ≤ nI t from nI_le (a := 20) (by omega) (by omega))]
    rfl
  | succ r ih =>
    intro t k ht hk
    obtain ⟨k, rfl⟩ : ∃ k', k = k' + 1 := ⟨k - 1, by omega⟩
    rw [fX12_isOnLine_3, if_neg (show ¬ (20 : Int32) ≤ nI t from nI_ge (b := 20) (by omega) (by omega))]
    simp only [nk2, nk3, nI_1, bnd_x]
    rw [d_told hs hR (show 4 * j < 60 by omega), Option.bind_some, d_told hs hR (show 4 * j + 2 < 60 by omega), Option.bind_some, d_told hs hR (show 4 * j + 1 < 60 by omega), Option.bind_some, d_told hs hR (show 4 * j + 3 < 60 by omega), Option.bind_some, ih (t + 1) k (by omega) (by omega), onl]
    unfold onA
    show (if lx (eR c s (4 * j)) (eR c s (4 * j + 2)) t = nI (xy % 20) then (if lx (eR c s (4 * j + 1)) (eR c s (4 * j + 3)) t = nI (xy / 20) then _ else _) else _) = _
    by_cases w1 : lx (eR c s (4 * j)) (eR c s (4 * j + 2)) t = nI (xy % 20)
    · by_cases w2 : lx (eR c s (4 * j + 1)) (eR c s (4 * j + 3)) t = nI (xy / 20)
      · rw [if_pos w1, if_pos w2, decide_eq_true ⟨w1, w2⟩]; rfl
      · rw [if_pos w1, if_neg w2, decide_eq_false (fun q => w2 q.2), Bool.false_or]
    · rw [if_neg w1, decide_eq_false (fun q => w1 q.1), Bool.false_or]
theorem d_maybe {n : Nat} (hn : 5000 < n) {c d : St} {s ln R xy : Nat} (hs : s < 6) (hR : rwE c d s ln) (hl : ln = 4 * R) (hxy : xy < 400) : ∀ (r j k : Nat), j + r = R → r < k → fX12_mayBeAt_2 n d k (nI s) (nI xy) (nI (4 * j)) = some (allO (eR c s) xy r j) := by
  have hl60 := hR.1
  have e20 : rmI (nI xy) 20 = nI (xy % 20) := rm_nI (d := 20) (by omega) (by omega) (by omega)
  have e21 : nI xy / 20 = nI (xy / 20) := dv_nI (d := 20) (by omega) (by omega) (by omega)
  intro r
  induction r with
  | zero =>
    intro j k hj hk
    obtain ⟨k, rfl⟩ : ∃ k', k = k' + 1 := ⟨k - 1, by omega⟩
    rw [fX12_mayBeAt_2, inB_t hs (by omega), gd_true, nIc (by omega), hR.2.2.1, if_pos (nI_le (by omega) (by omega))]
    rfl
  | succ r ih =>
    intro j k hj hk
    obtain ⟨k, rfl⟩ : ∃ k', k = k' + 1 := ⟨k - 1, by omega⟩
    have e1 : fX12_isOnLine n d (nI s) (nI (4 * j)) (nI (xy % 20)) (nI (xy / 20)) = some (onS (eR c s) xy j) := d_online (n := n) hs hR (show 4 * j + 3 < 60 by omega) 20 0 n (by omega) (by omega)
    rw [fX12_mayBeAt_2, inB_t hs (by omega), gd_true, nIc (by omega), hR.2.2.1, if_neg (nI_ge (by omega) (by omega)), e20, e21, e1, Option.bind_some, bnd_x, nk4, show 4 * j + 4 = 4 * (j + 1) by omega, ih (j + 1) k (by omega) (by omega), if_bI, allO]
    cases onS (eR c s) xy j <;> rfl
