/-! sight: lines -/
theorem side32 (x : Int32) : fX11_isSide x.toInt64 = in19 x := by
  unfold fX11_isSide in19
  have e0 : (0 : Int32).toInt = 0 := rfl
  have e19 : (19 : Int32).toInt = 19 := rfl
  have e20 : (20 : Int64).toInt = 20 := rfl
  have e00 : (0 : Int64).toInt = 0 := rfl
  by_cases c1 : lg_cmp x.toInt64 0 < 0
  · rw [if_pos c1, decide_eq_false]
    intro q
    have q1 := Int64.lt_iff_toInt_lt.mp ((lgc_lt _ _).mp c1)
    have q2 := Int32.le_iff_toInt_le.mp q.1
    rw [Int32.toInt_toInt64] at q1
    omega
  · rw [if_neg c1]
    have c1' : ¬ x.toInt < 0 := fun q => c1 ((lgc_lt _ _).mpr (Int64.lt_iff_toInt_lt.mpr (by rw [Int32.toInt_toInt64]; omega)))
    by_cases c2 : 0 ≤ lg_cmp x.toInt64 20
    · rw [if_pos c2, decide_eq_false]
      intro q
      have q1 := Int64.le_iff_toInt_le.mp ((lgc_ge _ _).mp c2)
      have q2 := Int32.le_iff_toInt_le.mp q.2
      rw [Int32.toInt_toInt64] at q1
      omega
    · rw [if_neg c2, decide_eq_true]
      have q1 : ¬ (20 : Int64).toInt ≤ x.toInt64.toInt := fun q => c2 ((lgc_ge _ _).mpr (Int64.le_iff_toInt_le.mpr q))
      rw [Int32.toInt_toInt64] at q1
      exact ⟨Int32.le_iff_toInt_le.mpr (by omega), Int32.le_iff_toInt_le.mpr (by omega)⟩
def in9 (x : Int32) : Bool := decide (-9 ≤ x ∧ x ≤ 9)
/-- along a line -/
def lx (x dx : Int32) (t : Nat) : Int32 := x + nI t * dx
theorem mul_bd {a : Int} {t : Nat} (h1 : -9 ≤ a) (h2 : a ≤ 9) (ht : t ≤ 20) : -180 ≤ (t : Int) * a ∧ (t : Int) * a ≤ 180 := by
  have k1 : (t : Int) * a ≤ (t : Int) * 9 := Int.mul_le_mul_of_nonneg_left h2 (by omega)
  have k2 : (t : Int) * (-9) ≤ (t : Int) * a := Int.mul_le_mul_of_nonneg_left h1 (by omega)
  omega
theorem lx_toInt {x dx : Int32} {p t : Nat} (hx : x = nI p) (hp : p < 20) (hd : -9 ≤ dx.toInt ∧ dx.toInt ≤ 9) (ht : t ≤ 20) : (lx x dx t).toInt = (p : Int) + (t : Int) * dx.toInt := by
  unfold lx
  obtain ⟨m1, m2⟩ := mul_bd hd.1 hd.2 ht
  rw [hx, Int32.toInt_add, Int32.toInt_mul, nI_toInt (by omega), nI_toInt (by omega), Int.bmod_eq_of_le (n := (t : Int) * dx.toInt) (by omega) (by omega), Int.bmod_eq_of_le (by omega) (by omega)]
/-- once outside, outside -/
theorem lx_out {x dx : Int32} {p t t' X : Nat} (hx : x = nI p) (hp : p < 20) (hd : -9 ≤ dx.toInt ∧ dx.toInt ≤ 9) (ht : t ≤ t') (ht' : t' ≤ 20) (ho : in19 (lx x dx t) = false) (hX : X < 20) : ¬ lx x dx t' = nI X := by
  intro q
  have e1 := lx_toInt (t := t) hx hp hd (by omega)
  have e2 := lx_toInt (t := t') hx hp hd ht'
  rw [q, nI_toInt (by omega)] at e2
  apply Bool.eq_false_iff.mp ho
  refine decide_eq_true ⟨Int32.le_iff_toInt_le.mpr ?_, Int32.le_iff_toInt_le.mpr ?_⟩
  · rw [e1]
    have e0 : (0 : Int32).toInt = 0 := rfl
    rw [e0]
    by_cases s : 0 ≤ dx.toInt
    · have : 0 ≤ (t : Int) * dx.toInt := Int.mul_nonneg (by omega) s
      omega
    · have : (t' : Int) * dx.toInt ≤ (t : Int) * dx.toInt := Int.mul_le_mul_of_nonpos_right (by omega) (by omega)
      omega
  · rw [e1]
    have e19 : (19 : Int32).toInt = 19 := rfl
    rw [e19]
    by_cases s : 0 ≤ dx.toInt
    · have : (t : Int) * dx.toInt ≤ (t' : Int) * dx.toInt := Int.mul_le_mul_of_nonneg_right (by omega) s
      omega
    · have : (t : Int) * dx.toInt ≤ (t : Int) * 0 := Int.mul_le_mul_of_nonneg_left (by omega) (by omega)
      omega
theorem lx_inj {x dx : Int32} {p t t' : Nat} (hx : x = nI p) (hp : p < 20) (hd : -9 ≤ dx.toInt ∧ dx.toInt ≤ 9) (h0 : ¬ dx = 0) (ht : t ≤ 20) (ht' : t' ≤ 20) (q : lx x dx t = lx x dx t') : t = t' := by
  have e1 := lx_toInt (t := t) hx hp hd ht
  have e2 := lx_toInt (t := t') hx hp hd ht'
  rw [q, e2] at e1
  have h0' : dx.toInt ≠ 0 := fun z => h0 (Int32.toInt_inj.mp z)
  have e3 : (t' : Int) * dx.toInt = (t : Int) * dx.toInt := by omega
  have := Int.eq_of_mul_eq_mul_right h0' e3
  omega
def onA (xs ys : Nat → Int32) (xy t : Nat) : Bool := decide (xs t = nI (xy % 20) ∧ ys t = nI (xy / 20))
def onl (xs ys : Nat → Int32) (xy : Nat) : Nat → Nat → Bool
  | 0, _ => false
  | r + 1, t => onA xs ys xy t || onl xs ys xy r (t + 1)
def mk (xs ys : Nat → Int32) (xy : Nat) : Nat → Nat → Nat
  | 0, _ => 0
  | r + 1, t => if (in19 (xs t) && in19 (ys t)) = true then (if onA xs ys xy t = true then 1 else 0) + mk xs ys xy r (t + 1) else 0
theorem onl_f {xs ys : Nat → Int32} {xy : Nat} : ∀ r t, (∀ t', t ≤ t' → t' < t + r → onA xs ys xy t' = false) → onl xs ys xy r t = false := by
  intro r
  induction r with
  | zero => intro t _; rfl
  | succ r ih =>
    intro t h
    rw [onl, h t (by omega) (by omega), ih (t + 1) (fun t' h1 h2 => h t' (by omega) (by omega))]
    rfl
/-- a valid one who saw it -/
def vw (x y dx dy : Int32) : Bool := in19 x && (in19 y && (in9 dx && (in9 dy && (decide (¬ dx = 0) || decide (¬ dy = 0)))))
theorem vw_in {x y dx dy : Int32} (h : vw x y dx dy = true) : (∃ p, p < 20 ∧ x = nI p) ∧ (∃ q, q < 20 ∧ y = nI q) ∧ (-9 ≤ dx.toInt ∧ dx.toInt ≤ 9) ∧ (-9 ≤ dy.toInt ∧ dy.toInt ≤ 9) ∧ (¬ dx = 0 ∨ ¬ dy = 0) := by
  unfold vw at h
  rw [Bool.and_eq_true, Bool.and_eq_true, Bool.and_eq_true, Bool.and_eq_true, Bool.or_eq_true, decide_eq_true_eq, decide_eq_true_eq] at h
  obtain ⟨h1, h2, h3, h4, h5⟩ := h
  obtain ⟨p, hp, ep⟩ := (in_nat (n := 19) rfl (by omega)).mp (of_decide_eq_true h1)
  obtain ⟨q, hq, eq⟩ := (in_nat (n := 19) rfl (by omega)).mp (of_decide_eq_true h2)
  have a3 := of_decide_eq_true h3
  have a4 := of_decide_eq_true h4
  have e9 : (9 : Int32).toInt = 9 := rfl
  have e9' : (-9 : Int32).toInt = -9 := rfl
  have b1 := Int32.le_iff_toInt_le.mp a3.1
  have b2 := Int32.le_iff_toInt_le.mp a3.2
  have b3 := Int32.le_iff_toInt_le.mp a4.1
  have b4 := Int32.le_iff_toInt_le.mp a4.2
  exact ⟨⟨p, by omega, ep⟩, ⟨q, by omega, eq⟩, by omega, by omega, h5⟩
theorem mk_onl {x y dx dy : Int32} (h : vw x y dx dy = true) {xy : Nat} (hxy : xy < 400) : ∀ r t, t + r ≤ 20 → mk (lx x dx) (lx y dy) xy r t = if onl (lx x dx) (lx y dy) xy r t = true then 1 else 0 := by
  obtain ⟨⟨p, hp, ep⟩, ⟨q, hq, eq⟩, hdx, hdy, hne⟩ := vw_in h
  intro r
  induction r with
  | zero => intro t _; rfl
  | succ r ih =>
    intro t ht
    rw [mk, onl]
    by_cases z : (in19 (lx x dx t) && in19 (lx y dy t)) = true
    · rw [if_pos z, ih (t + 1) (by omega)]
      by_cases w : onA (lx x dx) (lx y dy) xy t = true
      · rw [w, Bool.true_or, if_pos rfl]
        have hw := of_decide_eq_true w
        rw [onl_f r (t + 1) (fun t' h1 h2 => decide_eq_false (fun g => by
          rcases hne with k | k
          · have := lx_inj (t := t) (t' := t') ep hp hdx k (by omega) (by omega) (hw.1.trans g.1.symm)
            omega
          · have := lx_inj (t := t) (t' := t') eq hq hdy k (by omega) (by omega) (hw.2.trans g.2.symm)
            omega))]
        rfl
      · rw [Bool.eq_false_iff.mpr w, Bool.false_or, if_neg (by decide), Nat.zero_add]
    · rw [if_neg z]
      have : onl (lx x dx) (lx y dy) xy (r + 1) t = false := onl_f (r + 1) t (fun t' h1 h2 => decide_eq_false (fun g => by
        rw [Bool.and_eq_true, not_and] at z
        by_cases zx : in19 (lx x dx t) = true
        · exact lx_out eq hq hdy h1 (by omega) (Bool.eq_false_iff.mpr (z zx)) (show xy / 20 < 20 by omega) g.2
        · exact lx_out ep hp hdx h1 (by omega) (Bool.eq_false_iff.mpr zx) (show xy % 20 < 20 by omega) g.1))
      rw [onl] at this
      rw [this]
      rfl
def F37 (c c' : St) : Prop := (∀ k, k ≠ 37 → gI c' k = gI c k) ∧ ∀ k, gL c' k = gL c k
theorem c_follow_l {n : Nat} {x y dx dy : Int32} : ∀ (r t k : Nat) (c : St), t + r = 20 → r < k → ∃ c', fX8_follow_65 n k c x y dx dy (nI t) = some (true, c') ∧ (∀ xy, xy < 400 → gI c' 37 xy = gI c 37 xy + nI (mk (lx x dx) (lx y dy) xy r t)) ∧ F37 c c' := by
  intro r
  induction r with
  | zero =>
    intro t k c ht hk
    obtain ⟨k, rfl⟩ : ∃ k', k = k' + 1 := ⟨k - 1, by omega⟩
    rw [fX8_follow_65, if_pos (show (20 : Int32) ≤ nI t from nI_le (a := 20) (by omega) (by omega))]
    exact ⟨c, rfl, fun xy _ => (Int32.add_zero _).symm, fun _ _ => rfl, fun _ => rfl⟩
  | succ r ih =>
    intro t k c ht hk
    obtain ⟨k, rfl⟩ : ∃ k', k = k' + 1 := ⟨k - 1, by omega⟩
    rw [fX8_follow_65, if_neg (show ¬ (20 : Int32) ≤ nI t from nI_ge (b := 20) (by omega) (by omega))]
    simp only [bnd_x, side32, nI_1, if_bI]
    show ∃ c', cond (in19 (lx x dx t)) (cond (in19 (lx y dy t)) (gd (inB (20 * lx y dy t + lx x dx t) 400) (gd (inB (20 * lx y dy t + lx x dx t) 400) (fX8_follow_65 n k (sI c 37 (20 * lx y dy t + lx x dx t).toNatClampNeg (gI c 37 (20 * lx y dy t + lx x dx t).toNatClampNeg + 1)) x y dx dy (nI (t + 1))))) (some (true, c))) (some (true, c)) = _ ∧ _
    simp only [mk]
    cases z1 : in19 (lx x dx t) with
    | false => exact ⟨c, rfl, fun xy _ => by rw [Bool.false_and, if_neg (by decide)]; exact (Int32.add_zero _).symm, fun _ _ => rfl, fun _ => rfl⟩
    | true =>
      cases z2 : in19 (lx y dy t) with
      | false => exact ⟨c, rfl, fun xy _ => by rw [if_neg (by decide)]; exact (Int32.add_zero _).symm, fun _ _ => rfl, fun _ => rfl⟩
      | true =>
        obtain ⟨X, hX, eX⟩ := (in_nat (n := 19) rfl (by omega)).mp (of_decide_eq_true z1)
        obtain ⟨Y, hY, eY⟩ := (in_nat (n := 19) rfl (by omega)).mp (of_decide_eq_true z2)
        have hon : ∀ xy, xy < 400 → (onA (lx x dx) (lx y dy) xy t = true ↔ xy = 20 * Y + X) := fun xy h => by
          unfold onA
          rw [eX, eY, decide_eq_true_eq, nIeq (by omega) (by omega), nIeq (by omega) (by omega)]
          omega
        simp only [cond_true]
        rw [eX, eY, show (20 : Int32) * nI Y + nI X = nI (20 * Y + X) by rw [show (20 : Int32) = nI 20 from rfl, pk_mul, nI_add], inB_t (show 20 * Y + X < 400 by omega) (by omega), gd_true, gd_true, nIc (by omega)]
        obtain ⟨c', e1, e2, e3⟩ := ih (t + 1) k (sI c 37 (20 * Y + X) (gI c 37 (20 * Y + X) + 1)) (by omega) (by omega)
        refine ⟨c', e1, fun xy hxy => ?_, fun q hq => by rw [e3.1 q hq, gI_sIx, if_neg hq], e3.2⟩
        rw [e2 xy hxy, gIp, if_pos (show (true && true) = true from rfl)]
        by_cases w : xy = 20 * Y + X
        · rw [if_pos (show 37 = 37 ∧ xy = 20 * Y + X from ⟨rfl, w⟩), if_pos ((hon xy hxy).mpr w), ← w, Int32.add_assoc, show (1 : Int32) = nI 1 from rfl, nI_add]
        · rw [if_neg (show ¬ (37 = 37 ∧ xy = 20 * Y + X) from fun q => w q.2), if_neg (fun q => w ((hon xy hxy).mp q)), Nat.zero_add]
theorem c_follow {n : Nat} (hn : 5000 < n) {c : St} (x y dx dy : Int32) : (vw x y dx dy = false ∧ fX8_follow n c x y dx dy = some (false, c)) ∨ (vw x y dx dy = true ∧ ∃ c', fX8_follow n c x y dx dy = some (true, c') ∧ (∀ xy, xy < 400 → gI c' 37 xy = gI c 37 xy + nI (if onl (lx x dx) (lx y dy) xy 20 0 = true then 1 else 0)) ∧ F37 c c') := by
  obtain ⟨c', e1, e2, e3⟩ := c_follow_l (n := n) (x := x) (y := y) (dx := dx) (dy := dy) 20 0 n c (by omega) (by omega)
  have e1' : fX8_follow_65 n n c x y dx dy 0 = some (true, c') := e1
  have ef : fX8_follow n c x y dx dy = if vw x y dx dy = true then some (true, c') else some (false, c) := by
    unfold fX8_follow fX8_follow_36 fX8_follow_32 fX8_follow_37
    rw [e1', isW, isW, side32, side32]
    simp only [if_bI, reduceIte]
    rw [if_neg (show ¬ (1 : Int32) = 0 by decide)]
    unfold vw
    show cond (in9 dx) (cond (in9 dy) _ _) _ = _
    by_cases w1 : dx = 0
    · by_cases w2 : dy = 0
      · rw [if_pos w1, if_pos w2, decide_eq_false (fun q => q w1), decide_eq_false (fun q => q w2)]
        cases in19 x <;> cases in19 y <;> cases in9 dx <;> cases in9 dy <;> rfl
      · rw [if_pos w1, if_neg w2, decide_eq_true w2]
        cases in19 x <;> cases in19 y <;> cases in9 dx <;> cases in9 dy <;> cases (decide (¬ dx = 0)) <;> rfl
    · rw [if_neg w1, decide_eq_true w1]
      cases in19 x <;> cases in19 y <;> cases in9 dx <;> cases in9 dy <;> rfl
  cases hv : vw x y dx dy with
  | false =>
    left
    rw [hv, if_neg (by decide)] at ef
    exact ⟨rfl, ef⟩
  | true =>
    right
    rw [hv, if_pos rfl] at ef
    exact ⟨rfl, c', ef, fun xy h => by rw [e2 xy h, mk_onl hv h 20 0 (by omega)], e3⟩
