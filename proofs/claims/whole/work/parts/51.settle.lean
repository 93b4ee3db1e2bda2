/-! what a fall's finder owes by it -/
def cn (V : Nat → Nat → Int32) (B b : Nat) : Nat → Nat
  | 0 => 0
  | n + 1 => cn V B b n + (if B.testBit n = true ∧ V 10 n = nI b then 1 else 0)
def cw (V : Nat → Nat → Int32) (B p : Nat) : Nat → Nat
  | 0 => 0
  | n + 1 => cw V B p n + (if B.testBit n = true ∧ ¬ V 10 n = nI p then 1 else 0)
def pyd (V : Nat → Nat → Int32) (B p s i k : Nat) : Nat := if k / 6 = p ∧ ¬ k % 6 = p then s * cn V B (k % 6) i else 0
theorem pyd_0 (V : Nat → Nat → Int32) (B p s k : Nat) : pyd V B p s 0 k = 0 := by
  unfold pyd
  split <;> rfl
theorem pyd_n {V : Nat → Nat → Int32} {B p s i k : Nat} (h : ¬ (B.testBit i = true ∧ ¬ V 10 i = nI p)) (hp : p < 6) : pyd V B p s (i + 1) k = pyd V B p s i k := by
  unfold pyd
  by_cases c : k / 6 = p ∧ ¬ k % 6 = p
  · rw [if_pos c, if_pos c, cn]
    by_cases q : B.testBit i = true ∧ V 10 i = nI (k % 6)
    · exfalso
      refine h ⟨q.1, fun e => c.2 ?_⟩
      have e2 := q.2.symm.trans e
      rw [nIeq (by omega) (by omega)] at e2
      exact e2
    · rw [if_neg q, Nat.add_zero]
  · rw [if_neg c, if_neg c]
theorem pyd_y {V : Nat → Nat → Int32} {B p s i k w : Nat} (h : B.testBit i = true) (hw : V 10 i = nI w) (hw6 : w < 6) (hp : p < 6) (hne : ¬ w = p) : pyd V B p s (i + 1) k = pyd V B p s i k + (if k = 6 * p + w then s else 0) := by
  unfold pyd
  by_cases c : k / 6 = p ∧ ¬ k % 6 = p
  · rw [if_pos c, if_pos c, cn]
    by_cases q : k = 6 * p + w
    · rw [if_pos q, if_pos ⟨h, by rw [hw, show k % 6 = w by omega]⟩, Nat.mul_add, Nat.mul_one]
    · rw [if_neg q, if_neg (fun e => q (by
        have e2 := hw.symm.trans e.2
        rw [nIeq (by omega) (by omega)] at e2
        omega))]
      rw [Nat.add_zero, Nat.add_zero]
  · rw [if_neg c, if_neg c, if_neg (by omega)]
theorem cw_n {V : Nat → Nat → Int32} {B p i : Nat} (h : ¬ (B.testBit i = true ∧ ¬ V 10 i = nI p)) : cw V B p (i + 1) = cw V B p i := by
  rw [cw, if_neg h, Nat.add_zero]
theorem cw_y {V : Nat → Nat → Int32} {B p i : Nat} (h : B.testBit i = true ∧ ¬ V 10 i = nI p) : cw V B p (i + 1) = cw V B p i + 1 := by
  rw [cw, if_pos h]
theorem bit_0 {F j : Nat} : (bit F j = 0) ↔ ¬ F.testBit j = true := by
  unfold bit
  cases h : F.testBit j with
  | true => simp
  | false => simp
theorem c_set1_l {n : Nat} {nf nl nc : Nat} {V : Nat → Nat → Int32} {P : LwP} (hb : VB nf nl nc V) {B p s : Nat} (hB : B < 4096) (hp : p < 6) (A : Nat → Int32) : ∀ (r i k : Nat) (c : St), i + r = nc → r < k → VC c nf nl nc V P → gI c 24 2 = nI B → (∀ k, k < 36 → gI c 25 k = A k + nI (pyd V B p s i k)) → ∃ c', fX6_settle_1_51 n k c (nI p) (nI s) (nI (s * cw V B p i)) (nI i) = some (nI (s * cw V B p nc), c') ∧ (∀ k, k < 36 → gI c' 25 k = A k + nI (pyd V B p s nc k)) ∧ (∀ q, q ≠ 25 → gI c' q = gI c q) ∧ (∀ q, gL c' q = gL c q) := by
  have h12 := hb.2.2.1
  intro r
  induction r with
  | zero =>
    intro i k c hi hk hv h24 hA
    obtain ⟨k, rfl⟩ : ∃ k', k = k' + 1 := ⟨k - 1, by omega⟩
    have e : i = nc := by omega
    subst e
    rw [fX6_settle_1_51, hv.2.2.1, if_pos (i32_rf _)]
    exact ⟨c, rfl, hA, fun _ _ => rfl, fun _ => rfl⟩
  | succ r ih =>
    intro i k c hi hk hv h24 hA
    obtain ⟨k, rfl⟩ : ∃ k', k = k' + 1 := ⟨k - 1, by omega⟩
    obtain ⟨w, a, hw, ha, v10, v11⟩ := cry_nat hb (show i < nc by omega)
    have g13 : gI c 13 i = nI w := (hv.2.2.2.1 10 i (by omega) (by omega)).trans v10
    rw [fX6_settle_1_51, hv.2.2.1, if_neg (nI_ge (by omega) (by omega))]
    simp only [inB_t (show i < 13 by omega) (by omega), gd_true, bnd_x, nIc (show i < 100000 by omega), h24, g13, nI_1]
    rw [bit_at (show B < 2 ^ 31 by omega) (show i < 32 by omega)]
    by_cases z1 : B.testBit i = true
    · rw [if_neg (fun q => bit_0.mp q z1)]
      by_cases z2 : w = p
      · rw [if_pos (by rw [z2])]
        have hno : ¬ (B.testBit i = true ∧ ¬ V 10 i = nI p) := fun q => q.2 (by rw [v10, z2])
        rw [← cw_n hno]
        exact ih (i + 1) k c (by omega) (by omega) hv h24 (fun k hk => by rw [pyd_n hno hp]; exact hA k hk)
      · rw [if_neg (fun q => z2 (by rw [nIeq (by omega) (by omega)] at q; exact q)), at_nI, inB_t (show 6 * p + w < 36 by omega) (by omega), gd_true, gd_true, nIc (show 6 * p + w < 100000 by omega), nI_add]
        have hyes : B.testBit i = true ∧ ¬ V 10 i = nI p := ⟨z1, fun q => z2 (by rw [v10, nIeq (by omega) (by omega)] at q; exact q)⟩
        have ecw : s * cw V B p i + s = s * cw V B p (i + 1) := by rw [cw_y hyes, Nat.mul_add, Nat.mul_one]
        rw [ecw]
        obtain ⟨c', e1, e2, e3, e4⟩ := ih (i + 1) k (sI c 25 (6 * p + w) (gI c 25 (6 * p + w) + nI s)) (by omega) (by omega) (VC_fr hv (by rw [gI_sIx, if_neg (by omega)]) (by rw [gI_sIx, if_neg (by omega)]) (by rw [gI_sIx, if_neg (by omega)]) (by rw [gI_sIx, if_neg (by omega)]) (fun w j hw hj => by rw [gI_sIx, if_neg (by omega)]; exact hv.2.2.2.1 w j hw hj)) (by rw [gI_sIx, if_neg (by omega)]; exact h24) (fun k hk => by
          rw [gI_sIx, if_pos rfl, upd_x, pyd_y z1 v10 hw hp z2]
          by_cases ek : k = 6 * p + w
          · rw [if_pos ek, if_pos ek, hA _ (by omega), ek, Int32.add_assoc, nI_add]
          · rw [if_neg ek, if_neg ek, Nat.add_zero]
            exact hA k hk)
        exact ⟨c', e1, e2, fun q hq => by rw [e3 q hq, gI_sIx, if_neg hq], e4⟩
    · rw [if_pos (bit_0.mpr z1)]
      have hno : ¬ (B.testBit i = true ∧ ¬ V 10 i = nI p) := fun q => z1 q.1
      rw [← cw_n hno]
      exact ih (i + 1) k c (by omega) (by omega) hv h24 (fun k hk => by rw [pyd_n hno hp]; exact hA k hk)
theorem c_set2_l {n : Nat} {nf nl nc : Nat} {V : Nat → Nat → Int32} {P : LwP} (hb : VB nf nl nc V) {B p s : Nat} (hB : B < 4096) (hp : p < 6) (A : Nat → Int32) : ∀ (r i k : Nat) (c : St), i + r = nc → r < k → VC c nf nl nc V P → gI c 24 2 = nI B → (∀ k, k < 36 → gI c 40 k = A k + nI (pyd V B p s i k)) → ∃ c', fX6_settle_2_51 n k c (nI p) (nI s) (nI (s * cw V B p i)) (nI i) = some (nI (s * cw V B p nc), c') ∧ (∀ k, k < 36 → gI c' 40 k = A k + nI (pyd V B p s nc k)) ∧ (∀ q, q ≠ 40 → gI c' q = gI c q) ∧ (∀ q, gL c' q = gL c q) := by
  have h12 := hb.2.2.1
  intro r
  induction r with
  | zero =>
    intro i k c hi hk hv h24 hA
    obtain ⟨k, rfl⟩ : ∃ k', k = k' + 1 := ⟨k - 1, by omega⟩
    have e : i = nc := by omega
    subst e
    rw [fX6_settle_2_51, hv.2.2.1, if_pos (i32_rf _)]
    exact ⟨c, rfl, hA, fun _ _ => rfl, fun _ => rfl⟩
  | succ r ih =>
    intro i k c hi hk hv h24 hA
    obtain ⟨k, rfl⟩ : ∃ k', k = k' + 1 := ⟨k - 1, by omega⟩
    obtain ⟨w, a, hw, ha, v10, v11⟩ := cry_nat hb (show i < nc by omega)
    have g13 : gI c 13 i = nI w := (hv.2.2.2.1 10 i (by omega) (by omega)).trans v10
    rw [fX6_settle_2_51, hv.2.2.1, if_neg (nI_ge (by omega) (by omega))]
    simp only [inB_t (show i < 13 by omega) (by omega), gd_true, bnd_x, nIc (show i < 100000 by omega), h24, g13, nI_1]
    rw [bit_at (show B < 2 ^ 31 by omega) (show i < 32 by omega)]
    by_cases z1 : B.testBit i = true
    · rw [if_neg (fun q => bit_0.mp q z1)]
      by_cases z2 : w = p
      · rw [if_pos (by rw [z2])]
        have hno : ¬ (B.testBit i = true ∧ ¬ V 10 i = nI p) := fun q => q.2 (by rw [v10, z2])
        rw [← cw_n hno]
        exact ih (i + 1) k c (by omega) (by omega) hv h24 (fun k hk => by rw [pyd_n hno hp]; exact hA k hk)
      · rw [if_neg (fun q => z2 (by rw [nIeq (by omega) (by omega)] at q; exact q)), at_nI, inB_t (show 6 * p + w < 36 by omega) (by omega), gd_true, gd_true, nIc (show 6 * p + w < 100000 by omega), nI_add]
        have hyes : B.testBit i = true ∧ ¬ V 10 i = nI p := ⟨z1, fun q => z2 (by rw [v10, nIeq (by omega) (by omega)] at q; exact q)⟩
        have ecw : s * cw V B p i + s = s * cw V B p (i + 1) := by rw [cw_y hyes, Nat.mul_add, Nat.mul_one]
        rw [ecw]
        obtain ⟨c', e1, e2, e3, e4⟩ := ih (i + 1) k (sI c 40 (6 * p + w) (gI c 40 (6 * p + w) + nI s)) (by omega) (by omega) (VC_fr hv (by rw [gI_sIx, if_neg (by omega)]) (by rw [gI_sIx, if_neg (by omega)]) (by rw [gI_sIx, if_neg (by omega)]) (by rw [gI_sIx, if_neg (by omega)]) (fun w j hw hj => by rw [gI_sIx, if_neg (by omega)]; exact hv.2.2.2.1 w j hw hj)) (by rw [gI_sIx, if_neg (by omega)]; exact h24) (fun k hk => by
          rw [gI_sIx, if_pos rfl, upd_x, pyd_y z1 v10 hw hp z2]
          by_cases ek : k = 6 * p + w
          · rw [if_pos ek, if_pos ek, hA _ (by omega), ek, Int32.add_assoc, nI_add]
          · rw [if_neg ek, if_neg ek, Nat.add_zero]
            exact hA k hk)
        exact ⟨c', e1, e2, fun q hq => by rw [e3 q hq, gI_sIx, if_neg hq], e4⟩
    · rw [if_pos (bit_0.mpr z1)]
      have hno : ¬ (B.testBit i = true ∧ ¬ V 10 i = nI p) := fun q => z1 q.1
      rw [← cw_n hno]
      exact ih (i + 1) k c (by omega) (by omega) hv h24 (fun k hk => by rw [pyd_n hno hp]; exact hA k hk)
theorem d_owe_l {n : Nat} {nf nl nc : Nat} {V : Nat → Nat → Int32} {P : LwP} (hb : VB nf nl nc V) {B p s : Nat} (hB : B < 4096) (hp : p < 6) (A : Nat → Int32) : ∀ (r i k : Nat) (c : St), i + r = nc → r < k → VD c nf nl nc V P → (∀ k, k < 36 → gI c 27 k = A k + nI (pyd V B p s i k)) → ∃ c', fX12_oweBy_41 n k c (nI p) (nI B) (nI s) (nI (s * cw V B p i)) (nI i) = some (nI (s * cw V B p nc), c') ∧ (∀ k, k < 36 → gI c' 27 k = A k + nI (pyd V B p s nc k)) ∧ (∀ q, q ≠ 27 → gI c' q = gI c q) ∧ (∀ q, gL c' q = gL c q) := by
  have h12 := hb.2.2.1
  intro r
  induction r with
  | zero =>
    intro i k c hi hk hv hA
    obtain ⟨k, rfl⟩ : ∃ k', k = k' + 1 := ⟨k - 1, by omega⟩
    have e : i = nc := by omega
    subst e
    rw [fX12_oweBy_41, hv.2.2.1, if_pos (i32_rf _)]
    exact ⟨c, rfl, hA, fun _ _ => rfl, fun _ => rfl⟩
  | succ r ih =>
    intro i k c hi hk hv hA
    obtain ⟨k, rfl⟩ : ∃ k', k = k' + 1 := ⟨k - 1, by omega⟩
    obtain ⟨w, a, hw, ha, v10, v11⟩ := cry_nat hb (show i < nc by omega)
    have g13 : gI c 11 i = nI w := (hv.2.2.2.1 10 i (by omega) (by unfold ct; rw [if_neg (by omega), if_neg (by omega)]; omega)).trans v10
    rw [fX12_oweBy_41, hv.2.2.1, if_neg (nI_ge (by omega) (by omega))]
    simp only [inB_t (show i < 13 by omega) (by omega), gd_true, bnd_x, nIc (show i < 100000 by omega), g13, nI_1]
    rw [bit_at (show B < 2 ^ 31 by omega) (show i < 32 by omega)]
    by_cases z1 : B.testBit i = true
    · rw [if_neg (fun q => bit_0.mp q z1)]
      by_cases z2 : w = p
      · rw [if_pos (by rw [z2])]
        have hno : ¬ (B.testBit i = true ∧ ¬ V 10 i = nI p) := fun q => q.2 (by rw [v10, z2])
        rw [← cw_n hno]
        exact ih (i + 1) k c (by omega) (by omega) hv (fun k hk => by rw [pyd_n hno hp]; exact hA k hk)
      · rw [if_neg (fun q => z2 (by rw [nIeq (by omega) (by omega)] at q; exact q)), at_nI, inB_t (show 6 * p + w < 36 by omega) (by omega), gd_true, gd_true, nIc (show 6 * p + w < 100000 by omega), nI_add]
        have hyes : B.testBit i = true ∧ ¬ V 10 i = nI p := ⟨z1, fun q => z2 (by rw [v10, nIeq (by omega) (by omega)] at q; exact q)⟩
        have ecw : s * cw V B p i + s = s * cw V B p (i + 1) := by rw [cw_y hyes, Nat.mul_add, Nat.mul_one]
        rw [ecw]
        obtain ⟨c', e1, e2, e3, e4⟩ := ih (i + 1) k (sI c 27 (6 * p + w) (gI c 27 (6 * p + w) + nI s)) (by omega) (by omega) (VD_Q hv (Qd_sI _ 27 _ _ (by omega))) (fun k hk => by
          rw [gI_sIx, if_pos rfl, upd_x, pyd_y z1 v10 hw hp z2]
          by_cases ek : k = 6 * p + w
          · rw [if_pos ek, if_pos ek, hA _ (by omega), ek, Int32.add_assoc, nI_add]
          · rw [if_neg ek, if_neg ek, Nat.add_zero]
            exact hA k hk)
        exact ⟨c', e1, e2, fun q hq => by rw [e3 q hq, gI_sIx, if_neg hq], e4⟩
    · rw [if_pos (bit_0.mpr z1)]
      have hno : ¬ (B.testBit i = true ∧ ¬ V 10 i = nI p) := fun q => z1 q.1
      rw [← cw_n hno]
      exact ih (i + 1) k c (by omega) (by omega) hv (fun k hk => by rw [pyd_n hno hp]; exact hA k hk)
