/-! rows that are read, and who is paid alone -/
def rwE (c d : St) (s ln : Nat) : Prop := ln ≤ 60 ∧ gI c (53 + 2 * s) 3 = nI ln ∧ gI d 40 s = nI ln ∧ ∀ j, j < 60 → sm (gL c (54 + 2 * s) j) ∧ gL d 41 (60 * s + j) = gL c (54 + 2 * s) j
theorem row_ask {c d : St} (h : Rel c d) {s so : Nat} (hs : s < 6) (hso : so < 2) : (∃ r : Int32, ¬ r = 0 ∧ ¬ 0 ≤ r ∧ fX11_refusalOfRow c (nI s) (nI so) = some r ∧ fX12_rowFault d (nI s) (nI so) = some r) ∨ (fX11_refusalOfRow c (nI s) (nI so) = some 0 ∧ fX12_rowFault d (nI s) (nI so) = some 0 ∧ ∃ ln, rwE c d s ln) := by
  have hS := h.2.2.2.2.2.1 s hs
  have hsh : fX12_isShelf (nI s) = true := by
    unfold fX12_isShelf
    rw [isI]
    exact decide_eq_true ⟨nI_pos' (by omega), nI_le (b := 5) (by omega) (by omega)⟩
  unfold fX11_refusalOfRow fX12_rowFault fX7_refusalOfRow
  rw [sh_eq, hsh, if_bI, cond_true, inB_t hs (by omega), gd_true, gd_true, gd_true, nIc (by omega)]
  rcases hS.1 with ⟨q1, q2⟩ | ⟨q1, b, z1, z2, z3, z4⟩ | ⟨q1, so', ln, s1, s2, s3, s4, s5, s6, s7, s8⟩
  · rw [q1, q2]
    exact Or.inl ⟨-11, by decide, by decide, rfl, rfl⟩
  · rw [q1, z4, if_neg (neg1_nI (by omega)), if_neg (show ¬ nI b = -2 - nI so from fun e => neg_nI (by omega) (by omega) e.symm)]
    exact Or.inl ⟨-12, by decide, by decide, rfl, rfl⟩
  · rw [q1, s3, s4, if_neg (row_neg so' s1).2.1, if_neg (show ¬ (2 : Int32) = 0 by decide), if_pos (show (2 : Int32) = 2 from rfl)]
    by_cases e : so' = so
    · subst e
      rw [if_pos rfl, if_pos rfl]
      refine Or.inr ⟨rfl, rfl, ln, s2, s5, s6, fun j hj => ⟨?_, hS.2 j hj⟩⟩
      rcases (show so' = 0 ∨ so' = 1 by omega) with rfl | rfl
      · have := s7 rfl j hj
        refine ⟨Int64.le_iff_toInt_le.mpr ?_, Int64.le_iff_toInt_le.mpr ?_⟩
        · have q := Int64.le_iff_toInt_le.mp this.1
          have e1 : (-128 : Int64).toInt = -128 := rfl
          have e2 : (-32768 : Int64).toInt = -32768 := rfl
          omega
        · have q := Int64.le_iff_toInt_le.mp this.2
          have e1 : (127 : Int64).toInt = 127 := rfl
          have e2 : (32767 : Int64).toInt = 32767 := rfl
          omega
      · exact s8 rfl j hj
    · rw [if_neg (fun q => e (by rw [nIeq (by omega) (by omega)] at q; exact q)), if_neg (fun q => e (neg_so so' s1 so (by omega) q))]
      exact Or.inl ⟨-12, by decide, by decide, rfl, rfl⟩
theorem lgc_eq (x y : Int64) : (lg_cmp x y = 0) ↔ x = y := by
  unfold lg_cmp
  by_cases h1 : x > y
  · rw [if_pos h1]
    refine ⟨fun h => absurd h (by decide), fun h => ?_⟩
    have q1 := Int64.lt_iff_toInt_lt.mp h1
    rw [h] at q1
    omega
  · rw [if_neg h1]
    by_cases h2 : x = y
    · rw [if_pos h2]; exact ⟨fun _ => h2, fun _ => rfl⟩
    · rw [if_neg h2]; exact ⟨fun h => absurd h (by decide), fun h => absurd h h2⟩
theorem sm_eq {e : Int64} (h : sm e) (r : Int32) : (lg_cmp e r.toInt64 = 0) ↔ r = e.toInt32 := by
  obtain ⟨h1, h2, h3⟩ := sm_toInt h
  rw [lgc_eq]
  constructor
  · intro q
    apply Int32.toInt_inj.mp
    rw [h1, q, Int32.toInt_toInt64]
  · intro q
    apply Int64.toInt_inj.mp
    rw [Int32.toInt_toInt64, q, h1]
/-- the criers as bits -/
def krs (V : Nat → Nat → Int32) (B n : Nat) : Nat → Nat
  | 0 => 0
  | q + 1 => krs V B n q ||| (if 0 < cn V B q n then 2 ^ q else 0)
theorem krs_at (V : Nat → Nat → Int32) (B n : Nat) : ∀ j q, (krs V B n j).testBit q = decide (q < j ∧ 0 < cn V B q n) := by
  intro j
  induction j with
  | zero => intro q; rw [krs, Nat.zero_testBit, decide_eq_false (by omega)]
  | succ j ih =>
    intro q
    rw [krs, Nat.testBit_or, ih q]
    by_cases z : 0 < cn V B j n
    · rw [if_pos z, Nat.testBit_two_pow]
      by_cases e : j = q
      · subst e
        rw [decide_eq_true (show j = j from rfl), Bool.or_true, decide_eq_true ⟨by omega, z⟩]
      · rw [decide_eq_false e, Bool.or_false]
        by_cases w : q < j ∧ 0 < cn V B q n
        · rw [decide_eq_true w, decide_eq_true ⟨by omega, w.2⟩]
        · rw [decide_eq_false w, decide_eq_false (fun y => w ⟨by omega, y.2⟩)]
    · rw [if_neg z, Nat.zero_testBit, Bool.or_false]
      by_cases w : q < j ∧ 0 < cn V B q n
      · rw [decide_eq_true w, decide_eq_true ⟨by omega, w.2⟩]
      · rw [decide_eq_false w, decide_eq_false (fun y => w ⟨by
          have : q ≠ j := fun e => z (by rw [← e]; exact y.2)
          omega, y.2⟩)]
theorem krs_lt (V : Nat → Nat → Int32) (B n j : Nat) : krs V B n j < 2 ^ j := by
  apply Nat.lt_pow_two_of_testBit
  intro i hi
  rw [krs_at, decide_eq_false (by omega)]
def fdA : Nat → Nat → Nat → Int32
  | 0, _, _ => -1
  | r + 1, q, K => if K = 2 ^ q then nI q else fdA r (q + 1) K
def alF (K p : Nat) : Int32 := fdA 6 0 (K &&& (2 ^ p ^^^ (2 ^ 32 - 1)))
theorem alF_at {K p : Nat} (hK : K < 64) (q : Nat) : (K &&& (2 ^ p ^^^ (2 ^ 32 - 1))).testBit q = decide (K.testBit q = true ∧ ¬ q = p) := by
  rw [Nat.testBit_and, Nat.testBit_xor, Nat.testBit_two_pow_sub_one, Nat.testBit_two_pow]
  by_cases z : K.testBit q = true
  · have hq : q < 6 := by
      apply Classical.byContradiction
      intro w
      rw [Nat.testBit_lt_two_pow (Nat.lt_of_lt_of_le hK (show 2 ^ 6 ≤ 2 ^ q from Nat.pow_le_pow_right (by omega) (by omega)))] at z
      cases z
    rw [z, decide_eq_true (show q < 32 by omega), Bool.true_and]
    by_cases e : p = q
    · rw [decide_eq_true e, decide_eq_false (fun w => w.2 e.symm)]; rfl
    · rw [decide_eq_false e, decide_eq_true ⟨rfl, fun w => e w.symm⟩]; rfl
  · rw [Bool.eq_false_iff.mpr z, Bool.false_and, decide_eq_false (fun w => by cases w.1)]
/-- one alone, or none -/
def IsA (T : Nat → Prop) (r : Int32) : Prop := (∃ q, q < 6 ∧ r = nI q ∧ ∀ q', T q' ↔ q' = q) ∨ (r = -1 ∧ ¬ ∃ q, ∀ q', T q' ↔ q' = q)
theorem IsA_1 {T : Nat → Prop} {r r' : Int32} (h : IsA T r) (h' : IsA T r') : r = r' := by
  rcases h with ⟨q, h1, h2, h3⟩ | ⟨h1, h2⟩
  · rcases h' with ⟨q', k1, k2, k3⟩ | ⟨k1, k2⟩
    · have : q = q' := (k3 q).mp ((h3 q).mpr rfl)
      rw [h2, k2, this]
    · exact absurd ⟨q, h3⟩ k2
  · rcases h' with ⟨q', k1, k2, k3⟩ | ⟨k1, k2⟩
    · exact absurd ⟨q', k3⟩ h2
    · rw [h1, k1]
theorem IsA_alF {K p : Nat} (hK : K < 64) : IsA (fun q => K.testBit q = true ∧ ¬ q = p) (alF K p) := by
  have hat := alF_at (p := p) hK
  unfold alF
  generalize K &&& (2 ^ p ^^^ (2 ^ 32 - 1)) = M at hat
  have main : ∀ r q, q + r = 6 → (∀ j, j < q → ¬ M = 2 ^ j) → IsA (fun q => K.testBit q = true ∧ ¬ q = p) (fdA r q M) := by
    intro r
    induction r with
    | zero =>
      intro q hq hn
      refine Or.inr ⟨rfl, fun ⟨j, hj⟩ => ?_⟩
      have e : M = 2 ^ j := by
        apply Nat.eq_of_testBit_eq
        intro i
        rw [hat, Nat.testBit_two_pow]
        by_cases w : K.testBit i = true ∧ ¬ i = p
        · rw [decide_eq_true w, decide_eq_true ((hj i).mp w).symm]
        · rw [decide_eq_false w, decide_eq_false (fun y => w ((hj i).mpr y.symm))]
      have hj6 : j < 6 := by
        apply Classical.byContradiction
        intro w
        have z := ((hj j).mpr rfl).1
        rw [Nat.testBit_lt_two_pow (Nat.lt_of_lt_of_le hK (show 2 ^ 6 ≤ 2 ^ j from Nat.pow_le_pow_right (by omega) (by omega)))] at z
        cases z
      exact hn j (by omega) e
    | succ r ih =>
      intro q hq hn
      rw [fdA]
      by_cases z : M = 2 ^ q
      · rw [if_pos z]
        refine Or.inl ⟨q, by omega, rfl, fun i => ?_⟩
        have := hat i
        rw [z, Nat.testBit_two_pow] at this
        by_cases w : K.testBit i = true ∧ ¬ i = p
        · rw [decide_eq_true w, decide_eq_true_eq] at this
          exact ⟨fun _ => this.symm, fun _ => w⟩
        · rw [decide_eq_false w, decide_eq_false_iff_not] at this
          exact ⟨fun y => absurd y w, fun y => absurd y.symm this⟩
      · rw [if_neg z]
        exact ih (q + 1) (by omega) (fun j hj => by
          by_cases e : j = q
          · rw [e]; exact z
          · exact hn j (by omega))
  exact main 6 0 rfl (fun j hj => absurd hj (by omega))
def pdK (o : Int32) (K : Nat) : Int32 := if o < 0 then -1 else alF K o.toNatClampNeg
theorem c_paid {n : Nat} (hn : 5000 < n) {c : St} {f K : Nat} {o : Int32} (hf : f < 10) (hK : K < 64) (ho : o = -1 ∨ ∃ k : Nat, k < 6 ∧ o = nI k) (h33 : gI c 33 f = o) : fX10_paidAlone n c (nI f) (nI K) = some (pdK o K) := by
  unfold fX10_paidAlone pdK
  rw [inB_t hf (by omega), gd_true, gd_true, nIc (by omega), h33]
  rcases ho with rfl | ⟨p, hp, rfl⟩
  · rw [if_neg (by decide), if_pos neg1_lt]
  · rw [if_pos (nI_pos' (by omega)), if_neg (nI_pos (by omega)), nIc (by omega), bnd_x, shl_1b (by omega), show (-1 : Int32) = nI (2 ^ 32 - 1) by decide, xor_nI, and_nI]
    unfold alF
    have hM : K &&& (2 ^ p ^^^ (2 ^ 32 - 1)) < 64 := Nat.lt_of_le_of_lt Nat.and_le_left hK
    generalize K &&& (2 ^ p ^^^ (2 ^ 32 - 1)) = M at hM
    have main : ∀ (r q k : Nat), q + r = 6 → r < k → fX10_paidAlone_27 n c k (nI M) (nI q) = some (fdA r q M) := by
      intro r
      induction r with
      | zero =>
        intro q k hq hk
        obtain ⟨k, rfl⟩ : ∃ k', k = k' + 1 := ⟨k - 1, by omega⟩
        rw [fX10_paidAlone_27, if_pos (show (6 : Int32) ≤ nI q from nI_le (a := 6) (by omega) (by omega))]
        rfl
      | succ r ih =>
        intro q k hq hk
        obtain ⟨k, rfl⟩ : ∃ k', k = k' + 1 := ⟨k - 1, by omega⟩
        have h2q : 2 ^ q ≤ 64 := Nat.pow_le_pow_right (n := 2) (i := q) (j := 6) (by omega) (by omega)
        rw [fX10_paidAlone_27, if_neg (show ¬ (6 : Int32) ≤ nI q from nI_ge (b := 6) (by omega) (by omega)), shl_1b (by omega), bnd_x, nI_1, ih (q + 1) k (by omega) (by omega), fdA]
        by_cases z : M = 2 ^ q
        · rw [if_pos z, if_pos (by rw [z])]
        · rw [if_neg z, if_neg (fun y => z (by rw [nIeq (by omega) (by omega)] at y; exact y))]
    exact main 6 0 n rfl (by omega)
theorem cn_pos (V : Nat → Nat → Int32) (B b : Nat) : ∀ n, 0 < cn V B b n ↔ ∃ i, i < n ∧ B.testBit i = true ∧ V 10 i = nI b := by
  intro n
  induction n with
  | zero => exact ⟨fun h => absurd h (by rw [cn]; omega), fun ⟨i, h, _⟩ => absurd h (by omega)⟩
  | succ n ih =>
    rw [cn]
    by_cases z : B.testBit n = true ∧ V 10 n = nI b
    · rw [if_pos z]
      exact ⟨fun _ => ⟨n, by omega, z⟩, fun _ => by omega⟩
    · rw [if_neg z, Nat.add_zero, ih]
      constructor
      · rintro ⟨i, h1, h2⟩
        exact ⟨i, by omega, h2⟩
      · rintro ⟨i, h1, h2⟩
        by_cases e : i = n
        · rw [e] at h2; exact absurd h2 z
        · exact ⟨i, by omega, h2⟩
theorem d_paid_l {n : Nat} {d : St} {nf nl nc : Nat} {V : Nat → Nat → Int32} {P : LwP} (hv : VD d nf nl nc V P) (hb : VB nf nl nc V) {B p : Nat} (hB : B < 2 ^ 31) (hp : p < 6) : ∀ (r i k : Nat) (v : Int32), i + r = nc → r < k → ((v = -1 ∧ ∀ q, q < 6 → ¬ q = p → ¬ 0 < cn V B q i) ∨ (∃ q, q < 6 ∧ v = nI q ∧ ∀ q', (q' < 6 ∧ ¬ q' = p ∧ 0 < cn V B q' i) ↔ q' = q)) → ∃ R, fX12_paidBy_26 n k d (nI p) (nI B) v (nI i) = some (R, d) ∧ IsA (fun q => q < 6 ∧ ¬ q = p ∧ 0 < cn V B q nc) R := by
  have h12 := hb.2.2.1
  intro r
  induction r with
  | zero =>
    intro i k v hi hk hI
    obtain ⟨k, rfl⟩ : ∃ k', k = k' + 1 := ⟨k - 1, by omega⟩
    have e : i = nc := by omega
    rw [e] at hI
    rw [fX12_paidBy_26, hv.2.2.1, if_pos (nI_le (by omega) (by omega))]
    refine ⟨v, rfl, ?_⟩
    rcases hI with ⟨h1, h2⟩ | ⟨q, h1, h2, h3⟩
    · refine Or.inr ⟨h1, fun ⟨q, hq⟩ => ?_⟩
      have := (hq q).mpr rfl
      exact h2 q this.1 this.2.1 this.2.2
    · exact Or.inl ⟨q, h1, h2, h3⟩
  | succ r ih =>
    intro i k v hi hk hI
    obtain ⟨k, rfl⟩ : ∃ k', k = k' + 1 := ⟨k - 1, by omega⟩
    obtain ⟨w, a, hw, ha, v10, v11⟩ := cry_nat hb (show i < nc by omega)
    have g11 : gI d 11 i = nI w := (hv.2.2.2.1 10 i (by omega) (by unfold ct; rw [if_neg (by omega), if_neg (by omega)]; omega)).trans v10
    have nx : ∀ q, q < 6 → (0 < cn V B q (i + 1) ↔ (0 < cn V B q i ∨ (B.testBit i = true ∧ w = q))) := fun q hq => by
      rw [cn]
      by_cases z : B.testBit i = true ∧ V 10 i = nI q
      · rw [if_pos z]
        refine ⟨fun _ => Or.inr ⟨z.1, ?_⟩, fun _ => by omega⟩
        have := z.2
        rw [v10, nIeq (by omega) (by omega)] at this
        exact this
      · rw [if_neg z, Nat.add_zero]
        refine ⟨fun y => Or.inl y, fun y => ?_⟩
        rcases y with y | y
        · exact y
        · exact absurd ⟨y.1, by rw [v10, y.2]⟩ z
    rw [fX12_paidBy_26, hv.2.2.1, if_neg (nI_ge (by omega) (by omega)), bit_at hB (by omega), inB_t (show i < 13 by omega) (by omega)]
    simp only [gd_true, bnd_x, nIc (show i < 100000 by omega), nI_1, g11]
    by_cases z : B.testBit i = true
    · rw [if_neg (fun y => bit_0.mp y z)]
      by_cases zp : w = p
      · rw [if_pos (by rw [zp])]
        refine ih (i + 1) k v (by omega) (by omega) ?_
        have same : ∀ q, q < 6 → ¬ q = p → (0 < cn V B q (i + 1) ↔ 0 < cn V B q i) := fun q h1 h2 => by
          rw [nx q h1]
          exact ⟨fun y => by rcases y with y | y; exact y; omega, fun y => Or.inl y⟩
        rcases hI with ⟨h1, h2⟩ | ⟨q, h1, h2, h3⟩
        · exact Or.inl ⟨h1, fun q a1 a2 => by rw [same q a1 a2]; exact h2 q a1 a2⟩
        · refine Or.inr ⟨q, h1, h2, fun q' => ?_⟩
          rw [← h3 q']
          exact ⟨fun y => ⟨y.1, y.2.1, (same q' y.1 y.2.1).mp y.2.2⟩, fun y => ⟨y.1, y.2.1, (same q' y.1 y.2.1).mpr y.2.2⟩⟩
      · rw [if_neg (fun y => zp (by rw [nIeq (by omega) (by omega)] at y; exact y))]
        rcases hI with ⟨h1, h2⟩ | ⟨q, h1, h2, h3⟩
        · rw [h1, if_pos neg1_lt]
          refine ih (i + 1) k (nI w) (by omega) (by omega) (Or.inr ⟨w, hw, rfl, fun q' => ?_⟩)
          constructor
          · rintro ⟨a1, a2, a3⟩
            rcases (nx q' a1).mp a3 with y | y
            · exact absurd y (h2 q' a1 a2)
            · exact y.2.symm
          · rintro rfl
            exact ⟨hw, zp, (nx q' hw).mpr (Or.inr ⟨z, rfl⟩)⟩
        · rw [h2, if_neg (nI_pos (by omega))]
          by_cases zq : w = q
          · rw [if_pos (by rw [zq])]
            refine ih (i + 1) k (nI w) (by omega) (by omega) (Or.inr ⟨w, hw, rfl, fun q' => ?_⟩)
            constructor
            · rintro ⟨a1, a2, a3⟩
              rcases (nx q' a1).mp a3 with y | y
              · rw [zq]; exact (h3 q').mp ⟨a1, a2, y⟩
              · exact y.2.symm
            · rintro rfl
              exact ⟨hw, zp, (nx q' hw).mpr (Or.inr ⟨z, rfl⟩)⟩
          · rw [if_neg (fun y => zq (by rw [nIeq (by omega) (by omega)] at y; exact y))]
            refine ⟨-1, rfl, Or.inr ⟨rfl, fun ⟨u, hu⟩ => ?_⟩⟩
            have up : ∀ q, q < 6 → 0 < cn V B q (i + 1) → 0 < cn V B q nc := fun q _ y => by
              obtain ⟨j, j1, j2⟩ := (cn_pos V B q (i + 1)).mp y
              exact (cn_pos V B q nc).mpr ⟨j, by omega, j2⟩
            have t1 : w = u := (hu w).mp ⟨hw, zp, up w hw ((nx w hw).mpr (Or.inr ⟨z, rfl⟩))⟩
            have t0 := (h3 q).mpr rfl
            have t2 : q = u := (hu q).mp ⟨t0.1, t0.2.1, up q t0.1 ((nx q t0.1).mpr (Or.inl t0.2.2))⟩
            exact zq (by rw [t1, t2])
    · rw [if_pos (bit_0.mpr z)]
      refine ih (i + 1) k v (by omega) (by omega) ?_
      have same : ∀ q, q < 6 → (0 < cn V B q (i + 1) ↔ 0 < cn V B q i) := fun q h1 => by
        rw [nx q h1]
        exact ⟨fun y => by rcases y with y | y; exact y; exact absurd y.1 z, fun y => Or.inl y⟩
      rcases hI with ⟨h1, h2⟩ | ⟨q, h1, h2, h3⟩
      · exact Or.inl ⟨h1, fun q a1 a2 => by rw [same q a1]; exact h2 q a1 a2⟩
      · refine Or.inr ⟨q, h1, h2, fun q' => ?_⟩
        rw [← h3 q']
        exact ⟨fun y => ⟨y.1, y.2.1, (same q' y.1).mp y.2.2⟩, fun y => ⟨y.1, y.2.1, (same q' y.1).mpr y.2.2⟩⟩
theorem d_paid {n : Nat} (hn : 5000 < n) {d : St} {nf nl nc : Nat} {V : Nat → Nat → Int32} {P : LwP} (hv : VD d nf nl nc V P) (hb : VB nf nl nc V) {f x y : Nat} {m wh : Int32} (hF : FD d f x y m wh) : ∃ d', fX12_paidBy n d (nI f) = some (pdK (ownV V nf x y) (krs V (bt (gA P V (ownV V nf x y) m wh) nc) nc 6), d') ∧ Q2d d d' := by
  have h12 := hb.2.2.1
  unfold fX12_paidBy fX12_paidBy_19
  rw [d_finder hn hv hb hF.1 hF.2.1 hF.2.2.1 hF.2.2.2.1 hF.2.2.2.2.1, Option.bind_some]
  rcases ownV_rng hb x y with ho | ⟨p, hp, ho⟩
  · rw [ho, if_neg (by decide)]
    have main : ∀ (r i k : Nat), i + r = nc → r < k → fX12_paidBy_26 n k d (fnd (-1)) 0 (-1) (nI i) = some (-1, d) := by
      intro r
      induction r with
      | zero =>
        intro i k hi hk
        obtain ⟨k, rfl⟩ : ∃ k', k = k' + 1 := ⟨k - 1, by omega⟩
        rw [fX12_paidBy_26, hv.2.2.1, if_pos (nI_le (by omega) (by omega))]
      | succ r ih =>
        intro i k hi hk
        obtain ⟨k, rfl⟩ : ∃ k', k = k' + 1 := ⟨k - 1, by omega⟩
        rw [fX12_paidBy_26, hv.2.2.1, if_neg (nI_ge (by omega) (by omega)), show (0 : Int32) >>> (nI i &&& 31) &&& 1 = bit 0 i from bit_at (F := 0) (by omega) (by omega), if_pos (bit_0.mpr (by rw [Nat.zero_testBit]; decide)), bnd_x, nI_1]
        exact ih (i + 1) k (by omega) (by omega)
    have := main nc 0 n (by omega) (by omega)
    refine ⟨d, ?_, Q2d_rf d⟩
    rw [show pdK (-1) (krs V (bt (gA P V (-1) m wh) nc) nc 6) = -1 from if_pos neg1_lt]
    exact this
  · have efn : fnd (ownV V nf x y) = nI p := by
      unfold fnd
      rw [ho, if_pos (nI_pos' (by omega))]
    obtain ⟨d1, t1, t2⟩ := d_haveIt hn hv hb hF
    obtain ⟨b1, -⟩ := bt_12 (gA P V (ownV V nf x y) m wh) h12
    rw [efn, if_pos (nI_pos' (by omega)), t1, Option.bind_some]
    obtain ⟨R, e1, e2⟩ := d_paid_l (n := n) (P := P) (VD_Q hv (Q2d_q t2)) hb (B := bt (gA P V (ownV V nf x y) m wh) nc) (p := p) (by omega) hp nc 0 n (-1) (by omega) (by omega) (Or.inl ⟨rfl, fun q _ _ => by rw [cn]; omega⟩)
    have e1' : fX12_paidBy_26 n n d1 (nI p) (nI (bt (gA P V (ownV V nf x y) m wh) nc)) (-1) 0 = some (R, d1) := e1
    refine ⟨d1, ?_, t2⟩
    show fX12_paidBy_26 n n d1 (nI p) (nI (bt (gA P V (ownV V nf x y) m wh) nc)) (-1) 0 = _
    rw [e1']
    have e3 := IsA_alF (p := p) (krs_lt V (bt (gA P V (ownV V nf x y) m wh) nc) nc 6)
    have e4 : (fun q => (krs V (bt (gA P V (ownV V nf x y) m wh) nc) nc 6).testBit q = true ∧ ¬ q = p) = (fun q => q < 6 ∧ ¬ q = p ∧ 0 < cn V (bt (gA P V (ownV V nf x y) m wh) nc) q nc) := by
      funext q
      rw [krs_at, decide_eq_true_eq]
      exact propext ⟨fun y => ⟨y.1.1, y.2, y.1.2⟩, fun y => ⟨⟨y.1, y.2.2⟩, y.2.1⟩⟩
    rw [e4] at e3
    have e5 : pdK (ownV V nf x y) (krs V (bt (gA P V (ownV V nf x y) m wh) nc) nc 6) = alF (krs V (bt (gA P V (ownV V nf x y) m wh) nc) nc 6) p := by
      unfold pdK
      rw [if_neg (by rw [ho]; exact nI_pos (by omega)), ho, nIc (by omega)]
    rw [e5, IsA_1 e2 e3]
