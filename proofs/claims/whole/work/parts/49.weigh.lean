/-! which cries have a fall: the most, the bits, how many -/
def hv3 (g : Nat → Int32) : Nat → Int32 × Nat × Nat
  | 0 => (0, 0, 0)
  | n + 1 => if g n ≤ (hv3 g n).1 then (if 0 < g n ∧ g n = (hv3 g n).1 then ((hv3 g n).1, (hv3 g n).2.1 ||| 2 ^ n, (hv3 g n).2.2 + 1) else hv3 g n) else (g n, 2 ^ n, 1)
def mx (g : Nat → Int32) (n : Nat) : Int32 := (hv3 g n).1
def bt (g : Nat → Int32) (n : Nat) : Nat := (hv3 g n).2.1
def mn (g : Nat → Int32) (n : Nat) : Nat := (hv3 g n).2.2
theorem pop_congr {A B : Nat} : ∀ n, (∀ i, i < n → A.testBit i = B.testBit i) → pop A n = pop B n := by
  intro n
  induction n with
  | zero => intro _; rfl
  | succ n ih =>
    intro h
    rw [pop, pop, ih (fun i hi => h i (by omega)), h n (by omega)]
theorem pop_lt {A : Nat} {n : Nat} (h : A < 2 ^ n) : ∀ m, n ≤ m → pop A m = pop A n := by
  intro m hm
  induction m with
  | zero => rw [show n = 0 by omega]
  | succ m ih =>
    by_cases e : n = m + 1
    · rw [e]
    · rw [pop, ih (by omega), Nat.testBit_lt_two_pow (Nat.lt_of_lt_of_le h (Nat.pow_le_pow_right (by omega) (show n ≤ m by omega)))]
      rfl
theorem pop_z : ∀ n, pop 0 n = 0 := by
  intro n
  induction n with
  | zero => rfl
  | succ n ih => rw [pop, ih]; simp
theorem i32_cmp (a b : Int32) : a < b ∨ a = b ∨ b < a := by
  by_cases h1 : a < b
  · exact Or.inl h1
  · by_cases h2 : b < a
    · exact Or.inr (Or.inr h2)
    · refine Or.inr (Or.inl (Int32.toInt_inj.mp ?_))
      have q1 : ¬ a.toInt < b.toInt := fun q => h1 (Int32.lt_iff_toInt_lt.mpr q)
      have q2 : ¬ b.toInt < a.toInt := fun q => h2 (Int32.lt_iff_toInt_lt.mpr q)
      omega
theorem i32_lelt {a b c : Int32} (h : a ≤ b) (h2 : b < c) : a < c := Int32.lt_iff_toInt_lt.mpr (by
  have h1 := Int32.le_iff_toInt_le.mp h
  have h3 := Int32.lt_iff_toInt_lt.mp h2
  omega)
theorem i32_ltle' {a b : Int32} (h : a < b) : a ≤ b := Int32.le_iff_toInt_le.mpr (by
  have h1 := Int32.lt_iff_toInt_lt.mp h
  omega)
theorem i32_nle {a b : Int32} (h : ¬ a ≤ b) : b < a := Int32.lt_iff_toInt_lt.mpr (by
  have h1 : ¬ a.toInt ≤ b.toInt := fun q => h (Int32.le_iff_toInt_le.mpr q)
  omega)
theorem i32_ltlt {a b c : Int32} (h : a < b) (h2 : b < c) : a < c := i32_ltle h (i32_ltle' h2)
theorem i32_irr {a : Int32} (h : a < a) : False := by
  have h1 := Int32.lt_iff_toInt_lt.mp h
  omega
/-- all that is known of them -/
theorem hv_all (g : Nat → Int32) : ∀ n, 0 ≤ mx g n ∧ (∀ i, i < n → g i ≤ mx g n) ∧ (mx g n = 0 ∨ ∃ i, i < n ∧ g i = mx g n) ∧ (∀ i, (bt g n).testBit i = decide (i < n ∧ 0 < mx g n ∧ g i = mx g n)) ∧ bt g n < 2 ^ n ∧ mn g n = pop (bt g n) n := by
  intro n
  induction n with
  | zero =>
    refine ⟨i32_rf _, fun i hi => absurd hi (by omega), Or.inl rfl, fun i => ?_, by show 0 < 2 ^ 0; omega, rfl⟩
    show (0 : Nat).testBit i = _
    rw [Nat.zero_testBit, decide_eq_false (by omega)]
  | succ n ih =>
    obtain ⟨h1, h2, h3, h4, h5, h6⟩ := ih
    have h2n : 2 ^ (n + 1) = 2 * 2 ^ n := by rw [Nat.pow_succ]; omega
    by_cases c1 : g n ≤ mx g n
    · by_cases c2 : 0 < g n ∧ g n = mx g n
      · have e : hv3 g (n + 1) = (mx g n, bt g n ||| 2 ^ n, mn g n + 1) := by
          rw [hv3]
          show (if g n ≤ mx g n then (if 0 < g n ∧ g n = mx g n then (mx g n, bt g n ||| 2 ^ n, mn g n + 1) else hv3 g n) else (g n, 2 ^ n, 1)) = _
          rw [if_pos c1, if_pos c2]
        have e1 : mx g (n + 1) = mx g n := by unfold mx; rw [e]; rfl
        have e2 : bt g (n + 1) = bt g n ||| 2 ^ n := by show (hv3 g (n + 1)).2.1 = _; rw [e]
        have e3 : mn g (n + 1) = mn g n + 1 := by show (hv3 g (n + 1)).2.2 = _; rw [e]
        rw [e1, e2, e3]
        refine ⟨h1, fun i hi => ?_, Or.inr ⟨n, by omega, c2.2⟩, fun i => ?_, ?_, ?_⟩
        · by_cases q : i = n
          · rw [q]; exact c1
          · exact h2 i (by omega)
        · rw [Nat.testBit_or, h4, Nat.testBit_two_pow]
          by_cases q : n = i
          · subst q
            rw [decide_eq_false (p := n < n ∧ 0 < mx g n ∧ g n = mx g n) (by omega), decide_eq_true (p := n = n) rfl, decide_eq_true (p := n < n + 1 ∧ 0 < mx g n ∧ g n = mx g n) ⟨by omega, by rw [← c2.2]; exact c2.1, c2.2⟩]
            rfl
          · rw [decide_eq_false q, Bool.or_false]
            by_cases q2 : i < n ∧ 0 < mx g n ∧ g i = mx g n
            · rw [decide_eq_true q2, decide_eq_true ⟨by omega, q2.2⟩]
            · rw [decide_eq_false q2, decide_eq_false (fun q3 => q2 ⟨by omega, q3.2⟩)]
        · exact Nat.or_lt_two_pow (by omega) (by omega)
        · rw [pop, h6, pop_congr (A := bt g n ||| 2 ^ n) (B := bt g n) n (fun i hi => by rw [Nat.testBit_or, Nat.testBit_two_pow, decide_eq_false (by omega), Bool.or_false]), Nat.testBit_or, Nat.testBit_two_pow]
          simp
      · have e : hv3 g (n + 1) = hv3 g n := by
          rw [hv3]
          show (if g n ≤ mx g n then (if 0 < g n ∧ g n = mx g n then (mx g n, bt g n ||| 2 ^ n, mn g n + 1) else hv3 g n) else (g n, 2 ^ n, 1)) = _
          rw [if_pos c1, if_neg c2]
        have e1 : mx g (n + 1) = mx g n := by unfold mx; rw [e]
        have e2 : bt g (n + 1) = bt g n := by unfold bt; rw [e]
        have e3 : mn g (n + 1) = mn g n := by unfold mn; rw [e]
        rw [e1, e2, e3]
        refine ⟨h1, fun i hi => ?_, ?_, fun i => ?_, by omega, ?_⟩
        · by_cases q : i = n
          · rw [q]; exact c1
          · exact h2 i (by omega)
        · rcases h3 with h3 | ⟨i, hi, h3⟩
          · exact Or.inl h3
          · exact Or.inr ⟨i, by omega, h3⟩
        · rw [h4]
          by_cases q2 : i < n ∧ 0 < mx g n ∧ g i = mx g n
          · rw [decide_eq_true q2, decide_eq_true ⟨by omega, q2.2⟩]
          · rw [decide_eq_false q2, decide_eq_false (fun q3 => by
              by_cases q : i = n
              · subst q
                exact c2 ⟨by rw [q3.2.2]; exact q3.2.1, q3.2.2⟩
              · exact q2 ⟨by omega, q3.2⟩)]
        · rw [h6, pop_lt h5 (n + 1) (by omega)]
    · have e : hv3 g (n + 1) = (g n, 2 ^ n, 1) := by
        rw [hv3]
        show (if g n ≤ mx g n then (if 0 < g n ∧ g n = mx g n then (mx g n, bt g n ||| 2 ^ n, mn g n + 1) else hv3 g n) else (g n, 2 ^ n, 1)) = _
        rw [if_neg c1]
      have e1 : mx g (n + 1) = g n := by unfold mx; rw [e]
      have e2 : bt g (n + 1) = 2 ^ n := by unfold bt; rw [e]
      have e3 : mn g (n + 1) = 1 := by unfold mn; rw [e]
      have c1' := i32_nle c1
      rw [e1, e2, e3]
      refine ⟨i32_ltle' (i32_lelt h1 c1'), fun i hi => ?_, Or.inr ⟨n, by omega, rfl⟩, fun i => ?_, by omega, ?_⟩
      · by_cases q : i = n
        · rw [q]; exact i32_rf _
        · exact i32_ltle' (i32_lelt (h2 i (by omega)) c1')
      · rw [Nat.testBit_two_pow]
        by_cases q : n = i
        · subst q
          rw [decide_eq_true rfl, decide_eq_true ⟨by omega, i32_lelt h1 c1', rfl⟩]
        · rw [decide_eq_false q, decide_eq_false (fun q3 => by
            have := i32_lelt (h2 i (by omega)) c1'
            rw [q3.2.2] at this
            exact i32_irr this)]
      · rw [pop, pop_congr (A := 2 ^ n) (B := 0) n (fun i hi => by rw [Nat.testBit_two_pow, Nat.zero_testBit, decide_eq_false (by omega)]), pop_z, Nat.testBit_two_pow]
        simp
theorem hv_congr {g g' : Nat → Int32} : ∀ n, (∀ i, i < n → g i = g' i) → hv3 g n = hv3 g' n := by
  intro n
  induction n with
  | zero => intro _; rfl
  | succ n ih =>
    intro h
    rw [hv3, hv3, ih (fun i hi => h i (by omega)), h n (by omega)]
theorem shl_1b {j : Nat} (hj : j < 31) : (1 : Int32) <<< (nI j &&& 31) = nI (2 ^ j) := by
  have h2 : 2 ^ j < 2 ^ 32 := Nat.pow_lt_pow_right (by omega) (by omega)
  rw [show (1 : Int32) = nI 1 from rfl, pk_shlN (n := 1) _ j (shl_l j (by omega)) (by omega), Nat.one_mul]
/-- scratch of the law, and of the fall weighed last -/
def Qw (c c' : St) : Prop := (∀ k, k ≠ 19 → k ≠ 20 → k ≠ 24 → gI c' k = gI c k) ∧ ∀ k, gL c' k = gL c k
theorem Qw_q {c c' : St} (h : Qw c c') : Qc c c' := ⟨fun k q => h.1 k (by omega) (by omega) (by omega), h.2⟩
theorem Qw_tr {a b c : St} (h1 : Qw a b) (h2 : Qw b c) : Qw a c := ⟨fun k p q r => (h2.1 k p q r).trans (h1.1 k p q r), fun k => (h2.2 k).trans (h1.2 k)⟩
theorem Q2c_w {c c' : St} (h : Q2c c c') : Qw c c' := ⟨fun k q r _ => h.1 k q r, h.2⟩
theorem Qw_sI (c : St) (i : Nat) (v : Int32) : Qw c (sI c 24 i v) := ⟨fun a _ _ h => by rw [gI_sIx, if_neg h], fun _ => rfl⟩
theorem Qw_rf (c : St) : Qw c c := ⟨fun _ _ _ _ => rfl, fun _ => rfl⟩
/-- how much each cry counts, but one -/
def gW (P : LwP) (V : Nat → Nat → Int32) (o m wh wo : Int32) : Nat → Int32 := fun i => if nI i = wo then 0 else wtV P o m wh (V 10 i) (V 11 i) (V 12 i) (V 13 i)
theorem c_weigh_l {n : Nat} (hn : 5000 < n) {nf nl nc : Nat} {V : Nat → Nat → Int32} {P : LwP} (hb : VB nf nl nc V) {f m : Nat} (hf : f < 13) (hm : V 8 f = nI m) (hm2 : m < 100000) (o wo : Int32) : ∀ (r i k : Nat) (c : St), i + r = nc → r < k → VC c nf nl nc V P → gI c 24 1 = mx (gW P V o (V 8 f) (V 9 f) wo) i → gI c 24 2 = nI (bt (gW P V o (V 8 f) (V 9 f) wo) i) → gI c 24 3 = nI (mn (gW P V o (V 8 f) (V 9 f) wo) i) → ∃ c', fX6_weigh_18 n k c (nI f) o wo (nI i) = some c' ∧ Qw c c' ∧ gI c' 24 1 = mx (gW P V o (V 8 f) (V 9 f) wo) nc ∧ gI c' 24 2 = nI (bt (gW P V o (V 8 f) (V 9 f) wo) nc) ∧ gI c' 24 3 = nI (mn (gW P V o (V 8 f) (V 9 f) wo) nc) := by
  generalize hg : gW P V o (V 8 f) (V 9 f) wo = g
  have h12 := hb.2.2.1
  intro r
  induction r with
  | zero =>
    intro i k c hi hk hv w1 w2 w3
    obtain ⟨k, rfl⟩ : ∃ k', k = k' + 1 := ⟨k - 1, by omega⟩
    have e : i = nc := by omega
    subst e
    rw [fX6_weigh_18, hv.2.2.1, if_pos (i32_rf _)]
    exact ⟨c, rfl, Qw_rf c, w1, w2, w3⟩
  | succ r ih =>
    intro i k c hi hk hv w1 w2 w3
    obtain ⟨k, rfl⟩ : ∃ k', k = k' + 1 := ⟨k - 1, by omega⟩
    rw [fX6_weigh_18, hv.2.2.1, if_neg (nI_ge (by omega) (by omega))]
    obtain ⟨a1, a2, a3, a4, a5, a6⟩ := hv_all g i
    have main : ∀ c1, Qw c c1 → gI c1 24 1 = mx g i → gI c1 24 2 = nI (bt g i) → gI c1 24 3 = nI (mn g i) → ∃ c', fX6_weigh_48 (fX6_weigh_18 n k) n c1 (nI f) o wo (nI i) (g i) = some c' ∧ Qw c c' ∧ gI c' 24 1 = mx g nc ∧ gI c' 24 2 = nI (bt g nc) ∧ gI c' 24 3 = nI (mn g nc) := by
      intro c1 hq w1 w2 w3
      have go : ∀ c2, Qw c c2 → gI c2 24 1 = mx g (i + 1) → gI c2 24 2 = nI (bt g (i + 1)) → gI c2 24 3 = nI (mn g (i + 1)) → ∃ c', fX6_weigh_18 n k c2 (nI f) o wo (nI (i + 1)) = some c' ∧ Qw c c' ∧ gI c' 24 1 = mx g nc ∧ gI c' 24 2 = nI (bt g nc) ∧ gI c' 24 3 = nI (mn g nc) := by
        intro c2 hq2 x1 x2 x3
        obtain ⟨c', y1, y2, y3⟩ := ih (i + 1) k c2 (by omega) (by omega) (VC_Q hv (Qw_q hq2)) x1 x2 x3
        exact ⟨c', y1, Qw_tr hq2 y2, y3⟩
      unfold fX6_weigh_48 fX6_weigh_75
      rw [w1]
      by_cases z1 : g i ≤ mx g i
      · rw [if_pos z1]
        by_cases z2 : 0 < g i ∧ g i = mx g i
        · have e : hv3 g (i + 1) = (mx g i, bt g i ||| 2 ^ i, mn g i + 1) := by
            rw [hv3]
            show (if g i ≤ mx g i then (if 0 < g i ∧ g i = mx g i then (mx g i, bt g i ||| 2 ^ i, mn g i + 1) else hv3 g i) else (g i, 2 ^ i, 1)) = _
            rw [if_pos z1, if_pos z2]
          rw [if_neg (fun q => fa_nle z2.1 q), if_pos z2.2]
          simp only [bnd_x, gI_sIx, reduceIte, upd_x, Nat.reduceEqDiff, w2, w3, nI_1, shl_1b (show i < 31 by omega), or_nI]
          refine go _ (Qw_tr (Qw_tr hq (Qw_sI _ _ _)) (Qw_sI _ _ _)) ?_ ?_ ?_
          · show gI c1 24 1 = (hv3 g (i + 1)).1; rw [e, w1]
          · show nI (bt g i ||| 2 ^ i) = nI ((hv3 g (i + 1)).2.1); rw [e]
          · show nI (mn g i + 1) = nI ((hv3 g (i + 1)).2.2); rw [e]
        · have e : hv3 g (i + 1) = hv3 g i := by
            rw [hv3]
            show (if g i ≤ mx g i then (if 0 < g i ∧ g i = mx g i then (mx g i, bt g i ||| 2 ^ i, mn g i + 1) else hv3 g i) else (g i, 2 ^ i, 1)) = _
            rw [if_pos z1, if_neg z2]
          have fin := go c1 hq (by unfold mx; rw [e]; exact w1) (by unfold bt; rw [e]; exact w2) (by unfold mn; rw [e]; exact w3)
          by_cases z3 : g i ≤ 0
          · rw [if_pos z3, bnd_x, nI_1]
            exact fin
          · rw [if_neg z3, if_neg (fun q => z2 ⟨i32_nle z3, q⟩), bnd_x, nI_1]
            exact fin
      · rw [if_neg z1]
        have e : hv3 g (i + 1) = (g i, 2 ^ i, 1) := by
          rw [hv3]
          show (if g i ≤ mx g i then (if 0 < g i ∧ g i = mx g i then (mx g i, bt g i ||| 2 ^ i, mn g i + 1) else hv3 g i) else (g i, 2 ^ i, 1)) = _
          rw [if_neg z1]
        have z4 : 0 < g i := i32_lelt a1 (i32_nle z1)
        simp only [bnd_x, gI_sIx, reduceIte, upd_x, Nat.reduceEqDiff]
        rw [if_neg (fun q => fa_nle z4 q)]
        simp only [nI_1, shl_1b (show i < 31 by omega)]
        rw [show (0 : Int32) ||| nI (2 ^ i) = nI (2 ^ i) by rw [show (0 : Int32) = nI 0 from rfl, or_nI, Nat.zero_or]]
        refine go _ (Qw_tr (Qw_tr (Qw_tr (Qw_tr (Qw_tr hq (Qw_sI _ _ _)) (Qw_sI _ _ _)) (Qw_sI _ _ _)) (Qw_sI _ _ _)) (Qw_sI _ _ _)) ?_ ?_ ?_
        · show g i = (hv3 g (i + 1)).1; rw [e]
        · show nI (2 ^ i) = nI ((hv3 g (i + 1)).2.1); rw [e]
        · show (0 : Int32) + 1 = nI ((hv3 g (i + 1)).2.2); rw [e]; rfl
    have hgi : g i = if nI i = wo then 0 else wtV P o (V 8 f) (V 9 f) (V 10 i) (V 11 i) (V 12 i) (V 13 i) := by rw [← hg]; rfl
    by_cases z : nI i = wo
    · rw [if_pos z] at hgi
      rw [if_pos z, ← hgi]
      exact main c (Qw_rf c) w1 w2 w3
    · rw [if_neg z] at hgi
      rw [if_neg z]
      obtain ⟨w, a, hw, ha, v10, v11⟩ := cry_nat hb (show i < nc by omega)
      obtain ⟨c1, e1, e2⟩ := c_countIf hn hv hf (show i < 13 by omega) hm hm2 v11 (by omega) o
      rw [e1, Option.bind_some, ← hgi]
      exact main c1 (Q2c_w e2) (by rw [e2.1 24 (by omega) (by omega)]; exact w1) (by rw [e2.1 24 (by omega) (by omega)]; exact w2) (by rw [e2.1 24 (by omega) (by omega)]; exact w3)
theorem c_weigh {n : Nat} (hn : 5000 < n) {c : St} {nf nl nc : Nat} {V : Nat → Nat → Int32} {P : LwP} (hv : VC c nf nl nc V P) (hb : VB nf nl nc V) {f m : Nat} (hf : f < 13) (hm : V 8 f = nI m) (hm2 : m < 100000) (o wo : Int32) : ∃ c', fX6_weigh n c (nI f) o wo = some c' ∧ Qw c c' ∧ gI c' 24 1 = mx (gW P V o (V 8 f) (V 9 f) wo) nc ∧ gI c' 24 2 = nI (bt (gW P V o (V 8 f) (V 9 f) wo) nc) ∧ gI c' 24 3 = nI (mn (gW P V o (V 8 f) (V 9 f) wo) nc) := by
  unfold fX6_weigh
  simp only [bnd_x]
  have hq : Qw c (sI (sI (sI c 24 1 0) 24 2 0) 24 3 0) := Qw_tr (Qw_tr (Qw_sI _ _ _) (Qw_sI _ _ _)) (Qw_sI _ _ _)
  obtain ⟨c', e1, e2, e3⟩ := c_weigh_l hn hb hf hm hm2 o wo nc 0 n (sI (sI (sI c 24 1 0) 24 2 0) 24 3 0) (by omega) (by have := hb.2.2.1; omega) (VC_Q hv (Qw_q hq)) rfl rfl rfl
  exact ⟨c', e1, Qw_tr hq e2, e3⟩
