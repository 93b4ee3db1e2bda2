/-! owners told anew -/
theorem sR_add {D A B : Nat → Nat} (h : ∀ k, D k = A k + B k) (w : Nat) : ∀ r q, sR D w r q = sR A w r q + sR B w r q := by
  intro r
  induction r with
  | zero => intro q; rfl
  | succ r ih =>
    intro q
    rw [sR, sR, sR, ih, h]
    omega
theorem sR_z {D : Nat → Nat} {w : Nat} (h : ∀ q, D (6 * w + q) = 0) : ∀ r q, sR D w r q = 0 := by
  intro r
  induction r with
  | zero => intro q; rfl
  | succ r ih => intro q; rw [sR, ih, h]
theorem sR_one (p w s : Nat) : ∀ r q, sR (fun k => if k = 6 * p + w then s else 0) p r q = if q ≤ w ∧ w < q + r then s else 0 := by
  intro r
  induction r with
  | zero => intro q; rw [sR, if_neg (by omega)]
  | succ r ih =>
    intro q
    rw [sR, ih]
    by_cases z : q = w
    · rw [if_pos (by omega), if_neg (by omega), if_pos (by omega)]; rfl
    · rw [if_neg (by omega)]
      by_cases z2 : q + 1 ≤ w ∧ w < q + 1 + r
      · rw [if_pos z2, if_pos (by omega)]; omega
      · rw [if_neg z2, if_neg (by omega)]
theorem sR_pyd {nf nl nc : Nat} {V : Nat → Nat → Int32} (hb : VB nf nl nc V) {B p s : Nat} (hp : p < 6) : ∀ i, i ≤ nc → sR (pyd V B p s i) p 6 0 = s * cw V B p i := by
  intro i
  induction i with
  | zero => intro _; rw [sR_z (fun q => pyd_0 V B p s _)]; rfl
  | succ i ih =>
    intro hi
    obtain ⟨w, a, hw, ha, v10, v11⟩ := cry_nat hb (show i < nc by omega)
    by_cases z : B.testBit i = true ∧ ¬ V 10 i = nI p
    · rw [cw_y z, sR_add (A := pyd V B p s i) (B := fun k => if k = 6 * p + w then s else 0) (fun k => pyd_y z.1 v10 hw hp (fun e => z.2 (by rw [v10, e]))), ih (by omega), sR_one, if_pos (by omega), Nat.mul_add, Nat.mul_one]
    · rw [cw_n z, ← ih (by omega)]
      congr 1
      funext k
      exact pyd_n z hp
theorem sR_owe {P : LwP} {nf nl nc w : Nat} {V : Nat → Nat → Int32} (hb : VB nf nl nc V) {o m wh : Int32} (ho : o = -1 ∨ ∃ k : Nat, k < 6 ∧ o = nI k) (hw : w < 6) : sR (oweN P V nc o m wh) w 6 0 = if o = nI w then sumN P V nc o m wh else 0 := by
  rcases ho with rfl | ⟨p, hp, rfl⟩
  · rw [if_neg (fun e => neg1_nI (by omega) e.symm)]
    exact sR_z (fun q => by unfold oweN; rw [if_pos neg1_lt]) 6 0
  · have hz : ¬ nI p < 0 := nI_pos (by omega)
    have e : oweN P V nc (nI p) m wh = pyd V (bt (gA P V (nI p) m wh) nc) p (12 / mn (gA P V (nI p) m wh) nc) nc := by
      funext k
      unfold oweN
      rw [if_neg hz, nIc (by omega)]
    by_cases q : p = w
    · subst q
      rw [if_pos rfl, e, sR_pyd hb hp nc (Nat.le_refl _)]
      unfold sumN
      rw [if_neg hz, nIc (by omega)]
    · rw [if_neg (fun y => q (by rw [nIeq (by omega) (by omega)] at y; exact y)), e]
      have hk : ∀ r k, k + r = 6 → sR (pyd V (bt (gA P V (nI p) m wh) nc) p (12 / mn (gA P V (nI p) m wh) nc) nc) w r k = 0 := by
        intro r
        induction r with
        | zero => intro k _; rfl
        | succ r ih =>
          intro k hk
          rw [sR, ih (k + 1) (by omega)]
          unfold pyd
          rw [if_neg (by omega)]
      exact hk 6 0 rfl
theorem owe_V {P : LwP} {V V' : Nat → Nat → Int32} (h : ∀ a, 10 ≤ a → V' a = V a) (nc : Nat) (o m wh : Int32) : oweN P V' nc o m wh = oweN P V nc o m wh := by
  funext k
  have e : gA P V' o m wh = gA P V o m wh := by
    unfold gA
    rw [h 10 (by omega), h 11 (by omega), h 12 (by omega), h 13 (by omega)]
  unfold oweN pyd
  rw [e, cn_V (V := V) (fun i => by rw [h 10 (by omega)])]
theorem sum_V {P : LwP} {V V' : Nat → Nat → Int32} (h : ∀ a, 10 ≤ a → V' a = V a) (nc : Nat) (o m wh : Int32) : sumN P V' nc o m wh = sumN P V nc o m wh := by
  have e : gA P V' o m wh = gA P V o m wh := by
    unfold gA
    rw [h 10 (by omega), h 11 (by omega), h 12 (by omega), h 13 (by omega)]
  have e2 : ∀ B p n, cw V' B p n = cw V B p n := fun B p n => by
    induction n with
    | zero => rfl
    | succ n ih => rw [cw, cw, ih, h 10 (by omega)]
  unfold sumN
  rw [e, e2]
/-- fields of a set get an owner, the first j -/
def setV (V : Nat → Nat → Int32) (x : Int32) (s j : Nat) : Nat → Nat → Int32 := fun a i => if a = 4 ∧ i < j ∧ s.testBit i = true then x else V a i
theorem set_0 (V : Nat → Nat → Int32) (x : Int32) (s : Nat) : setV V x s 0 = V := by
  funext a i
  unfold setV
  rw [if_neg (by omega)]
theorem set_n {V : Nat → Nat → Int32} {x : Int32} {s j : Nat} (h : ¬ s.testBit j = true) : setV V x s (j + 1) = setV V x s j := by
  funext a i
  unfold setV
  by_cases z : a = 4 ∧ i < j ∧ s.testBit i = true
  · rw [if_pos z, if_pos ⟨z.1, by omega, z.2.2⟩]
  · rw [if_neg z, if_neg (fun q => z ⟨q.1, by
      have : i ≠ j := fun e => h (by rw [← e]; exact q.2.2)
      omega, q.2.2⟩)]
theorem set_y {V : Nat → Nat → Int32} {x : Int32} {s j : Nat} (h : s.testBit j = true) : setV V x s (j + 1) = modV (setV V x s j) 4 j x := by
  funext a i
  unfold modV setV
  by_cases z : a = 4 ∧ i = j
  · rw [if_pos z, if_pos ⟨z.1, by omega, by rw [z.2]; exact h⟩]
  · rw [if_neg z]
    by_cases z2 : a = 4 ∧ i < j ∧ s.testBit i = true
    · rw [if_pos z2, if_pos ⟨z2.1, by omega, z2.2.2⟩]
    · rw [if_neg z2, if_neg (fun q => z2 ⟨q.1, by
        have : i ≠ j := fun e => z ⟨q.1, e⟩
        omega, q.2.2⟩)]
theorem set_f {V : Nat → Nat → Int32} {x : Int32} {s j a : Nat} (h : a ≠ 4) : setV V x s j a = V a := by
  funext i
  unfold setV
  rw [if_neg (fun q => h q.1)]
theorem set_VB {nf nl nc s j : Nat} {V : Nat → Nat → Int32} {x : Int32} (hb : VB nf nl nc V) (h : -1 ≤ x ∧ x ≤ 5) : VB nf nl nc (setV V x s j) := by
  refine ⟨hb.1, hb.2.1, hb.2.2.1, fun a i ha hi => ?_⟩
  unfold setV
  by_cases z : a = 4 ∧ i < j ∧ s.testBit i = true
  · rw [if_pos z, z.1]; exact h
  · rw [if_neg z]; exact hb.2.2.2 a i ha hi
/-- only the owners of fields are others, and scratch -/
def Q5 (nf : Nat) (d d' : St) : Prop := (∀ k i, k ≠ 25 → k ≠ 26 → k ≠ 27 → ¬ (k = 5 ∧ i < nf) → gI d' k i = gI d k i) ∧ ∀ k, gL d' k = gL d k
theorem Q5_o {nf : Nat} {d d' : St} (h : Qo d d') : Q5 nf d d' := ⟨fun k i p q r _ => by rw [h.1 k p q r], h.2⟩
theorem Q5_tr {nf : Nat} {a b c : St} (h1 : Q5 nf a b) (h2 : Q5 nf b c) : Q5 nf a c := ⟨fun k i p q r s => (h2.1 k i p q r s).trans (h1.1 k i p q r s), fun k => (h2.2 k).trans (h1.2 k)⟩
theorem Q5_sI {nf j : Nat} (hj : j < nf) (d : St) (v : Int32) : Q5 nf d (sI d 5 j v) := ⟨fun k i _ _ _ q => by rw [gIp, if_neg (by omega)], fun _ => rfl⟩
theorem d_keep {n : Nat} (hn : 5000 < n) {d : St} {nf : Nat} (h8 : nf ≤ 8) (h1 : gI d 0 1 = nI nf) : ∃ d', fX12_keepOwners n d = some d' ∧ (∀ i, i < nf → gI d' 28 i = gI d 5 i) ∧ (∀ k, k ≠ 28 → gI d' k = gI d k) ∧ ∀ k, gL d' k = gL d k := by
  have main : ∀ (r j k : Nat) (e : St), j + r = nf → r < k → (∀ i, i < j → gI e 28 i = gI d 5 i) → (∀ k, k ≠ 28 → gI e k = gI d k) → (∀ k, gL e k = gL d k) → ∃ d', fX12_keepOwners_2 n k e (nI j) = some d' ∧ (∀ i, i < nf → gI d' 28 i = gI d 5 i) ∧ (∀ k, k ≠ 28 → gI d' k = gI d k) ∧ ∀ k, gL d' k = gL d k := by
    intro r
    induction r with
    | zero =>
      intro j k e hj hk q1 q2 q3
      obtain ⟨k, rfl⟩ : ∃ k', k = k' + 1 := ⟨k - 1, by omega⟩
      rw [fX12_keepOwners_2, q2 0 (by omega), h1, if_pos (nI_le (by omega) (by omega))]
      exact ⟨e, rfl, fun i hi => q1 i (by omega), q2, q3⟩
    | succ r ih =>
      intro j k e hj hk q1 q2 q3
      obtain ⟨k, rfl⟩ : ∃ k', k = k' + 1 := ⟨k - 1, by omega⟩
      rw [fX12_keepOwners_2, q2 0 (by omega), h1, if_neg (nI_ge (by omega) (by omega)), inB_t (show j < 8 by omega) (by omega), gd_true, gd_true, bnd_x, bnd_x, nIc (by omega), nI_1]
      refine ih (j + 1) k _ (by omega) (by omega) (fun i hi => ?_) (fun k hk => by rw [gI_sIx, if_neg hk]; exact q2 k hk) q3
      rw [gIp]
      by_cases z : i = j
      · rw [if_pos ⟨rfl, z⟩, q2 5 (by omega), z]
      · rw [if_neg (fun q => z q.2)]; exact q1 i (by omega)
  unfold fX12_keepOwners
  exact main nf 0 n d (by omega) (by omega) (fun i hi => absurd hi (by omega)) (fun _ _ => rfl) (fun _ => rfl)
theorem d_lay {n : Nat} (hn : 5000 < n) {d d0 : St} {nf : Nat} (h8 : nf ≤ 8) (h1 : gI d0 0 1 = nI nf) (h28 : ∀ i, i < nf → gI d0 28 i = gI d0 5 i) (hq : Q5 nf d0 d) : ∃ d', fX12_layOwners n d = some d' ∧ Qo d0 d' := by
  have main : ∀ (r j k : Nat) (e : St), j + r = nf → r < k → Q5 nf d0 e → (∀ i, i < j → gI e 5 i = gI d0 5 i) → ∃ d', fX12_layOwners_2 n k e (nI j) = some d' ∧ Qo d0 d' := by
    intro r
    induction r with
    | zero =>
      intro j k e hj hk q1 q2
      obtain ⟨k, rfl⟩ : ∃ k', k = k' + 1 := ⟨k - 1, by omega⟩
      rw [fX12_layOwners_2, q1.1 0 1 (by omega) (by omega) (by omega) (by omega), h1, if_pos (nI_le (by omega) (by omega))]
      refine ⟨e, rfl, fun k p q r => ?_, q1.2⟩
      funext i
      by_cases z : k = 5 ∧ i < nf
      · rw [z.1]; exact q2 i (by omega)
      · exact q1.1 k i p q r z
    | succ r ih =>
      intro j k e hj hk q1 q2
      obtain ⟨k, rfl⟩ : ∃ k', k = k' + 1 := ⟨k - 1, by omega⟩
      rw [fX12_layOwners_2, q1.1 0 1 (by omega) (by omega) (by omega) (by omega), h1, if_neg (nI_ge (by omega) (by omega)), inB_t (show j < 8 by omega) (by omega), gd_true, gd_true, bnd_x, bnd_x, nIc (by omega), nI_1]
      refine ih (j + 1) k _ (by omega) (by omega) (Q5_tr q1 (Q5_sI (by omega) _ _)) (fun i hi => ?_)
      rw [gIp]
      by_cases z : i = j
      · rw [if_pos ⟨rfl, z⟩, q1.1 28 j (by omega) (by omega) (by omega) (by omega), h28 j (by omega), z]
      · rw [if_neg (fun q => z q.2)]; exact q2 i (by omega)
  unfold fX12_layOwners
  exact main nf 0 n d (by omega) (by omega) hq (fun i hi => absurd hi (by omega))
/-- a set gets its owner, then the reckoning -/
theorem d_buy_set {n : Nat} {nf nl nc : Nat} {V : Nat → Nat → Int32} {P : LwP} (h8 : nf ≤ 8) {s : Nat} (hs : s < 2 ^ 31) (K : St → Int32 → Int32 → Int32 → Int32 → Int32 → Int32 → Int32 → Option (Int32 × St)) (x v2 v3 v4 v5 v6 v8 : Int32) : ∀ (r j k : Nat) (d : St), j + r = nf → r < k → VD d nf nl nc (setV V x s j) P → ∃ d' k', fX12_buy_79 K n k d x v2 v3 v4 v5 v6 (nI s) v8 (nI j) = fX12_buy_79 K n (k' + 1) d' x v2 v3 v4 v5 v6 (nI s) v8 (nI nf) ∧ VD d' nf nl nc (setV V x s nf) P ∧ Q5 nf d d' := by
  intro r
  induction r with
  | zero =>
    intro j k d hj hk hv
    obtain ⟨k, rfl⟩ : ∃ k', k = k' + 1 := ⟨k - 1, by omega⟩
    have e : j = nf := by omega
    subst e
    exact ⟨d, k, rfl, hv, Q5_o (Qo_rf d)⟩
  | succ r ih =>
    intro j k d hj hk hv
    obtain ⟨k, rfl⟩ : ∃ k', k = k' + 1 := ⟨k - 1, by omega⟩
    rw [fX12_buy_79, hv.1, if_neg (nI_ge (by omega) (by omega)), bit_at hs (by omega), inB_t (show j < 8 by omega) (by omega), gd_true]
    simp only [bnd_x, nIc (show j < 100000 by omega), nI_1]
    by_cases z : s.testBit j = true
    · rw [if_pos (bit_1.mpr z)]
      have hv' : VD (sI d 5 j x) nf nl nc (setV V x s (j + 1)) P := by
        rw [set_y z]
        exact mod_VD hv (w := 4) (by omega)
      obtain ⟨d', k', e1, e2, e3⟩ := ih (j + 1) k (sI d 5 j x) (by omega) (by omega) hv'
      exact ⟨d', k', e1, e2, Q5_tr (Q5_sI (by omega) d x) e3⟩
    · rw [if_neg (fun q => z (bit_1.mp q))]
      rw [← set_n z] at hv
      exact ih (j + 1) k d (by omega) (by omega) hv
theorem d_sell_set {n : Nat} {nf nl nc : Nat} {V : Nat → Nat → Int32} {P : LwP} (h8 : nf ≤ 8) {s : Nat} (hs : s < 2 ^ 31) (K : St → Int32 → Int32 → Int32 → Int32 → Int32 → Option (Int32 × St)) (v1 v2 v3 v4 : Int32) : ∀ (r j k : Nat) (d : St), j + r = nf → r < k → VD d nf nl nc (setV V (-1) s j) P → ∃ d' k', fX12_sellOff_111 K n k d v1 v2 v3 v4 (nI s) (nI j) = fX12_sellOff_111 K n (k' + 1) d' v1 v2 v3 v4 (nI s) (nI nf) ∧ VD d' nf nl nc (setV V (-1) s nf) P ∧ Q5 nf d d' := by
  intro r
  induction r with
  | zero =>
    intro j k d hj hk hv
    obtain ⟨k, rfl⟩ : ∃ k', k = k' + 1 := ⟨k - 1, by omega⟩
    have e : j = nf := by omega
    subst e
    exact ⟨d, k, rfl, hv, Q5_o (Qo_rf d)⟩
  | succ r ih =>
    intro j k d hj hk hv
    obtain ⟨k, rfl⟩ : ∃ k', k = k' + 1 := ⟨k - 1, by omega⟩
    rw [fX12_sellOff_111, hv.1, if_neg (nI_ge (by omega) (by omega)), bit_at hs (by omega), inB_t (show j < 8 by omega) (by omega), gd_true]
    simp only [bnd_x, nIc (show j < 100000 by omega), nI_1]
    by_cases z : s.testBit j = true
    · rw [if_pos (bit_1.mpr z)]
      have hv' : VD (sI d 5 j (-1)) nf nl nc (setV V (-1) s (j + 1)) P := by
        rw [set_y z]
        exact mod_VD hv (w := 4) (by omega)
      obtain ⟨d', k', e1, e2, e3⟩ := ih (j + 1) k (sI d 5 j (-1)) (by omega) (by omega) hv'
      exact ⟨d', k', e1, e2, Q5_tr (Q5_sI (by omega) d (-1)) e3⟩
    · rw [if_neg (fun q => z (bit_1.mp q))]
      rw [← set_n z] at hv
      exact ih (j + 1) k d (by omega) (by omega) hv
