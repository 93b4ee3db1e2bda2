/-! to buy never gains -/
theorem fld_4 {V V' : Nat → Nat → Int32} (h : ∀ a, a < 4 → V' a = V a) (x y : Nat) : ∀ m f, fldV V' x y m f = fldV V x y m f := by
  intro m
  induction m with
  | zero => intro f; rfl
  | succ m ih =>
    intro f
    rw [fldV, fldV, ih (f + 1)]
    unfold hitV
    rw [h 0 (by omega), h 1 (by omega), h 2 (by omega), h 3 (by omega)]
def fuV (V : Nat → Nat → Int32) (nf f : Nat) : Option Nat := fldV V (V 6 f).toNatClampNeg (V 7 f).toNatClampNeg nf 0
def oat (F : Nat → Int32) : Option Nat → Int32
  | none => -1
  | some g => F g
theorem owF_o (V : Nat → Nat → Int32) (nf f : Nat) : owF V nf f = oat (V 4) (fuV V nf f) := by
  unfold owF ownV fuV
  cases fldV V (V 6 f).toNatClampNeg (V 7 f).toNatClampNeg nf 0 <;> rfl
theorem fuV_lt {V : Nat → Nat → Int32} {nf f g : Nat} (h : fuV V nf f = some g) : g < nf := by
  have := fldV_lt nf 0 g h
  omega
theorem owF_set (V : Nat → Nat → Int32) (x : Int32) (s nf f : Nat) : owF (setV V x s nf) nf f = oat (fun g => if s.testBit g = true then x else V 4 g) (fuV V nf f) := by
  have e : fuV (setV V x s nf) nf f = fuV V nf f := by
    unfold fuV
    rw [set_f (by omega), set_f (by omega), fld_4 (fun a ha => set_f (by omega))]
  rw [owF_o, e]
  cases hf : fuV V nf f with
  | none => rfl
  | some g =>
    show setV V x s nf 4 g = if s.testBit g = true then x else V 4 g
    unfold setV
    have := fuV_lt hf
    by_cases z : s.testBit g = true
    · rw [if_pos z, if_pos ⟨rfl, this, z⟩]
    · rw [if_neg z, if_neg (fun q => z q.2.2)]
theorem buy_le {P : LwP} {nf nl nc p s : Nat} {V : Nat → Nat → Int32} (hb : VB nf nl nc V) (hp : p < 6) (hs : ∀ i, i < nf → s.testBit i = true → V 4 i ≠ nI p) : ∀ f, sC (DN P (setV V (nI p) s nf) nf nc f) p 6 0 ≤ sC (DN P V nf nc f) p 6 0 ∧ sR (DN P V nf nc f) p 6 0 ≤ sR (DN P (setV V (nI p) s nf) nf nc f) p 6 0 := by
  intro f
  induction f with
  | zero => exact ⟨Nat.le_refl _, Nat.le_refl _⟩
  | succ f ih =>
    have h1 : ∀ k, DN P (setV V (nI p) s nf) nf nc (f + 1) k = DN P (setV V (nI p) s nf) nf nc f k + oweN P V nc (owF (setV V (nI p) s nf) nf f) (V 8 f) (V 9 f) k := fun k => by
      rw [DN, set_f (by omega), set_f (by omega), owe_V (fun a ha => set_f (by omega))]
    have h2 : ∀ k, DN P V nf nc (f + 1) k = DN P V nf nc f k + oweN P V nc (owF V nf f) (V 8 f) (V 9 f) k := fun k => by rw [DN]
    have hb' : VB nf nl nc (setV V (nI p) s nf) := set_VB hb ⟨i32_lele (by decide) (nI_pos' (by omega)), nI_le (b := 5) (by omega) (by omega)⟩
    rw [sC_add h1, sC_add h2, sR_add h1, sR_add h2]
    have key : sC (oweN P V nc (owF (setV V (nI p) s nf) nf f) (V 8 f) (V 9 f)) p 6 0 ≤ sC (oweN P V nc (owF V nf f) (V 8 f) (V 9 f)) p 6 0 ∧ sR (oweN P V nc (owF V nf f) (V 8 f) (V 9 f)) p 6 0 ≤ sR (oweN P V nc (owF (setV V (nI p) s nf) nf f) (V 8 f) (V 9 f)) p 6 0 := by
      rw [sC_owe (owF_rng hb' f) hp, sR_owe hb (owF_rng hb f) hp]
      have ho := owF_o V nf f
      have ho' := owF_set V (nI p) s nf f
      cases hf : fuV V nf f with
      | none =>
        rw [hf] at ho ho'
        have e : owF (setV V (nI p) s nf) nf f = owF V nf f := ho'.trans ho.symm
        rw [e, sC_owe (owF_rng hb f) hp, sR_owe hb (owF_rng hb f) hp]
        exact ⟨Nat.le_refl _, Nat.le_refl _⟩
      | some g =>
        have hg := fuV_lt hf
        rw [hf] at ho ho'
        by_cases z : s.testBit g = true
        · have e' : owF (setV V (nI p) s nf) nf f = nI p := by rw [ho']; exact if_pos z
          have e : ¬ owF V nf f = nI p := by rw [ho]; exact hs g hg z
          rw [e', if_neg (nI_pos (by omega)), if_pos rfl, if_neg e]
          exact ⟨Nat.zero_le _, Nat.zero_le _⟩
        · have e : owF (setV V (nI p) s nf) nf f = owF V nf f := by rw [ho', ho]; exact if_neg z
          rw [e, sC_owe (owF_rng hb f) hp, sR_owe hb (owF_rng hb f) hp]
          exact ⟨Nat.le_refl _, Nat.le_refl _⟩
    omega
theorem wrt_le {P P' : LwP} {nf nl nc p : Nat} {V V' : Nat → Nat → Int32} (hnl : nl ≤ 10) (hnc : nc ≤ 12) (h : sC (DN P' V' nf nc nl) p 6 0 ≤ sC (DN P V nf nc nl) p 6 0 ∧ sR (DN P V nf nc nl) p 6 0 ≤ sR (DN P' V' nf nc nl) p 6 0) : wrt (DN P' V' nf nc nl) p ≤ wrt (DN P V nf nc nl) p := by
  have b1 := sC_le (p := p) (DN_DG (P := P) (V := V) (nf := nf) hnc nl hnl).1 6 0
  have b2 := sR_le (p := p) (DN_DG (P := P') (V := V') (nf := nf) hnc nl hnl).1 6 0
  unfold wrt
  rw [Int32.le_iff_toInt_le, pk_sub_toInt (by omega) (by omega), pk_sub_toInt (by omega) (by omega)]
  omega
theorem d_cost {n : Nat} (hn : 5000 < n) {d : St} {nf nl nc : Nat} {V : Nat → Nat → Int32} {P : LwP} (hv : VD d nf nl nc V P) (hb : VB nf nl nc V) {s p : Nat} (hs : s < 2 ^ 31) : ∃ R, fX12_costOf n d (nI p) (nI s) = some R ∧ (R < 0 ∨ (0 ≤ R ∧ ∀ i, i < nf → s.testBit i = true → V 4 i ≠ nI p)) ∧ (s = 0 → R = nI 0) := by
  have h8 := hb.1
  have main : ∀ (r j k a : Nat), j + r = nf → r < k → a ≤ 100 * j → (∀ i, i < j → s.testBit i = true → V 4 i ≠ nI p) → ∃ R, fX12_costOf_5 n d k (nI p) (nI s) (nI a) (nI j) = some R ∧ (R < 0 ∨ (0 ≤ R ∧ ∀ i, i < nf → s.testBit i = true → V 4 i ≠ nI p)) ∧ (s = 0 → R = nI a) := by
    intro r
    induction r with
    | zero =>
      intro j k a hj hk ha hi
      obtain ⟨k, rfl⟩ : ∃ k', k = k' + 1 := ⟨k - 1, by omega⟩
      rw [fX12_costOf_5, hv.1, if_pos (nI_le (by omega) (by omega))]
      exact ⟨_, rfl, Or.inr ⟨nI_pos' (by omega), fun i hi2 => hi i (by omega)⟩, fun _ => rfl⟩
    | succ r ih =>
      intro j k a hj hk ha hi
      obtain ⟨k, rfl⟩ : ∃ k', k = k' + 1 := ⟨k - 1, by omega⟩
      have hct : ∀ w, w < 6 → j < ct nf nl nc w := fun w hw => by unfold ct; rw [if_pos hw]; omega
      obtain ⟨q, q1, -, q3⟩ := vb_nat hb 5 j 0 99 (by omega) (hct 5 (by omega)) rfl rfl (by omega) (by omega)
      have g5 : gI d 5 j = V 4 j := hv.2.2.2.1 4 j (by omega) (hct 4 (by omega))
      have g6 : gI d 6 j = nI q := (hv.2.2.2.1 5 j (by omega) (hct 5 (by omega))).trans q1
      rw [fX12_costOf_5, hv.1, if_neg (nI_ge (by omega) (by omega)), bit_at hs (by omega), inB_t (show j < 8 by omega) (by omega)]
      simp only [gd_true, bnd_x, nIc (show j < 100000 by omega), nI_1, g5, g6, nI_add]
      by_cases z : s.testBit j = true
      · rw [if_neg (fun e => bit_0.mp e z)]
        by_cases z2 : V 4 j = nI p
        · rw [if_pos z2]
          exact ⟨_, rfl, Or.inl neg1_lt, fun e => by rw [e, Nat.zero_testBit] at z; cases z⟩
        · rw [if_neg z2]
          obtain ⟨R, e1, e2, e3⟩ := ih (j + 1) k (a + q) (by omega) (by omega) (by omega) (fun i h1 h2 => by
            by_cases e : i = j
            · rw [e]; exact z2
            · exact hi i (by omega) h2)
          exact ⟨R, e1, e2, fun e => by rw [e, Nat.zero_testBit] at z; cases z⟩
      · rw [if_pos (bit_0.mpr z)]
        exact ih (j + 1) k a (by omega) (by omega) (by omega) (fun i h1 h2 => hi i (by
          have : i ≠ j := fun e => z (by rw [← e]; exact h2)
          omega) h2)
  unfold fX12_costOf
  exact main nf 0 n 0 (by omega) (by omega) (by omega) (fun i hi => absurd hi (by omega))
theorem d_buy_try {n : Nat} (hn : 5000 < n) {d0 d : St} {nf nl nc : Nat} {V : Nat → Nat → Int32} {P : LwP} (hv : VD d0 nf nl nc V P) (hb : VB nf nl nc V) (h28 : ∀ i, i < nf → gI d0 28 i = gI d0 5 i) (hq : Qo d0 d) {s p : Nat} (hs : s < 2 ^ 31) (hp : p < 6) (K : St → Int32 → Int32 → Int32 → Int32 → Int32 → Int32 → Int32 → Option (Int32 × St)) (v2 v3 v4 v5 v6 v8 : Int32) : ∃ d', fX12_buy_79 K n n d (nI p) v2 v3 v4 v5 v6 (nI s) v8 (nI 0) = (if v4 < 0 then K d' (nI p) v2 v3 (nI s) (wrt (DN P (setV V (nI p) s nf) nf nc nl) p) v8 (nI (s + 1)) else if wrt (DN P (setV V (nI p) s nf) nf nc nl) p < v5 then K d' (nI p) v2 v3 v4 v5 v6 (nI (s + 1)) else if wrt (DN P (setV V (nI p) s nf) nf nc nl) p = v5 then (if v8 < v6 then K d' (nI p) v2 v3 (nI s) (wrt (DN P (setV V (nI p) s nf) nf nc nl) p) v8 (nI (s + 1)) else K d' (nI p) v2 v3 v4 v5 v6 (nI (s + 1))) else K d' (nI p) v2 v3 (nI s) (wrt (DN P (setV V (nI p) s nf) nf nc nl) p) v8 (nI (s + 1))) ∧ Qo d0 d' := by
  have h8 := hb.1
  have hv1 : VD d nf nl nc (setV V (nI p) s 0) P := by rw [set_0]; exact VD_Q hv (Qo_q hq)
  obtain ⟨d1, k', e1, e2, e3⟩ := d_buy_set (n := n) h8 hs K (nI p) v2 v3 v4 v5 v6 v8 nf 0 n d (by omega) (by omega) hv1
  have hb' : VB nf nl nc (setV V (nI p) s nf) := set_VB hb ⟨i32_lele (by decide) (nI_pos' (by omega)), nI_le (b := 5) (by omega) (by omega)⟩
  obtain ⟨y, y1, y2, y3⟩ := d_findOwed hn e2 hb'
  obtain ⟨z, z1, z2⟩ := d_lay hn h8 hv.1 h28 (Q5_tr (Q5_o hq) (Q5_tr e3 (Q5_o y3)))
  rw [e1, fX12_buy_79, e2.1, if_pos (i32_rf _), y1, Option.bind_some, d_owedAll hn y2 hp, Option.bind_some, d_owesAll hn y2 hp, Option.bind_some, bnd_x, z1, Option.bind_some]
  simp only [bnd_x, nI_1]
  exact ⟨z, rfl, z2⟩
theorem d_buy_l {n : Nat} (hn : 5000 < n) {d0 : St} {nf nl nc : Nat} {V : Nat → Nat → Int32} {P : LwP} (hv : VD d0 nf nl nc V P) (hb : VB nf nl nc V) (h28 : ∀ i, i < nf → gI d0 28 i = gI d0 5 i) {p : Nat} (hp : p < 6) (a2 a3 : Int32) : ∀ (r s k : Nat) (d : St), s + r = 2 ^ nf → r < k → Qo d0 d → ∃ d', fX12_buy_42 n k d (nI p) a2 a3 (nI 0) (wrt (DN P V nf nc nl) p) (nI 0) (nI s) = some (if a3 = 0 then wrt (DN P V nf nc nl) p else nI 0, d') ∧ Qo d0 d' := by
  have h8 := hb.1
  have h10 := hb.2.1
  have h12 := hb.2.2.1
  have hpw : 2 ^ nf ≤ 256 := Nat.pow_le_pow_right (n := 2) (i := nf) (j := 8) (by omega) h8
  intro r
  induction r with
  | zero =>
    intro s k d hs hk hq
    obtain ⟨k, rfl⟩ : ∃ k', k = k' + 1 := ⟨k - 1, by omega⟩
    rw [fX12_buy_42, (VD_Q hv (Qo_q hq)).1, shl_1b (by omega), if_pos (nI_le (by omega) (by omega))]
    refine ⟨d, ?_, hq⟩
    by_cases z : a3 = 0
    · rw [if_pos z, if_pos z]
    · rw [if_neg z, if_neg z]
  | succ r ih =>
    intro s k d hs hk hq
    obtain ⟨k, rfl⟩ : ∃ k', k = k' + 1 := ⟨k - 1, by omega⟩
    obtain ⟨R, c1, c2, -⟩ := d_cost hn (VD_Q hv (Qo_q hq)) hb (p := p) (show s < 2 ^ 31 by omega)
    rw [fX12_buy_42, (VD_Q hv (Qo_q hq)).1, shl_1b (by omega), if_neg (nI_ge (by omega) (by omega)), c1, Option.bind_some]
    simp only [bnd_x, nI_1]
    have next := ih (s + 1) k d (by omega) (by omega) hq
    by_cases z1 : R < 0
    · rw [if_pos z1]
      exact next
    · rw [if_neg z1]
      by_cases z2 : R ≤ a2
      · rw [if_pos z2]
        rcases c2 with c2 | ⟨c2, c3⟩
        · exact absurd c2 z1
        · obtain ⟨d1, e1, e2⟩ := d_buy_try hn hv hb h28 hq (show s < 2 ^ 31 by omega) hp (fX12_buy_42 n k) a2 a3 (nI 0) (wrt (DN P V nf nc nl) p) (nI 0) R
          have e1' : fX12_buy_79 (fX12_buy_42 n k) n n d (nI p) a2 a3 (nI 0) (wrt (DN P V nf nc nl) p) (nI 0) (nI s) R 0 = _ := e1
          have hle := wrt_le h10 h12 (buy_le (P := P) (s := s) hb hp c3 nl)
          have next' := ih (s + 1) k d1 (by omega) (by omega) e2
          rw [e1', if_neg (show ¬ nI 0 < 0 from nI_pos (by omega))]
          by_cases z3 : wrt (DN P (setV V (nI p) s nf) nf nc nl) p < wrt (DN P V nf nc nl) p
          · rw [if_pos z3]
            exact next'
          · rw [if_neg z3, if_pos (i32_asy hle (fa_nlt z3)), if_neg (show ¬ R < nI 0 from fun q => fa_nle q c2)]
            exact next'
      · rw [if_neg z2]
        exact next
theorem set_s0 (V : Nat → Nat → Int32) (x : Int32) (j : Nat) : setV V x 0 j = V := by
  funext a i
  unfold setV
  rw [if_neg (fun q => by have := q.2.2; rw [Nat.zero_testBit] at this; cases this)]
set_option maxHeartbeats 1000000 in
theorem s_buy {n : Nat} (hn : 5000 < n) : S_buy Rel n := by
  intro c d a1 a2 a3 h
  obtain ⟨nf, nl, nc, P, hc, hd, hb⟩ := views h
  generalize hV : (fun w j => gI c (3 + w) j) = V at hc hd hb
  have h8 := hb.1
  have h12 := hb.2.2.1
  have hpw : 2 ^ nf ≤ 256 := Nat.pow_le_pow_right (n := 2) (i := nf) (j := 8) (by omega) h8
  have hp1 : 1 ≤ 2 ^ nf := Nat.one_le_two_pow
  unfold fX11_buy fX12_buy fX11_isPerson fX12_isPerson fX12_isMinute
  rw [isW, isI, isW, isI, isW, isI]
  simp only [if_bI]
  by_cases h1 : 0 ≤ a1 ∧ a1 ≤ 5
  · rw [decide_eq_true h1]
    obtain ⟨p, hp, rfl⟩ := (in_nat (n := 5) rfl (by omega)).mp h1
    by_cases h2 : 0 ≤ a2 ∧ a2 ≤ 999
    · rw [decide_eq_true h2]
      by_cases h3 : 0 ≤ a3 ∧ a3 ≤ 1
      · rw [decide_eq_true h3]
        simp only [cond_true]
        obtain ⟨d1, k1, k2, k3, k4⟩ := d_keep hn (d := d) h8 hd.1
        have hqd : Qd d d1 := ⟨fun k hk => k3 k (by omega), k4⟩
        have hd1 := VD_Q hd hqd
        have h28 : ∀ i, i < nf → gI d1 28 i = gI d1 5 i := fun i hi => by rw [k2 i hi, k3 5 (by omega)]
        obtain ⟨R, c1, c2, c3⟩ := d_cost hn hd1 hb (s := 0) (p := p) (by omega)
        have hR : R = nI 0 := c3 rfl
        subst hR
        rw [k1, Option.bind_some]
        obtain ⟨n', rfl⟩ : ∃ n', n = n' + 1 := ⟨n - 1, by omega⟩
        obtain ⟨d2, e1, e2⟩ := d_buy_try hn hd1 hb h28 (Qo_rf d1) (s := 0) (p := p) (by omega) (by omega) (fX12_buy_42 (n' + 1) n') a2 a3 (-1) 0 0 (nI 0)
        obtain ⟨d3, f1, f2⟩ := d_buy_l hn hd1 hb h28 (p := p) (by omega) a2 a3 (2 ^ nf - 1) 1 n' d2 (by omega) (by omega) e2
        rw [if_pos neg1_lt, set_s0] at e1
        have e0 : fX12_buy_42 (n' + 1) (n' + 1) d1 (nI p) a2 a3 (-1) 0 0 0 = some (if a3 = 0 then wrt (DN P V nf nc nl) p else nI 0, d3) := by
          rw [fX12_buy_42, hd1.1, shl_1b (by omega), if_neg (show ¬ nI (2 ^ nf) ≤ 0 from nI_ge (a := 0) (by omega) (by omega)), show (0 : Int32) = nI 0 from rfl, c1, Option.bind_some, if_neg (show ¬ nI 0 < nI 0 from fun q => i32_irr q), if_pos (show nI 0 ≤ a2 from h2.1)]
          exact e1.trans f1
        rw [e0]
        have hrel : ∀ c', Qc c c' → Rel c' d3 := fun c' q => Rel_Q h q (Qd_tr hqd (Qo_q f2))
        by_cases z : a3 = 1
        · rw [if_pos z, if_neg (show ¬ a3 = 0 by rw [z]; decide)]
          exact ⟨_, c, d3, rfl, rfl, hrel c (Qc_rf c)⟩
        · have z0 : a3 = 0 := by
            obtain ⟨j, hj, e⟩ := (in_nat (n := 1) rfl (by omega)).mp h3
            have : j ≠ 1 := fun q => z (by rw [e, q]; rfl)
            rw [e, show j = 0 by omega]
            rfl
          obtain ⟨c1', x1, x2, x3⟩ := c_reck hn hc hb
          rw [if_neg z, if_pos z0, x1, Option.bind_some, c_worth hn x2 (by omega), Option.bind_some]
          exact ⟨_, c1', d3, rfl, rfl, hrel c1' (Qs_q x3)⟩
      · rw [decide_eq_false h3]
        exact ⟨_, c, d, rfl, rfl, h⟩
    · rw [decide_eq_false h2]
      exact ⟨_, c, d, rfl, rfl, h⟩
  · rw [decide_eq_false h1]
    exact ⟨_, c, d, rfl, rfl, h⟩
