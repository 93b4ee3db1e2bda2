theorem neg_in {a lo hi s : Int32} {N : Nat} (hlo : lo.toInt = s.toInt - N) (hhi : hi = s) (hs1 : -100 ≤ s.toInt) (hs2 : s.toInt < 0) (hN : N < 1000) (h : lo ≤ a ∧ a ≤ hi) : ∃ p : Nat, p ≤ N ∧ s - a = nI p := by
  have h1 := Int32.le_iff_toInt_le.mp h.1
  have h2 := Int32.le_iff_toInt_le.mp h.2
  rw [hhi] at h2
  rw [hlo] at h1
  have e : (s - a).toInt = s.toInt - a.toInt := by rw [Int32.toInt_sub, Int.bmod_eq_of_le (by omega) (by omega)]
  refine nI_of2 (M := nI N) (nI_toInt (by omega)) (fun q => ?_) (Int32.le_iff_toInt_le.mpr ?_)
  · have q1 := Int32.lt_iff_toInt_lt.mp q
    rw [e] at q1
    have e0 : (0 : Int32).toInt = 0 := rfl
    omega
  · rw [e, nI_toInt (by omega)]
    omega
theorem two_pos {a : Int32} (h : fX12_areTwo a = true) : ¬ a < 0 := fun q => by
  unfold fX12_areTwo at h
  rw [if_pos q] at h
  cases h
set_option maxHeartbeats 1000000 in
theorem s_owed {n : Nat} (hn : 5000 < n) : S_owed Rel n := by
  intro c d a1 h
  obtain ⟨nf, nl, nc, P, hc, hd, hb⟩ := views h
  obtain ⟨c', x1, x2, x3⟩ := c_reck hn hc hb
  obtain ⟨d', y1, y2, y3⟩ := d_findOwed hn hd hb
  unfold fX11_owed fX12_owed fX11_owed_35
  rw [y1, x1, isW, isW, isI, isI, pair_eq]
  simp only [Option.bind_some, bnd_x, if_bI, bI_0]
  have r0 := Rel_Q h (Qc_rf c) (Qo_q y3)
  have r1 := Rel_Q h (Qs_q x3) (Qo_q y3)
  cases h2 : fX12_areTwo a1 with
  | true =>
    obtain ⟨p, q, hp, hq, e1, e2⟩ := two_in h2
    have hn0 := two_pos h2
    have n1 : ¬ (-6 ≤ a1 ∧ a1 ≤ -1) := fun q => hn0 (i32_lelt q.2 (by decide))
    have n2 : ¬ (-16 ≤ a1 ∧ a1 ≤ -11) := fun q => hn0 (i32_lelt q.2 (by decide))
    rw [decide_eq_false n1, decide_eq_false n2]
    unfold fX11_debtAt
    simp only [cond_true, cond_false, reduceIte, e1, e2, at_nI, inB_t (show 6 * p + q < 36 by omega) (by omega), gd_true, nIc (show 6 * p + q < 100000 by omega), x2 _ (show 6 * p + q < 36 by omega), y2 _ (show 6 * p + q < 36 by omega)]
    exact ⟨_, c', d', rfl, rfl, r1⟩
  | false =>
    by_cases n1 : -6 ≤ a1 ∧ a1 ≤ -1
    · obtain ⟨p, hp, e⟩ := neg_in (s := -1) (N := 5) (by decide) rfl (by decide) (by decide) (by omega) n1
      rw [decide_eq_true n1, e, c_owes hn x2 (show p < 6 by omega), d_owesAll hn y2 (show p < 6 by omega)]
      refine ⟨_, c', d', ?_, rfl, r1⟩
      simp
    · rw [decide_eq_false n1]
      by_cases n2 : -16 ≤ a1 ∧ a1 ≤ -11
      · obtain ⟨p, hp, e⟩ := neg_in (s := -11) (N := 5) (by decide) rfl (by decide) (by decide) (by omega) n2
        rw [decide_eq_true n2, e, c_isOwed hn x2 (show p < 6 by omega), d_owedAll hn y2 (show p < 6 by omega)]
        refine ⟨_, c', d', ?_, rfl, r1⟩
        simp
      · rw [decide_eq_false n2]
        exact ⟨-2000000000, c, d', rfl, rfl, r0⟩
/-- debts of a fall are added to what is owed in deed -/
theorem fd_add {n : Nat} (hn : 5000 < n) {j : Nat} (hj : j < 11) : ∀ (r i k : Nat) (d : St) (v : Int32), i + r = 36 → r < k → ∃ d', fX12_find_51 n k d (nI j) v (nI i) = some (v, d') ∧ (∀ x, x < 36 → gI d' 31 x = if i ≤ x then gI d 31 x + gI d 27 x else gI d 31 x) ∧ (∀ x, gI d' 30 x = if x = j then 1 else gI d 30 x) ∧ (∀ x, gI d' 32 x = if x = 0 then gI d 32 0 + 1 else gI d 32 x) ∧ (∀ q, q ≠ 30 → q ≠ 31 → q ≠ 32 → gI d' q = gI d q) ∧ (∀ q, gL d' q = gL d q) := by
  intro r
  induction r with
  | zero =>
    intro i k d v hi hk
    obtain ⟨k, rfl⟩ : ∃ k', k = k' + 1 := ⟨k - 1, by omega⟩
    rw [fX12_find_51, if_pos (show (36 : Int32) ≤ nI i from nI_le (a := 36) (by omega) (by omega)), inB_t hj (by omega), gd_true, nIc (by omega), bnd_x, bnd_x, show vp_nar .boolean (1 : Int32) = 1 from rfl]
    refine ⟨_, rfl, fun x hx => ?_, fun x => ?_, fun x => ?_, fun q h1 h2 h3 => ?_, fun q => rfl⟩
    · rw [gI_sIx, if_neg (by omega), gI_sIx, if_neg (by omega), if_neg (by omega)]
    · rw [gI_sIx, if_neg (by omega), gI_sIx, if_pos rfl, upd_x]
    · rw [gI_sIx, if_pos rfl, upd_x]
      rfl
    · rw [gI_sIx, if_neg h3, gI_sIx, if_neg h1]
  | succ r ih =>
    intro i k d v hi hk
    obtain ⟨k, rfl⟩ : ∃ k', k = k' + 1 := ⟨k - 1, by omega⟩
    rw [fX12_find_51, if_neg (show ¬ (36 : Int32) ≤ nI i from nI_ge (b := 36) (by omega) (by omega)), inB_t (show i < 36 by omega) (by omega), gd_true, gd_true, gd_true, nIc (by omega), bnd_x, bnd_x, nI_1]
    obtain ⟨d', e1, e2, e3, e4, e5, e6⟩ := ih (i + 1) k (sI d 31 i (gI d 31 i + gI d 27 i)) v (by omega) (by omega)
    refine ⟨d', e1, fun x hx => ?_, fun x => ?_, fun x => ?_, fun q h1 h2 h3 => ?_, e6⟩
    · have g1 : gI (sI d 31 i (gI d 31 i + gI d 27 i)) 31 x = if x = i then gI d 31 i + gI d 27 i else gI d 31 x := by rw [gI_sIx, if_pos rfl, upd_x]
      have g2 : gI (sI d 31 i (gI d 31 i + gI d 27 i)) 27 x = gI d 27 x := by rw [gI_sIx, if_neg (by omega)]
      rw [e2 x hx, g1, g2]
      by_cases e : x = i
      · rw [if_neg (by omega), if_pos e, if_pos (by omega), e]
      · rw [if_neg e]
        by_cases e' : i ≤ x
        · rw [if_pos (by omega), if_pos e']
        · rw [if_neg (by omega), if_neg e']
    · exact e3 x
    · exact e4 x
    · rw [e5 q h1 h2 h3, gI_sIx, if_neg h2]
theorem fd_zero {n : Nat} (hn : 5000 < n) (v1 : Int32) : ∀ (r i k : Nat) (d : St), i + r = 36 → r < k → (∀ j, j < i → gI d 27 j = 0) → ∃ d', fX12_find_24 n k d v1 (nI i) = (fX12_oweBy n d' v1).bind (fun r5 => fX12_find_51 n n r5.2 v1 r5.1 (0 : Int32)) ∧ (∀ j, j < 36 → gI d' 27 j = 0) ∧ Qo d d' := by
  intro r
  induction r with
  | zero =>
    intro i k d hi hk hA
    obtain ⟨k, rfl⟩ : ∃ k', k = k' + 1 := ⟨k - 1, by omega⟩
    rw [fX12_find_24, if_pos (show (36 : Int32) ≤ nI i from nI_le (a := 36) (by omega) (by omega))]
    exact ⟨d, rfl, fun j hj => hA j (by omega), Qo_rf d⟩
  | succ r ih =>
    intro i k d hi hk hA
    obtain ⟨k, rfl⟩ : ∃ k', k = k' + 1 := ⟨k - 1, by omega⟩
    rw [fX12_find_24, if_neg (show ¬ (36 : Int32) ≤ nI i from nI_ge (b := 36) (by omega) (by omega)), inB_t (show i < 36 by omega) (by omega), gd_true, nIc (by omega), bnd_x, bnd_x, nI_1]
    obtain ⟨d', e1, e2, e3⟩ := ih (i + 1) k (sI d 27 i 0) (by omega) (by omega) (fun j hj => by
      rw [gI_sIx, if_pos rfl, upd_x]
      by_cases e : j = i
      · rw [if_pos e]
      · rw [if_neg e]; exact hA j (by omega))
    exact ⟨d', e1, e2, Qo_tr (show Qo d (sI d 27 i 0) from ⟨fun q _ _ h => by rw [gI_sIx, if_neg h], fun _ => rfl⟩) e3⟩
theorem pop_set {F j : Nat} (hF : F.testBit j = false) : ∀ n, pop (F ||| 2 ^ j) n = pop F n + (if j < n then 1 else 0) := by
  intro n
  induction n with
  | zero => rfl
  | succ n ih =>
    rw [pop, pop, ih, Nat.testBit_or, Nat.testBit_two_pow]
    by_cases e : j = n
    · subst e
      rw [hF, decide_eq_true rfl, if_neg (show ¬ j < j by omega), if_pos (show j < j + 1 by omega)]
      simp
    · rw [decide_eq_false e, Bool.or_false]
      by_cases e2 : j < n
      · rw [if_pos e2, if_pos (show j < n + 1 by omega)]
        omega
      · rw [if_neg e2, if_neg (show ¬ j < n + 1 by omega)]
        omega
set_option maxHeartbeats 2000000 in
theorem s_find {n : Nat} (hn : 5000 < n) : S_find Rel n := by
  intro c d a1 h
  obtain ⟨nf, nl, nc, P, hc, hd, hb⟩ := views h
  generalize hV : (fun w j => gI c (3 + w) j) = V at hc hd hb
  have h10 := hb.2.1
  obtain ⟨hL, hC, hD, hI, hB, hS, hT, hW⟩ := id h
  obtain ⟨⟨F, F1, F2, F3, F4, F5⟩, D1, D2, D3, D4⟩ := id hD
  unfold fX11_find fX12_find fX11_isFall fX12_isFall
  rw [hc.2.1, hd.2.1, isW, isI]
  simp only [if_bI, some_eta]
  by_cases h1 : 0 ≤ a1 ∧ a1 ≤ nI nl - 1
  · rw [decide_eq_true h1]
    obtain ⟨f, hf, rfl⟩ := (cnt_in a1 (by omega)).mp h1
    simp only [cond_true]
    rw [F2, bit_at (show F < 2 ^ 31 by omega) (show f < 32 by omega), inB_t (show f < 11 by omega) (by omega), gd_true, nIc (by omega), F3 f (by omega)]
    by_cases z : F.testBit f = true
    · rw [if_neg (fun q => bit_0.mp q z), if_neg (fun q => bit_0.mp q z)]
      exact ⟨_, c, d, rfl, rfl, h⟩
    · rw [if_pos (bit_0.mpr z), if_pos (bit_0.mpr z), bnd_x, shl_1b (by omega), or_nI]
      obtain ⟨x, y, m, hx, hy, hm, v6, v7, v8⟩ := fall_nat hb hf
      have hst : ∀ q, q ≠ 39 → gI (sI c 39 1 (nI (F ||| 2 ^ f))) q = gI c q := fun q hq => by rw [gI_sIx, if_neg hq]
      have hc1 : VC (sI c 39 1 (nI (F ||| 2 ^ f))) nf nl nc V P := VC_fr hc (hst 1 (by omega)) (hst 17 (by omega)) (hst 18 (by omega)) (hst 23 (by omega)) (fun w j hw hj => by rw [hst (3 + w) (by omega)]; exact hc.2.2.2.1 w j hw hj)
      obtain ⟨c', x1, x2, x3, x4⟩ := c_settle2 hn hc1 hb (show f < 13 by omega) hx hy v6 v7 v8 (by omega)
      rw [x1]
      obtain ⟨d1, y1, y2, y3⟩ := fd_zero hn (nI f) 36 0 n d rfl (by omega) (fun j hj => absurd hj (by omega))
      rw [show (0 : Int32) = nI 0 from rfl, y1]
      have hd1 := VD_Q hd (Qo_q y3)
      obtain ⟨d2, z1, z2, z3⟩ := d_oweBy hn hd1 hb (FD_of hd1 hb hf hx hy v6 v7)
      rw [z1, Option.bind_some]
      obtain ⟨d', w1, w2, w3, w4, w5, w6⟩ := fd_add hn (show f < 11 by omega) 36 0 n d2 (nI (sumN P V nc (ownV V nf x y) (V 8 f) (V 9 f))) rfl (by omega)
      refine ⟨_, c', d', rfl, w1, ?_⟩
      have gc : ∀ q, q ≠ 19 → q ≠ 20 → q ≠ 24 → q ≠ 39 → q ≠ 40 → gI c' q = gI c q := fun q a b e f g => by rw [x3.1 q a b e g, hst q f]
      have gd0 : ∀ q, q ≠ 25 → q ≠ 26 → q ≠ 27 → gI d2 q = gI d q := fun q a b e => by rw [z3.1 q a b e, y3.1 q a b e]
      have gd' : ∀ q, q ≠ 25 → q ≠ 26 → q ≠ 27 → q ≠ 30 → q ≠ 31 → q ≠ 32 → gI d' q = gI d q := fun q a b e f g i => by rw [w5 q f g i, gd0 q a b e]
      have g39 : gI c' 39 1 = nI (F ||| 2 ^ f) := by rw [x3.1 39 (by omega) (by omega) (by omega) (by omega), gI_sIx, if_pos rfl, upd_x, if_pos rfl]
      have g39' : ∀ i, i ≠ 1 → gI c' 39 i = gI c 39 i := fun i hi => by rw [x3.1 39 (by omega) (by omega) (by omega) (by omega), gI_sIx, if_pos rfl, upd_x, if_neg hi]
      have glc : ∀ k, gL c' k = gL c k := fun k => x3.2 k
      have gld : gL d' 41 = gL d 41 := by rw [w6, z3.2, y3.2]
      have hm' : cle c c' := cle_eq fun i _ _ => by rw [gc 1 (by omega) (by omega) (by omega) (by omega) (by omega)]
      have kc : ∀ k i, ¬ (k = 19 ∨ k = 20 ∨ k = 24 ∨ k = 39 ∨ k = 40) → gI c' k i = gI c k i := fun k i q => by rw [gc k (by omega) (by omega) (by omega) (by omega) (by omega)]
      have kd : ∀ k i, ¬ (25 ≤ k ∧ k ≤ 27) → ¬ (30 ≤ k ∧ k ≤ 32) → gI d' k i = gI d k i := fun k i q r => by rw [gd' k (by omega) (by omega) (by omega) (by omega) (by omega) (by omega)]
      have zf : F.testBit f = false := by cases q : F.testBit f with
        | true => exact absurd q z
        | false => rfl
      refine ⟨RLa_fr hL (fun k i q => kc k i ?_) (fun k i q => kd k i ?_ ?_), RC_fr hC hm' (fun k i q => kc k i ?_) (fun k i q => kd k i ?_ ?_), ⟨⟨F ||| 2 ^ f, ?_, g39, fun j hj => ?_, fun j hj q => ?_, ?_⟩, fun j hj => ?_, ?_, ?_, ?_⟩, RI_fr hI hm' (fun k i q => kc k i ?_) (fun k i q => kd k i ?_ ?_), RB_fr hB (fun k i q => kc k i ?_) (fun k i q => kd k i ?_ ?_), RS_fr hS ?_ (fun k i q => kc k i ?_) (fun k i q => kd k i ?_ ?_) (fun k _ _ => glc k) gld, RT_fr hT (fun k i q => kc k i ?_) (fun k i q => kd k i ?_ ?_), RW_fr hW (fun k i q => kc k i ?_) (fun k i q => kd k i ?_ ?_)⟩
      all_goals first
        | (unfold fLc fpL at q; omega)
        | (unfold fLd fpL at q; omega)
        | (unfold fCc at q; omega)
        | (unfold fCd at q; omega)
        | (unfold fIc at q; omega)
        | (unfold fId at q; omega)
        | (unfold fBc at q; omega)
        | (unfold fBd at q; omega)
        | (unfold fSc at q; omega)
        | (unfold fSd at q; omega)
        | (unfold fTc at q; omega)
        | (unfold fTd at q; omega)
        | (unfold fWc at q; omega)
        | (unfold fWd at q; omega)
        | skip
      · exact Nat.or_lt_two_pow (n := 10) F1 (Nat.pow_lt_pow_right (by omega) (by omega))
      · rw [w3 j, gd0 30 (by omega) (by omega) (by omega)]
        unfold bit
        rw [Nat.testBit_or, Nat.testBit_two_pow]
        by_cases e : j = f
        · rw [if_pos e, e, decide_eq_true rfl, Bool.or_true, if_pos rfl]
        · rw [if_neg e, decide_eq_false (fun q => e q.symm), Bool.or_false]
          exact F3 j hj
      · rw [kc 1 2 (by omega)] at q
        rw [Nat.testBit_or, Nat.testBit_two_pow, F4 j hj q]
        have hc2 : gI c 1 2 = nI nl := hc.2.1
        rw [hc2, nIle (by omega) (by omega)] at q
        rw [decide_eq_false (by omega)]
        rfl
      · rw [w4 0, if_pos rfl, gd0 32 (by omega) (by omega) (by omega), F5, nI_1, pop_set zf 10, if_pos (by omega)]
      · rw [w2 j hj, if_pos (by omega), gd0 31 (by omega) (by omega) (by omega), z2 j hj, y2 j hj, D1 j hj, show gI c' (39 + 1) j = gI c' 40 j from rfl, x2 j hj, hst 40 (by omega), Int32.zero_add]
      · rw [w4 1, if_neg (by omega), gd0 32 (by omega) (by omega) (by omega), g39' 2 (by omega)]; exact D2
      · rw [w4 2, if_neg (by omega), gd0 32 (by omega) (by omega) (by omega), g39' 3 (by omega)]; exact D3
      · rw [w4 3, if_neg (by omega), gd0 32 (by omega) (by omega) (by omega), g39' 4 (by omega)]; exact D4
      · rw [kc 49 1 (by omega)]; exact i32_rf _
  · rw [decide_eq_false h1]
    exact ⟨_, c, d, rfl, rfl, h⟩
