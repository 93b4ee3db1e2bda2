theorem cnt_in (v : Int32) {n : Nat} (hn : n < 100000) : (0 ≤ v ∧ v ≤ nI n - 1) ↔ ∃ j : Nat, j < n ∧ v = nI j := by
  cases n with
  | zero =>
    constructor
    · intro h
      have h1 : (0 : Int) ≤ v.toInt := Int32.le_iff_toInt_le.mp h.1
      have h2 := Int32.le_iff_toInt_le.mp h.2
      have e : (nI 0 - 1).toInt = -1 := rfl
      omega
    · rintro ⟨j, hj, -⟩
      omega
  | succ n =>
    rw [nI_s1, in_nat (n := n) rfl (by omega)]
    constructor
    · rintro ⟨j, hj, e⟩
      exact ⟨j, by omega, e⟩
    · rintro ⟨j, hj, e⟩
      exact ⟨j, by omega, e⟩
theorem shl_l : ∀ n, n < 32 → ((nI n &&& 31).toBitVec.smod 32).toNat = n := by decide +kernel
theorem and_nI (a b : Nat) : nI a &&& nI b = nI (a &&& b) := by
  apply Int32.toBitVec_inj.1
  show BitVec.ofNat 32 a &&& BitVec.ofNat 32 b = BitVec.ofNat 32 (a &&& b)
  apply BitVec.eq_of_getLsbD_eq
  intro i hi
  simp [hi]
theorem or_nI (a b : Nat) : nI a ||| nI b = nI (a ||| b) := by
  apply Int32.toBitVec_inj.1
  show BitVec.ofNat 32 a ||| BitVec.ofNat 32 b = BitVec.ofNat 32 (a ||| b)
  apply BitVec.eq_of_getLsbD_eq
  intro i hi
  simp [hi]
/-- the bit of a place -/
theorem bit_at {F j : Nat} (hF : F < 2 ^ 31) (hj : j < 32) : (nI F >>> (nI j &&& 31)) &&& 1 = bit F j := by
  rw [pk_shrN hF _ j (shl_l j hj), show (1 : Int32) = nI 1 from rfl, and_nI, Nat.and_one_is_mod]
  unfold bit
  rw [Nat.testBit_eq_decide_div_mod_eq]
  by_cases h : F / 2 ^ j % 2 = 1
  · rw [h]
    simp
    rfl
  · rw [show F / 2 ^ j % 2 = 0 by omega]
    simp
    rfl
theorem bc_all : ∀ F, F < 1024 → fJ6_bitCount_0f7a4 (nI F) = nI (pop F 10) := by decide +kernel
/-- a number that is told anew, on both sides -/
theorem RLa_put {c d : St} (h : RLa c d) {w j : Nat} {v : Int32} (hw : w < 14) (h1 : tb tLEAST w ≤ v) (h2 : v ≤ tb tMOST w) : RLa (sI c (3 + w) j v) (sI d (1 + w) j v) := by
  obtain ⟨⟨nf, f1, f2, f3⟩, ⟨nl, l1, l2, l3⟩, ⟨nc, c1, c2, c3⟩, hv⟩ := h
  have e1 : gI (sI c (3 + w) j v) 1 = gI c 1 := by rw [gI_sIx, if_neg (by omega)]
  have e0 : gI (sI d (1 + w) j v) 0 = gI d 0 := by rw [gI_sIx, if_neg (by omega)]
  refine ⟨⟨nf, f1, by rw [e1, f2], by rw [e0, f3]⟩, ⟨nl, l1, by rw [e1, l2], by rw [e0, l3]⟩, ⟨nc, c1, by rw [e1, c2], by rw [e0, c3]⟩, fun w' j' hw' hj' hlt => ?_⟩
  rw [e1] at hlt
  by_cases e : w' = w
  · subst e
    rw [gI_sIx, gI_sIx, if_pos rfl, if_pos rfl, upd_x, upd_x]
    by_cases ej : j' = j
    · rw [if_pos ej, if_pos ej]
      exact ⟨rfl, h1, h2⟩
    · rw [if_neg ej, if_neg ej]
      exact hv w' j' hw' hj' hlt
  · rw [gI_sIx, gI_sIx, if_neg (by omega), if_neg (by omega)]
    exact hv w' j' hw' hj' hlt
set_option maxHeartbeats 4000000 in
theorem s_give (n : Nat) : S_give Rel n := by
  intro c d a1 a2 h
  obtain ⟨hL, hC, hD, hI, hB, hS, hT, hW⟩ := id h
  obtain ⟨⟨nf, f1, f2, f3⟩, hl2, hc2, hv⟩ := id hL
  unfold fX11_give fX12_give fX11_isField fX12_isField
  rw [f2, f3, isW, isW, isI, isI]
  simp only [if_bI]
  by_cases h1 : 0 ≤ a1 ∧ a1 ≤ nI nf - 1
  · rw [decide_eq_true h1]
    by_cases h2 : -1 ≤ a2 ∧ a2 ≤ 5
    · rw [decide_eq_true h2]
      obtain ⟨j, hj, rfl⟩ := (cnt_in a1 (by omega)).mp h1
      have hvj := (hv 4 j (by omega) (by omega) (by show nI j < gI c 1 1; rw [f2, nIlt (by omega) (by omega)]; exact hj))
      simp only [cond_true, bnd_x, inB_t (show j < 13 by omega) (by omega), inB_t (show j < 8 by omega) (by omega), gd_true, nIc (show j < 100000 by omega), gI_sIx, reduceIte, Nat.reduceEqDiff, Nat.reduceAdd, upd_x]
      refine ⟨_, _, _, rfl, by rw [show gI d 5 j = gI c 7 j from hvj.1], ?_⟩
      have hL' := RLa_put (w := 4) (j := j) (v := a2) hL (by omega) h2.1 h2.2
      refine ⟨RLa_fr hL' ?_ ?_, RC_fr hC (cle_eq fun _ _ _ => rfl) ?_ ?_, ?_, RI_fr hI (cle_eq fun _ _ _ => rfl) ?_ ?_, RB_fr hB ?_ ?_, RS_fr hS (i32_rf _) ?_ ?_ (fun _ _ _ => rfl) rfl, RT_fr hT ?_ ?_, RW_fr hW ?_ ?_⟩
      rotate_left 4
      · obtain ⟨hF, b1, b2, b3, b4⟩ := hD
        refine ⟨hF, b1, b2, b3, ?_⟩
        show gI d 32 3 + 1 = gI c 39 4 + 1
        rw [b4]
      all_goals repeat (first | exact alk_rf | refine alk_sI ?_ (by first | (unfold fLc fpL; omega) | (unfold fLd fpL; omega) | (unfold fCc; omega) | (unfold fCd; omega) | (unfold fDc; omega) | (unfold fDd; omega) | (unfold fIc; omega) | (unfold fId; omega) | (unfold fBc; omega) | (unfold fBd; omega) | (unfold fSc; omega) | (unfold fSd; omega) | (unfold fTc; omega) | (unfold fTd; omega) | (unfold fWc; omega) | (unfold fWd; omega)) | refine alk_sL ?_ | refine alk_sLs ?_)
    · rw [decide_eq_false h2]
      exact ⟨_, _, _, rfl, rfl, h⟩
  · rw [decide_eq_false h1]
    exact ⟨_, _, _, rfl, rfl, h⟩
theorem s_trace (n : Nat) : S_trace Rel n := by
  intro c d a1 h
  obtain ⟨hL, hC, hD, hI, hB, hS, hT, hW⟩ := id h
  obtain ⟨hb, nr, r1, r2, r3, r4⟩ := id hB
  unfold fX11_trace fX12_trace
  have em : mnI (nI nr) 24 = nI (if 24 < nr then 24 else nr) := by
    unfold mnI
    rw [show (24 : Int32) = nI 24 from rfl]
    by_cases q : 24 < nr
    · rw [if_pos (by rw [nIlt (by omega) (by omega)]; exact q), if_pos q]
    · rw [if_neg (by rw [nIlt (by omega) (by omega)]; exact q), if_neg q]
  have hq : (if 24 < nr then 24 else nr) < 100000 := by split <;> omega
  rw [r2, r3, em, isW]
  simp only [if_bI]
  by_cases h1 : 0 ≤ a1 ∧ a1 ≤ nI (if 24 < nr then 24 else nr) - 1
  · rw [decide_eq_true h1]
    obtain ⟨j, hj, rfl⟩ := (cnt_in a1 hq).mp h1
    have hj1 : j < nr := by split at hj <;> omega
    have hj2 : j < 24 := by split at hj <;> omega
    simp only [cond_true, inB_t hj2 (by omega), gd_true, nIc (show j < 100000 by omega)]
    refine ⟨_, _, _, ⟨rfl, rfl⟩, ⟨?_, rfl⟩, h⟩
    rw [if_neg (nI_pos (by omega)), if_neg (by rw [nIle (by omega) (by omega)]; omega), if_neg (by rw [show (24 : Int32) = nI 24 from rfl, nIle (by omega) (by omega)]; omega), r4 j hj1 hj2]
  · rw [decide_eq_false h1]
    refine ⟨_, _, _, ⟨rfl, rfl⟩, ⟨?_, rfl⟩, h⟩
    by_cases q0 : a1 < 0
    · rw [if_pos q0]
    rw [if_neg q0]
    by_cases q1 : nI nr ≤ a1
    · rw [if_pos q1]
    rw [if_neg q1]
    by_cases q2 : (24 : Int32) ≤ a1
    · rw [if_pos q2]
    exfalso
    apply h1
    rw [cnt_in a1 hq]
    obtain ⟨j, hj, rfl⟩ := nI_of q0
    have q2' : ¬ 24 ≤ j := fun e => q2 (nI_le (a := 24) e hj)
    have q1' : ¬ nr ≤ j := fun e => q1 (nI_le e hj)
    exact ⟨j, by split <;> omega, rfl⟩
theorem two_in {a : Int32} (h : fX12_areTwo a = true) : ∃ p q : Nat, p < 6 ∧ q < 6 ∧ a / 10 = nI p ∧ rmI a 10 = nI q := by
  unfold fX12_areTwo at h
  by_cases h0 : a < 0
  · rw [if_pos h0] at h; cases h
  rw [if_neg h0] at h
  simp only [if_bI] at h
  cases h1 : fX12_isPerson (a / 10) with
  | false => rw [h1] at h; cases h
  | true =>
    cases h2 : fX12_isPerson (rmI a 10) with
    | false => rw [h1, h2] at h; cases h
    | true =>
      obtain ⟨p, p1, p2⟩ := per_in h1
      obtain ⟨q, q1, q2⟩ := per_in h2
      exact ⟨p, q, p1, q1, p2, q2⟩
theorem pair_eq (a : Int32) : fX11_isPair a = fX12_areTwo a := rfl
theorem at_nI (p q : Nat) : (6 : Int32) * nI p + nI q = nI (6 * p + q) := by
  rw [show (6 : Int32) = nI 6 from rfl, pk_mul, nI_add]
set_option maxHeartbeats 4000000 in
theorem s_pay (n : Nat) : S_pay Rel n := by
  intro c d a1 a2 h
  obtain ⟨hL, hC, hD, hI, hB, hS, hT, hW⟩ := id h
  unfold fX11_pay fX12_pay fX11_debtAt
  rw [pair_eq, isW, isI]
  simp only [if_bI]
  cases h1 : fX12_areTwo a1 with
  | false => exact ⟨_, _, _, rfl, rfl, h⟩
  | true =>
  obtain ⟨p, q, hp, hq, e1, e2⟩ := two_in h1
  rw [e1, e2, at_nI]
  simp only [cond_true]
  by_cases h2 : nI p = nI q
  · rw [if_pos h2, if_pos h2]
    exact ⟨_, _, _, rfl, rfl, h⟩
  rw [if_neg h2, if_neg h2]
  by_cases h3 : 1 ≤ a2 ∧ a2 ≤ 999
  · rw [decide_eq_true h3]
    have hx : 6 * p + q < 36 := by omega
    obtain ⟨hF, b1, b2, b3, b4⟩ := id hD
    simp only [cond_true, bnd_x, inB_t hx (by omega), gd_true, nIc (show 6 * p + q < 100000 by omega), b1 _ hx]
    by_cases h4 : a2 ≤ gI c 40 (6 * p + q)
    · rw [if_pos h4, if_pos h4]
      simp only [gI_sIx, reduceIte, Nat.reduceEqDiff, Nat.reduceAdd, upd_x]
      refine ⟨_, _, _, rfl, rfl, ?_⟩
      refine ⟨RLa_fr hL ?_ ?_, RC_fr hC (cle_eq fun _ _ _ => rfl) ?_ ?_, ⟨hF, fun j hj => ?_, ?_, ?_, b4⟩, RI_fr hI (cle_eq fun _ _ _ => rfl) ?_ ?_, RB_fr hB ?_ ?_, RS_fr hS (i32_rf _) ?_ ?_ (fun _ _ _ => rfl) rfl, RT_fr hT ?_ ?_, RW_fr hW ?_ ?_⟩
      rotate_left 4
      · show gI (sI (sI (sI d 31 _ _) 32 1 _) 32 2 _) 31 j = gI (sI (sI (sI c 40 _ _) 39 2 _) 39 3 _) 40 j
        simp only [gI_sIx, reduceIte, Nat.reduceEqDiff, Nat.reduceAdd, upd_x, b1 _ hj]
      · show gI d 32 1 + 1 = gI c 39 2 + 1
        rw [b2]
      · show gI d 32 2 + a2 = gI c 39 3 + a2
        rw [b3]
      all_goals repeat (first | exact alk_rf | refine alk_sI ?_ (by first | (unfold fLc fpL; omega) | (unfold fLd fpL; omega) | (unfold fCc; omega) | (unfold fCd; omega) | (unfold fDc; omega) | (unfold fDd; omega) | (unfold fIc; omega) | (unfold fId; omega) | (unfold fBc; omega) | (unfold fBd; omega) | (unfold fSc; omega) | (unfold fSd; omega) | (unfold fTc; omega) | (unfold fTd; omega) | (unfold fWc; omega) | (unfold fWd; omega)) | refine alk_sL ?_ | refine alk_sLs ?_)
    · rw [if_neg h4, if_neg h4]
      exact ⟨_, _, _, rfl, rfl, h⟩
  · rw [decide_eq_false h3]
    exact ⟨_, _, _, rfl, rfl, h⟩
theorem s_led (n : Nat) : S_led Rel n := by
  intro c d a1 h
  obtain ⟨hL, hC, hD, hI, hB, hS, hT, hW⟩ := id h
  obtain ⟨⟨F, g1, g2, g3, g4, g5⟩, b1, b2, b3, b4⟩ := id hD
  unfold fX11_led fX12_led
  rw [isI, pair_eq]
  simp only [if_bI]
  by_cases h1 : 0 ≤ a1 ∧ a1 ≤ 3
  · rw [decide_eq_true h1]
    obtain ⟨j, hj, rfl⟩ := (in_nat (n := 3) rfl (by omega)).mp h1
    simp only [cond_true, inB_t (show j < 4 by omega) (by omega), gd_true, nIc (show j < 100000 by omega)]
    refine ⟨_, _, _, ⟨?_, rfl⟩, ⟨rfl, rfl⟩, h⟩
    rcases (show j = 0 ∨ j = 1 ∨ j = 2 ∨ j = 3 by omega) with rfl | rfl | rfl | rfl
    · rw [if_pos (by decide), g2, bc_all F g1, g5]
    · rw [if_neg (by decide), if_pos (by decide), b2]
    · rw [if_neg (by decide), if_neg (by decide), if_pos (by decide), b3]
    · rw [if_neg (by decide), if_neg (by decide), if_neg (by decide), if_pos (by decide), b4]
  · rw [decide_eq_false h1]
    have hne : ∀ j : Nat, j ≤ 3 → a1 ≠ nI j := fun j hj e => h1 ((in_nat (n := 3) rfl (by omega)).mpr ⟨j, hj, e⟩)
    rw [if_neg (show ¬ a1 = 0 from hne 0 (by omega)), if_neg (show ¬ a1 = 1 from hne 1 (by omega)), if_neg (show ¬ a1 = 2 from hne 2 (by omega)), if_neg (show ¬ a1 = 3 from hne 3 (by omega))]
    simp only [cond_false]
    by_cases h2 : a1 < 100
    · rw [if_pos h2, if_pos h2]
      exact ⟨_, _, _, ⟨rfl, rfl⟩, ⟨rfl, rfl⟩, h⟩
    rw [if_neg h2, if_neg h2]
    cases h3 : fX12_areTwo (a1 - 100) with
    | false => exact ⟨_, _, _, ⟨rfl, rfl⟩, ⟨rfl, rfl⟩, h⟩
    | true =>
      obtain ⟨p, q, hp, hq, e1, e2⟩ := two_in h3
      unfold fX11_debtAt
      rw [e1, e2, at_nI]
      have hx : 6 * p + q < 36 := by omega
      simp only [cond_true, inB_t hx (by omega), gd_true, nIc (show 6 * p + q < 100000 by omega)]
      exact ⟨_, _, _, ⟨rfl, rfl⟩, ⟨by rw [b1 _ hx], rfl⟩, h⟩
