theorem cnt_b (v : Int32) {n : Nat} (hn : n < 100000) : (if v < 0 then false else (if nI n ≤ v then false else true)) = decide (0 ≤ v ∧ v ≤ nI n - 1) := by
  by_cases h : 0 ≤ v ∧ v ≤ nI n - 1
  · rw [decide_eq_true h]
    obtain ⟨j, hj, rfl⟩ := (cnt_in v hn).mp h
    rw [if_neg (nI_pos (by omega)), if_neg (by rw [nIle (by omega) (by omega)]; omega)]
  · rw [decide_eq_false h]
    by_cases q0 : v < 0
    · rw [if_pos q0]
    rw [if_neg q0]
    by_cases q1 : nI n ≤ v
    · rw [if_pos q1]
    exfalso
    apply h
    rw [cnt_in v hn]
    obtain ⟨j, hj, rfl⟩ := nI_of q0
    exact ⟨j, by rcases Nat.lt_or_ge j n with q | q; exact q; exact absurd (nI_le q hj) q1, rfl⟩
def hasB (c : St) (w : Nat) (v : Int32) : Bool := if v < 0 then false else (if gI c 1 (cs w) ≤ v then false else true)
theorem has_x (c : St) (v : Int32) {w : Nat} (hw : w < 14) : fX3_has c v (nI w) = hasB c w v := by
  rcases w14 hw with rfl | rfl | rfl | rfl | rfl | rfl | rfl | rfl | rfl | rfl | rfl | rfl | rfl | rfl <;> rfl
theorem in_w : ∀ w, w < 14 → fX12_in (nI w) 0 5 = decide (w < 6) ∧ fX12_in (nI w) 6 9 = decide (6 ≤ w ∧ w < 10) ∧ fX12_in (nI w) 10 13 = decide (10 ≤ w) := by decide +kernel
theorem one_x {c d : St} (h : RLa c d) (v : Int32) {w : Nat} (hw : w < 14) : fX12_isOne d v (nI w) = hasB c w v := by
  obtain ⟨⟨nf, f1, f2, f3⟩, ⟨nl, l1, l2, l3⟩, ⟨nc, c1, c2, c3⟩, hv⟩ := h
  have hF : fX12_isField d v = hasB c 0 v := by
    unfold fX12_isField hasB
    rw [isI, f3, show gI c 1 (cs 0) = nI nf from f2, cnt_b v (by omega)]
  have hFa : fX12_isFall d v = hasB c 6 v := by
    unfold fX12_isFall hasB
    rw [isI, l3, show gI c 1 (cs 6) = nI nl from l2, cnt_b v (by omega)]
  have hCr : (if bI (fX12_isCry d v) = 0 then false else true) = hasB c 10 v := by
    rw [if_bI]
    unfold fX12_isCry hasB
    rw [isI, c3, show gI c 1 (cs 10) = nI nc from c2, cnt_b v (by omega)]
    cases decide (0 ≤ v ∧ v ≤ nI nc - 1) <;> rfl
  obtain ⟨i1, i2, i3⟩ := in_w w hw
  unfold fX12_isOne
  rw [i1, i2, i3, hF, hFa, hCr]
  simp only [if_bI]
  by_cases h6 : w < 6
  · rw [decide_eq_true h6]
    unfold hasB
    rw [show cs w = cs 0 from (if_pos h6).trans rfl]
    rfl
  · by_cases h10 : w < 10
    · rw [decide_eq_false h6, decide_eq_true (show 6 ≤ w ∧ w < 10 by omega)]
      unfold hasB
      rw [show cs w = cs 6 from by unfold cs; rw [if_neg h6, if_pos h10]; rfl]
      rfl
    · rw [decide_eq_false h6, decide_eq_false (show ¬ (6 ≤ w ∧ w < 10) by omega), decide_eq_true (show 10 ≤ w by omega)]
      unfold hasB
      rw [show cs w = cs 10 from by unfold cs; rw [if_neg h6, if_neg h10]; rfl]
      rfl
theorem hasB_in {c d : St} (h : RLa c d) {v : Int32} {w : Nat} (hw : w < 14) (hb : hasB c w v = true) : ∃ j : Nat, j < 12 ∧ v = nI j ∧ nI j < gI c 1 (cs w) ∧ (w < 6 → j < 8) ∧ (w < 10 → j < 10) := by
  obtain ⟨⟨nf, f1, f2, f3⟩, ⟨nl, l1, l2, l3⟩, ⟨nc, c1, c2, c3⟩, hv⟩ := h
  have key : ∀ n : Nat, n ≤ 12 → gI c 1 (cs w) = nI n → ∃ j : Nat, j < n ∧ v = nI j := fun n hn e => by
    unfold hasB at hb
    rw [e, cnt_b v (by omega), decide_eq_true_eq] at hb
    exact (cnt_in v (by omega)).mp hb
  by_cases h6 : w < 6
  · have e : cs w = 1 := if_pos h6
    obtain ⟨j, hj, rfl⟩ := key nf (by omega) (by rw [e, f2])
    exact ⟨j, by omega, rfl, by rw [e, f2, nIlt (by omega) (by omega)]; exact hj, fun _ => by omega, fun _ => by omega⟩
  · by_cases h10 : w < 10
    · have e : cs w = 2 := by unfold cs; rw [if_neg h6, if_pos h10]
      obtain ⟨j, hj, rfl⟩ := key nl (by omega) (by rw [e, l2])
      exact ⟨j, by omega, rfl, by rw [e, l2, nIlt (by omega) (by omega)]; exact hj, fun q => absurd q h6, fun _ => by omega⟩
    · have e : cs w = 3 := by unfold cs; rw [if_neg h6, if_neg h10]
      obtain ⟨j, hj, rfl⟩ := key nc (by omega) (by rw [e, c2])
      exact ⟨j, by omega, rfl, by rw [e, c2, nIlt (by omega) (by omega)]; exact hj, fun q => absurd q h6, fun q => absurd q h10⟩
/-- what is no number of mend() -/
theorem has_no {c : St} {v a : Int32} (h : ∀ w : Nat, w < 14 → a ≠ nI w) : fX3_has c v a = false := by
  unfold fX3_has
  by_cases h0 : v < 0
  · rw [if_pos h0]
  rw [if_neg h0]
  by_cases h1 : a < 0
  · rw [if_pos h1]
  rw [if_neg h1]
  by_cases h2 : a ≤ 13
  · obtain ⟨j, hj, e⟩ := (in_nat (v := a) (m := 13) (n := 13) rfl (by omega)).mp ⟨fa_nlt h1, h2⟩
    exact absurd e (h j (by omega))
  · rw [if_neg h2]
theorem one_no {d : St} {v a : Int32} (h : ∀ w : Nat, w < 14 → a ≠ nI w) : fX12_isOne d v a = false := by
  have key : ∀ lo hi : Nat, lo ≤ hi → hi < 14 → fX12_in a (nI lo) (nI hi) = false := fun lo hi h1 h2 => by
    rw [isI]
    refine decide_eq_false (fun q => ?_)
    have p0 : (0 : Int32) ≤ a := i32_lele (nI_pos' (by omega)) q.1
    obtain ⟨j, hj, e⟩ := (in_nat (v := a) (m := nI hi) (n := hi) rfl (by omega)).mp ⟨p0, q.2⟩
    exact absurd e (h j (by omega))
  unfold fX12_isOne
  rw [show fX12_in a 0 5 = false from key 0 5 (by omega) (by omega), show fX12_in a 6 9 = false from key 6 9 (by omega) (by omega), show fX12_in a 10 13 = false from key 10 13 (by omega) (by omega)]
  rfl
theorem w_or (a : Int32) : (∃ w : Nat, w < 14 ∧ a = nI w) ∨ ∀ w : Nat, w < 14 → a ≠ nI w := by
  rcases pk_ix a (n := 14) (by omega) with h | h | ⟨j, hj, e⟩
  · exact Or.inr (fun w hw e => by rw [e] at h; exact absurd h (nI_pos (by omega)))
  · exact Or.inr (fun w hw e => by rw [e, nI_leI (by omega) (by omega)] at h; omega)
  · exact Or.inl ⟨j, hj, e⟩
def capW (w : Nat) : Nat := if w < 6 then 8 else if w < 10 then 11 else 13
theorem val_x (d : St) {w j : Nat} (hw : w < 14) (hj : j < capW w) : fX12_valueAt d (nI w) (nI j) = some (gI d (1 + w) j) := by
  have hc : capW w ≤ 13 := by unfold capW; split; omega; split <;> omega
  have e1 : fX12_valueAt d (nI w) (nI j) = gd (inB (nI j) (capW w)) (some (gI d (1 + w) (nI j).toNatClampNeg)) := by
    rcases w14 hw with rfl | rfl | rfl | rfl | rfl | rfl | rfl | rfl | rfl | rfl | rfl | rfl | rfl | rfl <;> rfl
  rw [e1, inB_t hj (by omega), nIc (by omega)]
  rfl
theorem lay_x (d : St) {w j : Nat} (v : Int32) (hw : w < 14) (hj : j < capW w) : fX12_lays d (nI w) (nI j) v = some (sI d (1 + w) j v) := by
  have hc : capW w ≤ 13 := by unfold capW; split; omega; split <;> omega
  have e1 : fX12_lays d (nI w) (nI j) v = gd (inB (nI j) (capW w)) (some (sI d (1 + w) (nI j).toNatClampNeg v)) := by
    rcases w14 hw with rfl | rfl | rfl | rfl | rfl | rfl | rfl | rfl | rfl | rfl | rfl | rfl | rfl | rfl <;> rfl
  rw [e1, inB_t hj (by omega), nIc (by omega)]
  rfl
theorem may_x (v : Int32) {w : Nat} (hw : w < 14) : fX12_mayBe (nI w) v = decide (tb tLEAST w ≤ v ∧ v ≤ tb tMOST w) := by
  rw [← isI]
  rcases w14 hw with rfl | rfl | rfl | rfl | rfl | rfl | rfl | rfl | rfl | rfl | rfl | rfl | rfl | rfl <;> rfl
theorem cap_in {w j : Nat} (h6 : w < 6 → j < 8) (h10 : w < 10 → j < 10) (hj : j < 12) : j < capW w := by
  unfold capW
  split
  · omega
  · split <;> omega
theorem s_of (n : Nat) : S_of Rel n := by
  intro c d a1 a2 h
  obtain ⟨hL, hC, hD, hI, hB, hS, hT, hW⟩ := id h
  obtain ⟨hf2, ⟨nl, l1, l2, l3⟩, hc2, hv⟩ := id hL
  unfold fX11_of fX12_of
  by_cases h14 : a2 = 14
  · rw [if_pos h14, if_pos h14]
    unfold fX11_isFall fX12_isFall
    rw [l2, l3, isW, isI]
    simp only [if_bI]
    by_cases h1 : 0 ≤ a1 ∧ a1 ≤ nI nl - 1
    · rw [decide_eq_true h1]
      obtain ⟨j, hj, rfl⟩ := (cnt_in a1 (by omega)).mp h1
      obtain ⟨⟨F, g1, g2, g3, g4, g5⟩, -⟩ := hD
      simp only [cond_true, inB_t (show j < 11 by omega) (by omega), gd_true, nIc (show j < 100000 by omega)]
      rw [g2, bit_at (by omega) (by omega), g3 j (by omega)]
      refine ⟨_, _, _, ⟨rfl, rfl⟩, ⟨?_, rfl⟩, h⟩
      unfold bit
      cases F.testBit j <;> rfl
    · rw [decide_eq_false h1]
      exact ⟨_, _, _, ⟨rfl, rfl⟩, ⟨rfl, rfl⟩, h⟩
  · rw [if_neg h14, if_neg h14, some_eta1]
    simp only [if_bI]
    rcases w_or a2 with ⟨w, hw, rfl⟩ | hno
    · rw [has_x c a1 hw, one_x hL a1 hw]
      cases hb : hasB c w a1 with
      | false => exact ⟨_, _, _, ⟨rfl, rfl⟩, ⟨rfl, rfl⟩, h⟩
      | true =>
        obtain ⟨j, j1, rfl, j2, j3, j4⟩ := hasB_in hL hw hb
        simp only [cond_true, inB_t hw (by omega), inB_t (show j < 13 by omega) (by omega), gd_true, nIc (show w < 100000 by omega), nIc (show j < 100000 by omega), val_x d hw (cap_in j3 j4 j1)]
        exact ⟨_, _, _, ⟨rfl, rfl⟩, ⟨by rw [(hv w j hw (by omega) j2).1], rfl⟩, h⟩
    · rw [has_no hno, one_no hno]
      exact ⟨_, _, _, ⟨rfl, rfl⟩, ⟨rfl, rfl⟩, h⟩
