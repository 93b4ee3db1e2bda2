theorem Fr_Qs {c c' : St} (h : Fr 25 c c') : Qs 25 c c' := ⟨fun k _ _ _ q => h.1 k q, h.2⟩
theorem Fr_Qo {c c' : St} (h : Fr 27 c c') : Qo c c' := ⟨fun k _ _ q => h.1 k q, h.2⟩
theorem DN_DS {P : LwP} {V : Nat → Nat → Int32} {nf nl nc X : Nat} {c : St} (hnc : nc ≤ 12) (hnl : nl ≤ 10) (h : ∀ k, k < 36 → gI c X k = nI (DN P V nf nc nl k)) : DS X c (DN P V nf nc nl) := by
  obtain ⟨i1, i2⟩ := DN_DG (P := P) (V := V) (nf := nf) hnc nl hnl
  exact ⟨h, fun k => by have := i1 k; omega, i2⟩
set_option maxHeartbeats 1000000 in
theorem s_cleared {n : Nat} (hn : 5000 < n) : S_cleared Rel n := by
  intro c d a1 a2 h
  obtain ⟨nf, nl, nc, P, hc, hd, hb⟩ := views h
  generalize hV : (fun w j => gI c (3 + w) j) = V at hc hd hb
  have h10 := hb.2.1
  have h12 := hb.2.2.1
  obtain ⟨c1, x1, x2, x3⟩ := c_reck hn hc hb
  obtain ⟨d1, y1, y2, y3⟩ := d_findOwed hn hd hb
  have hS1 := DN_DS h12 h10 x2
  have hS2 := DN_DS h12 h10 y2
  have r1 := Rel_Q h (Qs_q x3) (Qo_q y3)
  unfold fX11_cleared fX12_cleared fX11_cleared_22 fX11_cleared_23 fX12_cleared_31 fX11_cleared_51 fX12_cleared_42
  rw [x1, y1, pair_eq, isI, isW]
  simp only [if_bI, Option.bind_some]
  by_cases z : a2 = 0
  · subst z
    simp only [reduceIte]
    rw [decide_eq_true (show (0 : Int32) ≤ 0 ∧ (0 : Int32) ≤ 2 by decide), if_pos (show (0 : Int32) ≤ 0 by decide)]
    simp only [cond_true]
    cases h2 : fX12_areTwo a1 with
    | false => exact ⟨_, c, d, rfl, rfl, h⟩
    | true =>
      obtain ⟨p, q, hp, hq, e1, e2⟩ := two_in h2
      simp only [cond_true]
      by_cases h3 : a1 / 10 = rmI a1 10
      · rw [if_pos h3, if_pos h3]
        exact ⟨_, c, d, rfl, rfl, h⟩
      · rw [if_neg h3, if_neg h3, if_neg (by decide)]
        have hu : 6 * p + q < 36 := by omega
        have hat : (6 : Int32) * (a1 / 10) + rmI a1 10 = nI (6 * p + q) := by rw [e1, e2, at_nI]
        obtain ⟨c2, u1, u2, u3⟩ := c_rings hn hS1
        obtain ⟨d2, w1, w2⟩ := d_clear_l hn hu hat 216 0 n d1 _ (by omega) (by omega) (by omega) hS2 (fun t' q => absurd q (by omega))
        rw [u1, w1, Option.bind_some]
        unfold fX11_debtAt
        rw [hat, inB_t hu (by omega), gd_true, nIc (by omega), u2.1 _ hu]
        exact ⟨_, c2, d2, rfl, rfl, Rel_Q r1 (Qs_q (Fr_Qs u3)) (Qo_q (Fr_Qo w2))⟩
  · simp only [if_neg z, ite_self]
    have eb : (cond (fX12_areTwo a1) (if a1 = 0 then (cond (decide (1 ≤ a2 ∧ a2 ≤ 2)) ((fX6_richest n c1).bind (fun r10 => if a2 = (1 : Int32) then (some (r10, c1)) else ((fX6_worthOf n c1 r10).bind (fun r13 => some (r13, c1))))) (some ((-2000000000 : Int32), c))) else some ((-2000000000 : Int32), c)) (if a1 = 0 then (cond (decide (1 ≤ a2 ∧ a2 ≤ 2)) ((fX6_richest n c1).bind (fun r10 => if a2 = (1 : Int32) then (some (r10, c1)) else ((fX6_worthOf n c1 r10).bind (fun r13 => some (r13, c1))))) (some ((-2000000000 : Int32), c))) else some ((-2000000000 : Int32), c))) = (if a1 = 0 then (cond (decide (1 ≤ a2 ∧ a2 ≤ 2)) ((fX6_richest n c1).bind (fun r10 => if a2 = (1 : Int32) then (some (r10, c1)) else ((fX6_worthOf n c1 r10).bind (fun r13 => some (r13, c1))))) (some ((-2000000000 : Int32), c))) else some ((-2000000000 : Int32), c)) := by cases fX12_areTwo a1 <;> rfl
    rw [eb]
    by_cases h2 : 0 ≤ a2 ∧ a2 ≤ 2
    · rw [decide_eq_true h2]
      simp only [cond_true]
      obtain ⟨j, hj, rfl⟩ := (in_nat (n := 2) rfl (by omega)).mp h2
      have hj0 : j ≠ 0 := fun e => z (by rw [e]; rfl)
      rw [if_neg (show ¬ nI j ≤ 0 from nI_ge (a := 0) (by omega) (by omega)), decide_eq_true (show 1 ≤ nI j ∧ nI j ≤ 2 from ⟨nI_le (a := 1) (by omega) (by omega), h2.2⟩)]
      simp only [cond_true]
      by_cases h3 : a1 = 0
      · rw [if_pos h3, if_pos h3, c_rich hn x2, d_rich hn y2, Option.bind_some]
        by_cases h4 : nI j = 1
        · rw [if_pos h4, if_pos h4]
          exact ⟨_, c1, d1, rfl, rfl, r1⟩
        · rw [if_neg h4, if_neg h4, c_worth hn x2 (rch_lt 5 1 0 rfl (by omega)), Option.bind_some]
          exact ⟨_, c1, d1, rfl, rfl, r1⟩
      · rw [if_neg h3, if_neg h3]
        exact ⟨_, c, d, rfl, rfl, h⟩
    · rw [decide_eq_false h2]
      have h2' : ¬ (1 ≤ a2 ∧ a2 ≤ 2) := fun q => h2 ⟨i32_lele (by decide) q.1, q.2⟩
      rw [decide_eq_false h2']
      refine ⟨-2000000000, c, d, ?_, rfl, h⟩
      simp only [cond_false, ite_self]
