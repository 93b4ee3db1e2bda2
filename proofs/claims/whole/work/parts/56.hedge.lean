theorem upd_bk (g : Nat → Int32) (i : Nat) (v : Int32) : upd (upd g i v) i (g i) = g := by
  funext j
  rw [upd_x, upd_x]
  by_cases e : j = i
  · rw [if_pos e, e]
  · rw [if_neg e, if_neg e]
theorem gIp (st : St) (k i : Nat) (v : Int32) (a x : Nat) : gI (sI st k i v) a x = if a = k ∧ x = i then v else gI st a x := by
  rw [gI_sIx]
  by_cases e : a = k
  · rw [if_pos e, upd_x]
    by_cases e2 : x = i
    · rw [if_pos e2, if_pos ⟨e, e2⟩]
    · rw [if_neg e2, if_neg (fun q => e2 q.2), e]
  · rw [if_neg e, if_neg (fun q => e q.1)]
def hedV (V : Nat → Nat → Int32) (f : Nat) (w de : Int32) : Nat → Nat → Int32 := fun a j => if a = 2 ∧ j = f then w else if a = 3 ∧ j = f then de else V a j
theorem hed_VB {nf nl nc f w de : Nat} {V : Nat → Nat → Int32} (hb : VB nf nl nc V) (w1 : 1 ≤ w) (w2 : w ≤ 20) (d1 : 1 ≤ de) (d2 : de ≤ 20) : VB nf nl nc (hedV V f (nI w) (nI de)) := by
  refine ⟨hb.1, hb.2.1, hb.2.2.1, fun a j ha hj => ?_⟩
  unfold hedV
  by_cases q1 : a = 2 ∧ j = f
  · rw [if_pos q1, q1.1]
    exact ⟨nI_le (a := 1) w1 (by omega), nI_le (b := 20) w2 (by omega)⟩
  · rw [if_neg q1]
    by_cases q2 : a = 3 ∧ j = f
    · rw [if_pos q2, q2.1]
      exact ⟨nI_le (a := 1) d1 (by omega), nI_le (b := 20) d2 (by omega)⟩
    · rw [if_neg q2]
      exact hb.2.2.2 a j ha hj
set_option maxHeartbeats 2000000 in
theorem s_hedge {n : Nat} (hn : 5000 < n) : S_hedge Rel n := by
  intro c d a1 a2 h
  obtain ⟨nf, nl, nc, P, hc, hd, hb⟩ := views h
  generalize hV : (fun w j => gI c (3 + w) j) = V at hc hd hb
  have h8 := hb.1
  unfold fX11_hedge fX12_hedge fX11_isField fX12_isField
  rw [hc.1, hd.1, isW, isI, size_eq]
  simp only [if_bI, some_eta]
  by_cases h1 : 0 ≤ a1 ∧ a1 ≤ nI nf - 1
  · rw [decide_eq_true h1]
    obtain ⟨f, hf, rfl⟩ := (cnt_in a1 (by omega)).mp h1
    cases h2 : fX12_areSides a2 with
    | false => exact ⟨_, c, d, rfl, rfl, h⟩
    | true =>
    obtain ⟨w, de, w1, w2, d1, d2, e1, e2⟩ := size_in h2
    simp only [cond_true]
    have hct : ∀ a, a < 6 → f < ct nf nl nc a := fun a ha => by unfold ct; rw [if_pos ha]; exact hf
    have g7 : gI c 7 f = V 4 f := hc.2.2.2.1 4 f (by omega) (by omega)
    have g5 : gI d 5 f = V 4 f := hd.2.2.2.1 4 f (by omega) (hct 4 (by omega))
    unfold fX3_ownerOf fX9_hedgeMoved fX3_ownerOf
    rw [if_pos (nI_pos' (n := f) (by omega)), inB_t (show f < 13 by omega) (by omega), inB_t (show f < 8 by omega) (by omega)]
    simp only [gd_true, nIc (show f < 100000 by omega), g7, g5, Option.bind_some, bnd_x, e1, e2]
    rcases own_rng hb f hf with ho | ⟨p, hp, ho⟩
    · rw [ho, if_neg (by decide), if_neg (by decide)]
      exact ⟨_, c, d, rfl, rfl, h⟩
    rw [ho, if_pos (nI_pos' (by omega)), if_pos (nI_pos' (by omega))]
    obtain ⟨c1, x1, x2, x3⟩ := c_reck hn hc hb
    obtain ⟨y, y1, y2, y3⟩ := d_findOwed hn hd hb
    have hb' := hed_VB (f := f) hb w1 w2 d1 d2
    have hc1 : VC (sI (sI c1 5 f (nI w)) 6 f (nI de)) nf nl nc (hedV V f (nI w) (nI de)) P := by
      have hq := VC_Q hc (Qs_q x3)
      refine VC_fr hq rfl rfl rfl rfl (fun a j ha hj => ?_)
      unfold hedV
      rw [gIp, gIp]
      by_cases q1 : a = 2 ∧ j = f
      · rw [if_pos q1, if_neg (by omega), if_pos (by omega)]
      · rw [if_neg q1]
        by_cases q2 : a = 3 ∧ j = f
        · rw [if_pos q2, if_pos (by omega)]
        · rw [if_neg q2, if_neg (by omega), if_neg (by omega)]
          exact hq.2.2.2.1 a j ha hj
    have hd1 : VD (sI (sI y 3 f (nI w)) 4 f (nI de)) nf nl nc (hedV V f (nI w) (nI de)) P := by
      have hq := VD_Q hd (Qo_q y3)
      refine VD_fr hq rfl rfl rfl rfl rfl rfl (fun a j ha hj => ?_)
      unfold hedV
      rw [gIp, gIp]
      by_cases q1 : a = 2 ∧ j = f
      · rw [if_pos q1, if_neg (by omega), if_pos (by omega)]
      · rw [if_neg q1]
        by_cases q2 : a = 3 ∧ j = f
        · rw [if_pos q2, if_pos (by omega)]
        · rw [if_neg q2, if_neg (by omega), if_neg (by omega)]
          exact hq.2.2.2.1 a j ha hj
    obtain ⟨c2, u1, u2, u3⟩ := c_reck hn hc1 hb'
    obtain ⟨z, z1, z2, z3⟩ := d_findOwed hn hd1 hb'
    have gy5 : gI y 5 f = nI p := by rw [y3.1 5 (by omega) (by omega) (by omega), g5, ho]
    have gz5 : gI z 5 f = nI p := by
      rw [z3.1 5 (by omega) (by omega) (by omega), gI_sIx, if_neg (by omega), gI_sIx, if_neg (by omega)]
      exact gy5
    rw [x1, y1]
    simp only [Option.bind_some, gy5]
    rw [c_owes hn x2 hp, d_owesAll hn y2 hp]
    simp only [Option.bind_some]
    rw [u1, z1]
    simp only [Option.bind_some, gz5]
    rw [d_owesAll hn z2 hp, c_owes hn (c := sI (sI c2 5 f (gI c 5 f)) 6 f (gI c 6 f)) u2 hp]
    refine ⟨_, _, _, rfl, rfl, Rel_Q h ⟨fun k hk => ?_, fun k => ?_⟩ ⟨fun k hk => ?_, fun k => ?_⟩⟩
    · funext x
      rw [gIp, gIp]
      by_cases q1 : k = 6 ∧ x = f
      · rw [if_pos q1, q1.1, q1.2]
      · rw [if_neg q1]
        by_cases q2 : k = 5 ∧ x = f
        · rw [if_pos q2, q2.1, q2.2]
        · rw [if_neg q2, u3.1 k (by omega) (by omega) (by omega) (by omega), gIp, if_neg q1, gIp, if_neg q2, x3.1 k (by omega) (by omega) (by omega) (by omega)]
    · exact (u3.2 k).trans (x3.2 k)
    · funext x
      rw [gIp, gIp]
      by_cases q1 : k = 4 ∧ x = f
      · rw [if_pos q1, q1.1, q1.2]
      · rw [if_neg q1]
        by_cases q2 : k = 3 ∧ x = f
        · rw [if_pos q2, q2.1, q2.2]
        · rw [if_neg q2, z3.1 k (by omega) (by omega) (by omega), gIp, if_neg q1, gIp, if_neg q2, y3.1 k (by omega) (by omega) (by omega)]
    · exact (z3.2 k).trans (y3.2 k)
  · rw [decide_eq_false h1]
    exact ⟨_, c, d, rfl, rfl, h⟩
