theorem d_sell_try {n : Nat} (hn : 5000 < n) {d0 d : St} {nf nl nc : Nat} {V : Nat → Nat → Int32} {P : LwP} (hv : VD d0 nf nl nc V P) (hb : VB nf nl nc V) (h28 : ∀ i, i < nf → gI d0 28 i = gI d0 5 i) (hq : Qo d0 d) {s p : Nat} (hs : s < 2 ^ 31) (hp : p < 6) (K : St → Int32 → Int32 → Int32 → Int32 → Int32 → Option (Int32 × St)) (v2 v3 v4 : Int32) : ∃ d', fX12_sellOff_108 K n d (nI p) v2 v3 v4 (nI s) = K d' (nI p) v2 v3 (if sR (DN P (setV V (-1) s nf) nf nc nl) p 6 0 = 0 then nI s else v4) (nI (s + 1)) ∧ Qo d0 d' := by
  have h8 := hb.1
  have h10 := hb.2.1
  have h12 := hb.2.2.1
  have hv1 : VD d nf nl nc (setV V (-1) s 0) P := by rw [set_0]; exact VD_Q hv (Qo_q hq)
  obtain ⟨d1, k', e1, e2, e3⟩ := d_sell_set (n := n) h8 hs K (nI p) v2 v3 v4 nf 0 n d (by omega) (by omega) hv1
  have hb' : VB nf nl nc (setV V (-1) s nf) := set_VB hb ⟨i32_rf _, by decide⟩
  obtain ⟨y, y1, y2, y3⟩ := d_findOwed hn e2 hb'
  obtain ⟨z, z1, z2⟩ := d_lay hn h8 hv.1 h28 (Q5_tr (Q5_o hq) (Q5_tr e3 (Q5_o y3)))
  have hle := sR_le (p := p) (DN_DG (P := P) (V := setV V (-1) s nf) (nf := nf) h12 nl h10).1 6 0
  refine ⟨z, ?_, z2⟩
  unfold fX12_sellOff_108
  rw [show (0 : Int32) = nI 0 from rfl, e1, fX12_sellOff_111, e2.1, if_pos (i32_rf _), y1, Option.bind_some, d_owesAll hn y2 hp, Option.bind_some, z1]
  simp only [bnd_x, nI_1, Option.bind_some]
  by_cases q : sR (DN P (setV V (-1) s nf) nf nc nl) p 6 0 = 0
  · rw [if_pos q, q, if_pos (show nI 0 = 0 from rfl)]
  · rw [if_neg q, if_neg (nI_ne0 (by omega) (by omega))]
theorem d_sell_l {n : Nat} (hn : 5000 < n) {d0 : St} {nf nl nc : Nat} {V : Nat → Nat → Int32} {P : LwP} (hv : VD d0 nf nl nc V P) (hb : VB nf nl nc V) (h28 : ∀ i, i < nf → gI d0 28 i = gI d0 5 i) {p O : Nat} (hp : p < 6) (hO : ∀ i, (brd P V nf nc p nl).testBit i = true → O.testBit i = true) (a2 : Int32) : ∀ (r s k : Nat) (d : St), s + r = 2 ^ nf → r < k → Qo d0 d → ∃ d', fX12_sellOff_67 n k d (nI p) a2 (nI O) (if s ≤ brd P V nf nc p nl then -2 else nI (brd P V nf nc p nl)) (nI s) = some (if a2 = 0 then nI (pop (brd P V nf nc p nl) 12) else nI (brd P V nf nc p nl), d') ∧ Qo d0 d' := by
  have h8 := hb.1
  have hpw : 2 ^ nf ≤ 256 := Nat.pow_le_pow_right (n := 2) (i := nf) (j := 8) (by omega) h8
  have hB := brd_lt (P := P) (V := V) (nf := nf) (nc := nc) hp nl
  have zB := zs_B (P := P) hb hp
  have zN := fun s => zs_n (P := P) (s := s) hb hp
  generalize brd P V nf nc p nl = B at hO hB zB zN
  intro r
  induction r with
  | zero =>
    intro s k d hs hk hq
    obtain ⟨k, rfl⟩ : ∃ k', k = k' + 1 := ⟨k - 1, by omega⟩
    rw [fX12_sellOff_67, (VD_Q hv (Qo_q hq)).1, shl_1b (by omega), if_pos (nI_le (by omega) (by omega)), if_neg (show ¬ s ≤ B by omega), if_pos (nI_pos' (by omega)), d_bits hn (by omega), Option.bind_some]
    refine ⟨d, ?_, hq⟩
    by_cases z : a2 = 0
    · rw [if_pos z, if_pos z]
    · rw [if_neg z, if_neg z]
  | succ r ih =>
    intro s k d hs hk hq
    obtain ⟨k, rfl⟩ : ∃ k', k = k' + 1 := ⟨k - 1, by omega⟩
    have next : ∀ d1, Qo d0 d1 → ∃ d', fX12_sellOff_67 n k d1 (nI p) a2 (nI O) (if s + 1 ≤ B then -2 else nI B) (nI (s + 1)) = some (if a2 = 0 then nI (pop B 12) else nI B, d') ∧ Qo d0 d' := fun d1 q => ih (s + 1) k d1 (by omega) (by omega) q
    rw [fX12_sellOff_67, (VD_Q hv (Qo_q hq)).1, shl_1b (by omega), if_neg (nI_ge (by omega) (by omega))]
    simp only [bnd_x, nI_1]
    obtain ⟨d1, e1, e2⟩ := d_sell_try hn hv hb h28 hq (show s < 2 ^ 31 by omega) hp (fX12_sellOff_67 n k) a2 (nI O) (if s ≤ B then -2 else nI B)
    by_cases z1 : s < B
    · have hne : ¬ ∀ i, B.testBit i = true → s.testBit i = true := fun q => by have := sub_le q; omega
      rw [if_neg (zN s hne)] at e1
      rw [if_pos (show s + 1 ≤ B by omega)] at next
      rw [if_pos (show s ≤ B by omega)] at e1 ⊢
      by_cases z2 : nI s &&& (nI O ^^^ (-1)) = 0
      · rw [if_pos z2, if_pos (by decide), e1]
        exact next d1 e2
      · rw [if_neg z2]
        exact next d hq
    · by_cases z3 : s = B
      · subst z3
        rw [if_pos zB] at e1
        rw [if_neg (show ¬ s + 1 ≤ s by omega)] at next
        rw [if_pos (Nat.le_refl s)] at e1 ⊢
        rw [if_pos (sub_and (by omega) hO), if_pos (by decide), e1]
        exact next d1 e2
      · rw [if_neg (show ¬ s + 1 ≤ B by omega)] at next
        rw [if_neg (show ¬ s ≤ B by omega)] at e1 ⊢
        by_cases z2 : nI s &&& (nI O ^^^ (-1)) = 0
        · rw [if_pos z2, if_neg (nI_pos (by omega)), d_bits hn (show s < 4096 by omega), Option.bind_some, d_bits hn (show B < 4096 by omega), Option.bind_some]
          have p1 := pop_le s 12
          have p2 := pop_le B 12
          by_cases z4 : pop s 12 < pop B 12
          · have hne : ¬ ∀ i, B.testBit i = true → s.testBit i = true := fun q => by have := pop_mono q 12; omega
            rw [if_neg (zN s hne)] at e1
            rw [if_pos (nI_lt z4 (by omega)), e1]
            exact next d1 e2
          · rw [if_neg (nI_nlt (by omega) (by omega))]
            exact next d hq
        · rw [if_neg z2]
          exact next d hq
theorem d_own_l {n : Nat} (hn : 5000 < n) {d : St} {nf nl nc : Nat} {V : Nat → Nat → Int32} {P : LwP} (hv : VD d nf nl nc V P) (hb : VB nf nl nc V) {p : Nat} (a2 : Int32) : ∀ (r j k : Nat), j + r = nf → r < k → fX12_sellOff_23 n k d (nI p) a2 (nI (ownb V p j)) (nI j) = (fX12_keepOwners n d).bind (fun r4 => fX12_sellOff_67 n n r4 (nI p) a2 (nI (ownb V p nf)) (-2) 0) := by
  have h8 := hb.1
  intro r
  induction r with
  | zero =>
    intro j k hj hk
    obtain ⟨k, rfl⟩ : ∃ k', k = k' + 1 := ⟨k - 1, by omega⟩
    rw [fX12_sellOff_23, hv.1, if_pos (nI_le (by omega) (by omega)), show j = nf by omega]
  | succ r ih =>
    intro j k hj hk
    obtain ⟨k, rfl⟩ : ∃ k', k = k' + 1 := ⟨k - 1, by omega⟩
    have ih' := ih (j + 1) k (by omega) (by omega)
    rw [ownb] at ih'
    rw [fX12_sellOff_23, hv.1, if_neg (nI_ge (by omega) (by omega)), inB_t (show j < 8 by omega) (by omega), gd_true]
    simp only [bnd_x, nI_1, nIc (show j < 100000 by omega), show gI d 5 j = V 4 j from hv.2.2.2.1 4 j (by omega) (by unfold ct; rw [if_pos (by omega)]; omega)]
    by_cases z : V 4 j = nI p
    · rw [if_pos z] at ih' ⊢
      rw [shl_1b (by omega), or_nI]
      exact ih'
    · rw [if_neg z] at ih' ⊢
      exact ih'
set_option maxHeartbeats 1000000 in
theorem s_sellOff {n : Nat} (hn : 5000 < n) : S_sellOff Rel n := by
  intro c d a1 a2 h
  obtain ⟨nf, nl, nc, P, hc, hd, hb⟩ := views h
  generalize hV : (fun w j => gI c (3 + w) j) = V at hc hd hb
  have h8 := hb.1
  have h10 := hb.2.1
  have hpw : 2 ^ nf ≤ 256 := Nat.pow_le_pow_right (n := 2) (i := nf) (j := 8) (by omega) h8
  unfold fX11_sellOff fX12_sellOff fX11_isPerson fX12_isPerson
  rw [isW, isI, isW, isI]
  simp only [if_bI]
  by_cases h1 : 0 ≤ a1 ∧ a1 ≤ 5
  · rw [decide_eq_true h1]
    obtain ⟨p, hp, rfl⟩ := (in_nat (n := 5) rfl (by omega)).mp h1
    by_cases h3 : 0 ≤ a2 ∧ a2 ≤ 1
    · rw [decide_eq_true h3]
      simp only [cond_true]
      have hp6 : p < 6 := by omega
      obtain ⟨d1, k1, k2, k3, k4⟩ := d_keep hn (d := d) h8 hd.1
      have hqd : Qd d d1 := ⟨fun k hk => k3 k (by omega), k4⟩
      have hd1 := VD_Q hd hqd
      have h28 : ∀ i, i < nf → gI d1 28 i = gI d1 5 i := fun i hi => by rw [k2 i hi, k3 5 (by omega)]
      have hB := brd_lt (P := P) (V := V) (nf := nf) (nc := nc) hp6 nl
      have hO : ∀ i, (brd P V nf nc p nl).testBit i = true → (ownb V p nf).testBit i = true := fun i hi => by
        obtain ⟨f, q1, q2, q3, q4⟩ := (brd_at hp6 nl i).mp hi
        rw [owF_o, q4] at q2
        exact ownb_at nf i (fuV_lt q4) q2
      obtain ⟨d3, f1, f2⟩ := d_sell_l hn hd1 hb h28 hp6 hO a2 (2 ^ nf) 0 n d1 (by omega) (by omega) (Qo_rf d1)
      rw [if_pos (Nat.zero_le _)] at f1
      obtain ⟨c1, e1, e2⟩ := c_burden_l hn hb hp6 nl 0 n c (by omega) (by omega) hc
      have own := d_own_l hn hd hb (p := p) a2 nf 0 n (by omega) (by omega)
      have own' : fX12_sellOff_23 n n d (nI p) a2 0 0 = _ := own
      have e1' : fX9_fieldsThatBurden_4 n n c (nI p) 0 0 = _ := e1
      have f1' : fX12_sellOff_67 n n d1 (nI p) a2 (nI (ownb V p nf)) (-2) 0 = _ := f1
      unfold fX9_fieldsThatBurden
      rw [own', k1, Option.bind_some, f1', e1', Option.bind_some, bc_all _ (by omega), ← pop_lt (n := 10) (show brd P V nf nc p nl < 2 ^ 10 by omega) 12 (by omega)]
      refine ⟨if a2 = 0 then nI (pop (brd P V nf nc p nl) 12) else nI (brd P V nf nc p nl), c1, d3, ?_, rfl, Rel_Q h e2 (Qd_tr hqd (Qo_q f2))⟩
      by_cases z : a2 = 0
      · rw [if_pos z, if_pos z]
      · rw [if_neg z, if_neg z]
    · rw [decide_eq_false h3]
      exact ⟨_, c, d, rfl, rfl, h⟩
  · rw [decide_eq_false h1]
    exact ⟨_, c, d, rfl, rfl, h⟩
