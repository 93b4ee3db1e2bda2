/-- which column to ask -/
def clA (off : Nat → Int32) : Nat → Nat → Nat → Nat
  | 0, _, b => b
  | r + 1, x, b => if off b ≤ off x then clA off r (x + 1) b else clA off r (x + 1) x
theorem ab_off {a m : Nat} (ha : a < 1000) (hm : m < 1000) : abI ((2 : Int32) * nI a - nI m) = fX12_apart ((2 : Int32) * nI a) (nI m) := by
  rw [show (2 : Int32) * nI a = nI (2 * a) by rw [show (2 : Int32) = nI 2 from rfl, pk_mul], ab_eq (by omega) (by omega), ap_sym (by omega) (by omega)]
theorem c_col {n : Nat} (hn : 5000 < n) {c : St} {many : Nat} {col : Nat → Nat} (hm : 0 < many) (hm2 : many ≤ 400) (hcl : ∀ x, col x ≤ many) (h0 : gI c 36 0 = nI many) (h38 : ∀ x, x < 20 → gI c 38 x = nI (col x)) : fX8_columnToAsk n c = some (nI (clA (fun x => fX12_apart ((2 : Int32) * nI (col x)) (nI many)) 19 1 0)) := by
  have main : ∀ (r x k b : Nat), x + r = 20 → r < k → b < 20 → fX8_columnToAsk_7 n c k (nI b) (fX12_apart ((2 : Int32) * nI (col b)) (nI many)) (nI x) = some (nI (clA (fun x => fX12_apart ((2 : Int32) * nI (col x)) (nI many)) r x b)) := by
    intro r
    induction r with
    | zero =>
      intro x k b hx hk hb
      obtain ⟨k, rfl⟩ : ∃ k', k = k' + 1 := ⟨k - 1, by omega⟩
      rw [fX8_columnToAsk_7, if_pos (show (20 : Int32) ≤ nI x from nI_le (a := 20) (by omega) (by omega))]
      rfl
    | succ r ih =>
      intro x k b hx hk hb
      obtain ⟨k, rfl⟩ : ∃ k', k = k' + 1 := ⟨k - 1, by omega⟩
      have := hcl x
      rw [fX8_columnToAsk_7, if_neg (show ¬ (20 : Int32) ≤ nI x from nI_ge (b := 20) (by omega) (by omega)), h0, if_neg (show ¬ nI many ≤ 0 from nI_ge (a := 0) hm (by omega)), inB_t (show x < 20 by omega) (by omega), gd_true, bnd_x, nIc (by omega), h38 x (by omega), ab_off (by omega) (by omega), if_neg (nI_pos (by omega)), clA]
      simp only [bnd_x, nI_1]
      by_cases z : fX12_apart ((2 : Int32) * nI (col b)) (nI many) ≤ fX12_apart ((2 : Int32) * nI (col x)) (nI many)
      · rw [if_pos z, if_pos z]
        exact ih (x + 1) k b (by omega) (by omega) hb
      · rw [if_neg z, if_neg z]
        exact ih (x + 1) k x (by omega) (by omega) (by omega)
  obtain ⟨n', rfl⟩ : ∃ n', n = n' + 1 := ⟨n - 1, by omega⟩
  have hc0 := hcl 0
  unfold fX8_columnToAsk
  rw [fX8_columnToAsk_7, if_neg (show ¬ (20 : Int32) ≤ 0 by decide), h0, if_neg (show ¬ nI many ≤ 0 from nI_ge (a := 0) hm (by omega)), show inB 0 20 = true by decide, gd_true, bnd_x, show (0 : Int32).toNatClampNeg = 0 from rfl, h38 0 (by omega), ab_off (by omega) (by omega), if_pos (show (-2 : Int32) < 0 by decide), bnd_x]
  exact main 19 1 n' 0 rfl (by omega) (by omega)
theorem d_col {n : Nat} (hn : 5000 < n) {d : St} {many : Nat} {col : Nat → Nat} (hm2 : many ≤ 400) (h29 : ∀ x, x < 20 → gI d 29 x = nI (col x)) : fX12_sight_192 n n d (nI many) 0 1 = some (if many = 0 then -2 else nI (clA (fun x => fX12_apart ((2 : Int32) * nI (col x)) (nI many)) 19 1 0), d) := by
  have main : ∀ (r x k b : Nat), x + r = 20 → r < k → b < 20 → fX12_sight_192 n k d (nI many) (nI b) (nI x) = some (if many = 0 then -2 else nI (clA (fun x => fX12_apart ((2 : Int32) * nI (col x)) (nI many)) r x b), d) := by
    intro r
    induction r with
    | zero =>
      intro x k b hx hk hb
      obtain ⟨k, rfl⟩ : ∃ k', k = k' + 1 := ⟨k - 1, by omega⟩
      rw [fX12_sight_192, if_pos (show (20 : Int32) ≤ nI x from nI_le (a := 20) (by omega) (by omega))]
      by_cases z : many = 0
      · rw [if_pos z, if_pos (show nI many = 0 by rw [z]; rfl)]
      · rw [if_neg z, if_neg (nI_ne0 (by omega) (by omega))]
        rfl
    | succ r ih =>
      intro x k b hx hk hb
      obtain ⟨k, rfl⟩ : ∃ k', k = k' + 1 := ⟨k - 1, by omega⟩
      rw [fX12_sight_192, if_neg (show ¬ (20 : Int32) ≤ nI x from nI_ge (b := 20) (by omega) (by omega)), inB_t (show x < 20 by omega) (by omega), inB_t hb (by omega), gd_true, gd_true, nIc (by omega), nIc (by omega), h29 x (by omega), h29 b hb, clA]
      simp only [bnd_x, nI_1]
      by_cases z : fX12_apart ((2 : Int32) * nI (col b)) (nI many) ≤ fX12_apart ((2 : Int32) * nI (col x)) (nI many)
      · rw [if_pos z, if_pos z]
        exact ih (x + 1) k b (by omega) (by omega) hb
      · rw [if_neg z, if_neg z]
        exact ih (x + 1) k x (by omega) (by omega) (by omega)
  exact main 19 1 n 0 rfl (by omega) (by omega)
theorem d_c0 {n : Nat} {a1 a2 v4 v5 v6 : Int32} : ∀ (r x k : Nat) (d : St), x + r = 20 → r < k → (∀ j, j < x → gI d 29 j = 0) → ∃ d', fX12_sight_44 n k d a1 a2 v4 v5 v6 (nI x) = fX12_sight_68 n n d' a1 a2 v4 v5 v6 0 ∧ (∀ j, j < 20 → gI d' 29 j = 0) ∧ Qd d d' := by
  intro r
  induction r with
  | zero =>
    intro x k d hx hk h
    obtain ⟨k, rfl⟩ : ∃ k', k = k' + 1 := ⟨k - 1, by omega⟩
    rw [fX12_sight_44, if_pos (show (20 : Int32) ≤ nI x from nI_le (a := 20) (by omega) (by omega))]
    exact ⟨d, rfl, fun j hj => h j (by omega), Qd_rf d⟩
  | succ r ih =>
    intro x k d hx hk h
    obtain ⟨k, rfl⟩ : ∃ k', k = k' + 1 := ⟨k - 1, by omega⟩
    rw [fX12_sight_44, if_neg (show ¬ (20 : Int32) ≤ nI x from nI_ge (b := 20) (by omega) (by omega)), inB_t (show x < 20 by omega) (by omega), gd_true, bnd_x, bnd_x, nIc (by omega), nI_1]
    obtain ⟨d', u1, u2, u3⟩ := ih (x + 1) k (sI d 29 x 0) (by omega) (by omega) (fun j hj => by
      rw [gIp]
      by_cases e : j = x
      · rw [if_pos ⟨rfl, e⟩]
      · rw [if_neg (fun q => e q.2)]; exact h j (by omega))
    exact ⟨d', u1, u2, Qd_tr (Qd_sI _ _ _ _ (by omega)) u3⟩
/-- the two answers out of the same numbers -/
theorem sg_end {n : Nat} (hn : 5000 < n) {c d : St} {many bits z : Nat} {fst : Int32} {col : Nat → Nat} (hz : z ≤ 3) (h0 : gI c 36 0 = nI many) (h1 : gI c 36 1 = fst) (h2 : gI c 36 2 = nI bits) (h38 : ∀ x, x < 20 → gI c 38 x = nI (col x)) (h29 : ∀ x, x < 20 → gI d 29 x = nI (col x)) (hm : many ≤ 400) (hcl : ∀ x, col x ≤ many) : ∃ r, (if nI z = 0 then (some ((gI c 36 0), c)) else (if nI z = 1 then (some ((gI c 36 1), c)) else (if nI z = 2 then (some ((gI c 36 2), c)) else ((fX8_columnToAsk n c).bind (fun r11 => some (r11, c)))))) = some (r, c) ∧ fX12_sight_159 n d (nI z) (nI many) fst (nI bits) = some (r, d) := by
  unfold fX12_sight_159
  rw [h0, h1, h2]
  rcases (show z = 0 ∨ z = 1 ∨ z = 2 ∨ z = 3 by omega) with rfl | rfl | rfl | rfl
  · rw [if_pos (show nI 0 = 0 from rfl), if_neg (show ¬ (3 : Int32) ≤ nI 0 by decide), if_pos (show nI 0 = 0 from rfl)]
    exact ⟨_, rfl, rfl⟩
  · rw [if_neg (show ¬ nI 1 = 0 by decide), if_pos (show nI 1 = 1 from rfl), if_neg (show ¬ (3 : Int32) ≤ nI 1 by decide), if_neg (show ¬ nI 1 = 0 by decide), if_pos (show nI 1 = 1 from rfl)]
    exact ⟨_, rfl, rfl⟩
  · rw [if_neg (show ¬ nI 2 = 0 by decide), if_neg (show ¬ nI 2 = 1 by decide), if_pos (show nI 2 = 2 from rfl), if_neg (show ¬ (3 : Int32) ≤ nI 2 by decide), if_neg (show ¬ nI 2 = 0 by decide), if_neg (show ¬ nI 2 = 1 by decide)]
    exact ⟨_, rfl, rfl⟩
  · rw [if_neg (show ¬ nI 3 = 0 by decide), if_neg (show ¬ nI 3 = 1 by decide), if_neg (show ¬ nI 3 = 2 by decide), if_pos (show (3 : Int32) ≤ nI 3 by decide), d_col hn hm h29]
    by_cases w : many = 0
    · obtain ⟨n', rfl⟩ : ∃ n', n = n' + 1 := ⟨n - 1, by omega⟩
      unfold fX8_columnToAsk
      rw [if_pos w, fX8_columnToAsk_7, if_neg (show ¬ (20 : Int32) ≤ 0 by decide), h0, if_pos (show nI many ≤ 0 by rw [w]; exact i32_rf _), Option.bind_some]
      exact ⟨_, rfl, rfl⟩
    · rw [if_neg w, c_col hn (by omega) hm hcl h0 h38, Option.bind_some]
      exact ⟨_, rfl, rfl⟩
set_option maxHeartbeats 1000000 in
theorem sight_rel {n : Nat} (hn : 5000 < n) {c d : St} {nf nl nc : Nat} {V : Nat → Nat → Int32} {P : LwP} (hc : VC c nf nl nc V P) (hd : VD d nf nl nc V P) (hb : VB nf nl nc V) {s ln z : Nat} (hs : s < 6) (hR : rwE c d s ln) (hz : z ≤ 3) : ∃ r c' d', ((fX8_look n c s).bind (fun r6 => if nI z = 0 then (some ((gI r6 36 0), r6)) else (if nI z = 1 then (some ((gI r6 36 1), r6)) else (if nI z = 2 then (some ((gI r6 36 2), r6)) else ((fX8_columnToAsk n r6).bind (fun r11 => some (r11, r6))))))) = some (r, c') ∧ fX12_sight_44 n n d (nI s) (nI z) 0 (-2) 0 0 = some (r, d') ∧ Qn c c' ∧ Qd d d' := by
  have hl60 := hR.1
  obtain ⟨f0, f1, f2, f3, f4, f5⟩ := forget_q c
  have g53 : gI (fX8_forget c) (53 + 2 * s) = gI c (53 + 2 * s) := f0.1 _ (by omega) (by omega) (by omega)
  obtain ⟨d1, a1, a2, a3⟩ := d_c0 (n := n) (a1 := nI s) (a2 := nI z) (v4 := 0) (v5 := -2) (v6 := 0) 20 0 n d (by omega) (by omega) (fun j hj => absurd hj (by omega))
  have a1' : fX12_sight_44 n n d (nI s) (nI z) 0 (-2) 0 0 = _ := a1
  rw [a1']
  have hR1 : rwE c d1 s ln := rwE_d hR (a3.1 40 (by omega)) (a3.2 41)
  have none_ : ∀ c1, fX12_areSights n d1 (nI s) = some false → fX8_look n c s = some c1 → Qn c c1 → gI c1 36 = gI (fX8_forget c) 36 → gI c1 38 = gI (fX8_forget c) 38 → ∃ r c' d', ((fX8_look n c s).bind (fun r6 => if nI z = 0 then (some ((gI r6 36 0), r6)) else (if nI z = 1 then (some ((gI r6 36 1), r6)) else (if nI z = 2 then (some ((gI r6 36 2), r6)) else ((fX8_columnToAsk n r6).bind (fun r11 => some (r11, r6))))))) = some (r, c') ∧ fX12_sight_68 n n d1 (nI s) (nI z) 0 (-2) 0 0 = some (r, d') ∧ Qn c c' ∧ Qd d d' := by
    intro c1 e1 e2 e3 e36 e38
    rw [e2, Option.bind_some]
    have e4 : fX12_sight_68 n n d1 (nI s) (nI z) 0 (-2) 0 0 = fX12_sight_159 n d1 (nI z) (nI 0) (-2) (nI 0) := by
      obtain ⟨n', rfl⟩ : ∃ n', n = n' + 1 := ⟨n - 1, by omega⟩
      rw [fX12_sight_68, if_neg (show ¬ (400 : Int32) ≤ 0 by decide), e1, Option.bind_some]
      rfl
    rw [e4]
    obtain ⟨r, u1, u2⟩ := sg_end hn (c := c1) (d := d1) (many := 0) (bits := 0) (fst := -2) (col := fun _ => 0) hz (by rw [e36]; exact f1) (by rw [e36]; exact f2) (by rw [e36]; exact f3) (fun x hx => by rw [e38, f5 x hx]; rfl) (fun x hx => by rw [a2 x hx]; rfl) (by omega) (fun _ => Nat.le_refl 0)
    exact ⟨r, c1, d1, u1, u2, e3, a3⟩
  have e4 : rmI (nI ln) 4 = nI (ln % 4) := rm_nI (d := 4) (by omega) (by omega) (by omega)
  by_cases z4 : ln % 4 = 0
  · obtain ⟨R, hRR⟩ : ∃ R, ln = 4 * R := ⟨ln / 4, by omega⟩
    generalize hc2 : sIs (fX8_forget c) 37 (flI (gI (fX8_forget c) 37) 400 0) = c2
    have n2 : Qn c c2 := by rw [← hc2]; exact Qn_tr f0 (Qn_sIs _ _ _ (by omega))
    have k37 : ∀ y, y < 400 → gI c2 37 y = nI 0 := fun y hy => by
      rw [← hc2, gI_sIsx, if_pos rfl]
      show (if y < 400 then (0 : Int32) else _) = nI 0
      rw [if_pos hy]
      rfl
    have k36 : gI c2 36 = gI (fX8_forget c) 36 := by rw [← hc2, gI_sIsx, if_neg (by omega)]
    have k38 : gI c2 38 = gI (fX8_forget c) 38 := by rw [← hc2, gI_sIsx, if_neg (by omega)]
    obtain ⟨c3, l1, l2, l3⟩ := c_l24 hn hR hRR R 0 n c2 (by omega) (by omega) (n2.1 _ (by omega) (by omega) (by omega)) (n2.2 _)
    have el : fX8_look n c s = if allV (eR c s) R 0 = true then fX8_look_84 n n c3 s 0 else some c3 := by
      unfold fX8_look
      rw [bnd_x, g53, hR.2.1, e4, z4, if_pos (show nI 0 = 0 from rfl), bnd_x, hc2]
      exact l1
    have n3 : Qn c c3 := Qn_tr n2 (F37_n l2)
    by_cases hA : allV (eR c s) R 0 = true
    · rw [if_pos hA] at el
      have m37 : ∀ y, y < 400 → gI c3 37 y = nI (cntO (eR c s) y R 0) := fun y hy => by rw [l3 hA y hy, k37 y hy, nI_add, Nat.zero_add]
      obtain ⟨c', d', m', b', f', col', u1, u2, u3, u4, u5, u6, u7, u8, u9, u10, u11⟩ := sg_l hn hb hs hRR hR.2.1 hA (nI z) 400 0 n 0 0 (fun _ => 0) c3 d1 (-2) (by omega) (by omega) (by omega) (fun _ => Nat.le_refl 0) (VC_Q hc (Qn_q n3)) (VD_Q hd a3) hR1 (n3.1 _ (by omega) (by omega) (by omega)) (by rw [l2.1 36 (by omega), k36]; exact f1) (by rw [l2.1 36 (by omega), k36]; exact f2) (by rw [l2.1 36 (by omega), k36]; exact f3) (fun x hx => by rw [l2.1 38 (by omega), k38, f5 x hx]; rfl) (fun x hx => by rw [a2 x hx]; rfl) m37
      have u1' : fX8_look_84 n n c3 s 0 = some c' := u1
      have u2' : fX12_sight_68 n n d1 (nI s) (nI z) 0 (-2) 0 0 = _ := u2
      rw [el, u1', Option.bind_some, u2']
      obtain ⟨r, v1, v2⟩ := sg_end hn hz u3 u4 u5 u6 u7 u8 u9
      exact ⟨r, c', d', v1, v2, Qn_tr n3 u10, Qd_tr a3 u11⟩
    · rw [if_neg hA] at el
      refine none_ c3 ?_ el n3 (by rw [l2.1 36 (by omega), k36]) (by rw [l2.1 38 (by omega), k38])
      have := d_sights (n := n) hs hR1 hRR R 0 n (by omega) (by omega)
      rw [Bool.eq_false_iff.mpr hA] at this
      exact this
  · refine none_ (fX8_forget c) (d_sights_n (n := n) hs hR1 z4 15 0 n (by omega) (by omega) (by omega)) ?_ f0 rfl rfl
    unfold fX8_look
    rw [bnd_x, g53, hR.2.1, e4, if_neg (nI_ne0 (by omega) (by omega))]
theorem s_sight {n : Nat} (hn : 5000 < n) : S_sight Rel n := by
  intro c d a1 a2 h
  obtain ⟨nf, nl, nc, P, hc, hd, hb⟩ := views h
  generalize hV : (fun w j => gI c (3 + w) j) = V at hc hd hb
  unfold fX11_sight fX12_sight fX11_sight_19
  rw [isW, isI]
  simp only [if_bI]
  rw [if_neg (show ¬ (-1 : Int32) = 0 by decide)]
  by_cases h2 : 0 ≤ a2 ∧ a2 ≤ 3
  · rw [decide_eq_true h2]
    simp only [cond_true]
    obtain ⟨z, hz, rfl⟩ := (in_nat (n := 3) rfl (by omega)).mp h2
    cases hsh : fX12_isShelf a1 with
    | false =>
      unfold fX11_refusalOfRow
      rw [sh_eq, hsh]
      exact ⟨-1, c, d, rfl, rfl, h⟩
    | true =>
      obtain ⟨s, hs, rfl⟩ := sh_in hsh
      simp only [cond_true]
      rcases row_ask h hs (so := 0) (by omega) with ⟨r, r1, r2, r3, r4⟩ | ⟨r3, r4, ln, hR⟩
      · have r3' : fX11_refusalOfRow c (nI s) 0 = some r := r3
        have r4' : fX12_rowFault d (nI s) 0 = some r := r4
        rw [r3', r4', Option.bind_some, Option.bind_some, if_neg r1, if_neg r2]
        exact ⟨r, c, d, rfl, rfl, h⟩
      · have r3' : fX11_refusalOfRow c (nI s) 0 = some 0 := r3
        have r4' : fX12_rowFault d (nI s) 0 = some 0 := r4
        rw [r3', r4', Option.bind_some, Option.bind_some, if_pos rfl, if_pos (i32_rf _), inB_t hs (by omega), gd_true, nIc (by omega)]
        obtain ⟨r, c', d', e1, e2, e3, e4⟩ := sight_rel hn hc hd hb hs hR hz
        exact ⟨r, c', d', e1, e2, Rel_Q h (Qn_q e3) e4⟩
  · rw [decide_eq_false h2]
    refine ⟨-1, c, d, rfl, ?_, h⟩
    cases fX12_isShelf a1 <;> rfl
