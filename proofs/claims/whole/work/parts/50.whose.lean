theorem hv_s1 {g : Nat → Int32} {i : Nat} (z1 : g i ≤ mx g i) (z2 : 0 < g i ∧ g i = mx g i) : mx g (i + 1) = mx g i ∧ bt g (i + 1) = (bt g i ||| 2 ^ i) ∧ mn g (i + 1) = mn g i + 1 := by
  have e : hv3 g (i + 1) = (mx g i, bt g i ||| 2 ^ i, mn g i + 1) := by
    rw [hv3]
    show (if g i ≤ mx g i then (if 0 < g i ∧ g i = mx g i then (mx g i, bt g i ||| 2 ^ i, mn g i + 1) else hv3 g i) else (g i, 2 ^ i, 1)) = _
    rw [if_pos z1, if_pos z2]
  exact ⟨congrArg (fun r => r.1) e, congrArg (fun r => r.2.1) e, congrArg (fun r => r.2.2) e⟩
theorem hv_s2 {g : Nat → Int32} {i : Nat} (z1 : g i ≤ mx g i) (z2 : ¬ (0 < g i ∧ g i = mx g i)) : mx g (i + 1) = mx g i ∧ bt g (i + 1) = bt g i ∧ mn g (i + 1) = mn g i := by
  have e : hv3 g (i + 1) = hv3 g i := by
    rw [hv3]
    show (if g i ≤ mx g i then (if 0 < g i ∧ g i = mx g i then (mx g i, bt g i ||| 2 ^ i, mn g i + 1) else hv3 g i) else (g i, 2 ^ i, 1)) = _
    rw [if_pos z1, if_neg z2]
  exact ⟨congrArg (fun r => r.1) e, congrArg (fun r => r.2.1) e, congrArg (fun r => r.2.2) e⟩
theorem hv_s3 {g : Nat → Int32} {i : Nat} (z1 : ¬ g i ≤ mx g i) : mx g (i + 1) = g i ∧ bt g (i + 1) = 2 ^ i ∧ mn g (i + 1) = 1 := by
  have e : hv3 g (i + 1) = (g i, 2 ^ i, 1) := by
    rw [hv3]
    show (if g i ≤ mx g i then (if 0 < g i ∧ g i = mx g i then (mx g i, bt g i ||| 2 ^ i, mn g i + 1) else hv3 g i) else (g i, 2 ^ i, 1)) = _
    rw [if_neg z1]
  exact ⟨congrArg (fun r => r.1) e, congrArg (fun r => r.2.1) e, congrArg (fun r => r.2.2) e⟩
/-- how much each cry counts -/
def gA (P : LwP) (V : Nat → Nat → Int32) (o m wh : Int32) : Nat → Int32 := fun i => wtV P o m wh (V 10 i) (V 11 i) (V 12 i) (V 13 i)
theorem gW_m1 (P : LwP) (V : Nat → Nat → Int32) (o m wh : Int32) (n : Nat) (hn : n < 1000) : hv3 (gW P V o m wh (-1)) n = hv3 (gA P V o m wh) n := hv_congr n (fun i hi => by
  unfold gW gA
  rw [if_neg (neg1_nI (by omega))])
theorem d_have_l {n : Nat} (hn : 5000 < n) {nf nl nc : Nat} {V : Nat → Nat → Int32} {P : LwP} (hb : VB nf nl nc V) {j x y : Nat} {m wh : Int32} : ∀ (r i k : Nat) (d : St), i + r = nc → r < k → VD d nf nl nc V P → FD d j x y m wh → ∃ d', fX12_haveIt_7 n k d (nI j) (mx (gA P V (ownV V nf x y) m wh) i) (nI (bt (gA P V (ownV V nf x y) m wh) i)) (nI i) = some (nI (bt (gA P V (ownV V nf x y) m wh) nc), d') ∧ Q2d d d' := by
  generalize hg : gA P V (ownV V nf x y) m wh = g
  have h12 := hb.2.2.1
  intro r
  induction r with
  | zero =>
    intro i k d hi hk hv hF
    obtain ⟨k, rfl⟩ : ∃ k', k = k' + 1 := ⟨k - 1, by omega⟩
    have e : i = nc := by omega
    subst e
    rw [fX12_haveIt_7, hv.2.2.1, if_pos (i32_rf _)]
    exact ⟨d, rfl, Q2d_rf d⟩
  | succ r ih =>
    intro i k d hi hk hv hF
    obtain ⟨k, rfl⟩ : ∃ k', k = k' + 1 := ⟨k - 1, by omega⟩
    rw [fX12_haveIt_7, hv.2.2.1, if_neg (nI_ge (by omega) (by omega))]
    obtain ⟨a1, a2, a3, a4, a5, a6⟩ := hv_all g i
    obtain ⟨d1, e1, e2⟩ := d_countsOf hn hv hb hF (show i < nc by omega)
    have hgi : wtV P (ownV V nf x y) m wh (V 10 i) (V 11 i) (V 12 i) (V 13 i) = g i := by rw [← hg]; rfl
    rw [hgi] at e1
    rw [e1, Option.bind_some]
    simp only [bnd_x, nI_1, shl_1b (show i < 31 by omega), or_nI]
    have go : ∃ d', fX12_haveIt_7 n k d1 (nI j) (mx g (i + 1)) (nI (bt g (i + 1))) (nI (i + 1)) = some (nI (bt g nc), d') ∧ Q2d d d' := by
      obtain ⟨d', y1, y2⟩ := ih (i + 1) k d1 (by omega) (by omega) (VD_Q hv (Q2d_q e2)) (FD_Q hF (Q2d_q e2))
      exact ⟨d', y1, Q2d_tr e2 y2⟩
    by_cases z3 : g i ≤ 0
    · rw [if_pos z3]
      obtain ⟨q1, q2, q3⟩ := hv_s2 (g := g) (i := i) (i32_lele z3 a1) (fun q => fa_nle q.1 z3)
      rw [q1, q2] at go
      exact go
    · rw [if_neg z3]
      by_cases z4 : mx g i ≤ g i
      · rw [if_pos z4]
        by_cases z5 : g i ≤ mx g i
        · have ee : g i = mx g i := by
            rcases i32_cmp (g i) (mx g i) with q | q | q
            · exact absurd z4 (fun w => fa_nle q w)
            · exact q
            · exact absurd z5 (fun w => fa_nle q w)
          obtain ⟨q1, q2, q3⟩ := hv_s1 (g := g) (i := i) z5 ⟨i32_nle z3, ee⟩
          rw [q1, q2] at go
          rw [if_pos z5, ee]
          exact go
        · rw [if_neg z5, show (0 : Int32) ||| nI (2 ^ i) = nI (2 ^ i) by rw [show (0 : Int32) = nI 0 from rfl, or_nI, Nat.zero_or]]
          obtain ⟨q1, q2, q3⟩ := hv_s3 (g := g) (i := i) z5
          rw [q1, q2] at go
          exact go
      · rw [if_neg z4]
        obtain ⟨q1, q2, q3⟩ := hv_s2 (g := g) (i := i) (i32_ltle' (i32_nle z4)) (fun q => z4 (by rw [q.2]; exact i32_rf _))
        rw [q1, q2] at go
        exact go
theorem d_haveIt {n : Nat} (hn : 5000 < n) {d : St} {nf nl nc : Nat} {V : Nat → Nat → Int32} {P : LwP} (hv : VD d nf nl nc V P) (hb : VB nf nl nc V) {j x y : Nat} {m wh : Int32} (hF : FD d j x y m wh) : ∃ d', fX12_haveIt n d (nI j) = some (nI (bt (gA P V (ownV V nf x y) m wh) nc), d') ∧ Q2d d d' :=
  d_have_l hn hb nc 0 n d (by omega) (by have := hb.2.2.1; omega) hv hF
theorem d_most_l {n : Nat} (hn : 5000 < n) {nf nl nc : Nat} {V : Nat → Nat → Int32} {P : LwP} (hb : VB nf nl nc V) {j x y : Nat} {m wh : Int32} : ∀ (r i k : Nat) (d : St), i + r = nc → r < k → VD d nf nl nc V P → FD d j x y m wh → ∃ d', fX12_mostOf_4 n k d (nI j) (mx (gA P V (ownV V nf x y) m wh) i) (nI i) = some (mx (gA P V (ownV V nf x y) m wh) nc, d') ∧ Q2d d d' := by
  generalize hg : gA P V (ownV V nf x y) m wh = g
  have h12 := hb.2.2.1
  intro r
  induction r with
  | zero =>
    intro i k d hi hk hv hF
    obtain ⟨k, rfl⟩ : ∃ k', k = k' + 1 := ⟨k - 1, by omega⟩
    have e : i = nc := by omega
    subst e
    rw [fX12_mostOf_4, hv.2.2.1, if_pos (i32_rf _)]
    exact ⟨d, rfl, Q2d_rf d⟩
  | succ r ih =>
    intro i k d hi hk hv hF
    obtain ⟨k, rfl⟩ : ∃ k', k = k' + 1 := ⟨k - 1, by omega⟩
    rw [fX12_mostOf_4, hv.2.2.1, if_neg (nI_ge (by omega) (by omega))]
    obtain ⟨d1, e1, e2⟩ := d_countsOf hn hv hb hF (show i < nc by omega)
    have hgi : wtV P (ownV V nf x y) m wh (V 10 i) (V 11 i) (V 12 i) (V 13 i) = g i := by rw [← hg]; rfl
    rw [hgi] at e1
    rw [e1, Option.bind_some]
    simp only [bnd_x, nI_1]
    have go : ∃ d', fX12_mostOf_4 n k d1 (nI j) (mx g (i + 1)) (nI (i + 1)) = some (mx g nc, d') ∧ Q2d d d' := by
      obtain ⟨d', y1, y2⟩ := ih (i + 1) k d1 (by omega) (by omega) (VD_Q hv (Q2d_q e2)) (FD_Q hF (Q2d_q e2))
      exact ⟨d', y1, Q2d_tr e2 y2⟩
    by_cases z1 : g i ≤ mx g i
    · rw [if_pos z1]
      have q : mx g (i + 1) = mx g i := by
        by_cases z2 : 0 < g i ∧ g i = mx g i
        · exact (hv_s1 z1 z2).1
        · exact (hv_s2 z1 z2).1
      rw [q] at go
      exact go
    · rw [if_neg z1]
      rw [(hv_s3 z1).1] at go
      exact go
theorem d_mostOf {n : Nat} (hn : 5000 < n) {d : St} {nf nl nc : Nat} {V : Nat → Nat → Int32} {P : LwP} (hv : VD d nf nl nc V P) (hb : VB nf nl nc V) {j x y : Nat} {m wh : Int32} (hF : FD d j x y m wh) : ∃ d', fX12_mostOf n d (nI j) = some (mx (gA P V (ownV V nf x y) m wh) nc, d') ∧ Q2d d d' :=
  d_most_l hn hb nc 0 n d (by omega) (by have := hb.2.2.1; omega) hv hF
theorem bits_sq : ∀ a, a < 64 → ∀ b, b < 64 → fX12_bitsOf_4 0 13 0 (nI (64 * a + b)) = some (nI (pop (64 * a + b) 12)) := by decide +kernel
theorem bits_all (F : Nat) (h : F < 4096) : fX12_bitsOf_4 0 13 0 (nI F) = some (nI (pop F 12)) := by
  have := bits_sq (F / 64) (by omega) (F % 64) (by omega)
  rw [show 64 * (F / 64) + F % 64 = F by omega] at this
  exact this
theorem bits_up (a b e : Nat) : ∀ (k : Nat) (v x r : Int32), fX12_bitsOf_4 a k v x = some r → fX12_bitsOf_4 b (k + e) v x = some r := by
  intro k
  induction k with
  | zero => intro v x r h; cases h
  | succ k ih =>
    intro v x r h
    rw [show k + 1 + e = (k + e) + 1 by omega, fX12_bitsOf_4]
    rw [fX12_bitsOf_4] at h
    by_cases z : x = 0
    · rw [if_pos z] at h ⊢
      exact h
    · rw [if_neg z] at h ⊢
      exact ih _ _ _ h
theorem d_bits {n : Nat} (hn : 5000 < n) {F : Nat} (hF : F < 4096) : fX12_bitsOf n (nI F) = some (nI (pop F 12)) := by
  unfold fX12_bitsOf
  have h := bits_up 0 n (n - 13) 13 0 (nI F) _ (bits_all F hF)
  rw [show 13 + (n - 13) = n by omega] at h
  exact h
theorem bt_12 (g : Nat → Int32) {nc : Nat} (h : nc ≤ 12) : bt g nc < 4096 ∧ pop (bt g nc) 12 = mn g nc := by
  obtain ⟨a1, a2, a3, a4, a5, a6⟩ := hv_all g nc
  refine ⟨Nat.lt_of_lt_of_le a5 (Nat.pow_le_pow_right (n := 2) (by omega) h), ?_⟩
  rw [a6, pop_lt a5 12 h]
theorem s_whose {n : Nat} (hn : 5000 < n) : S_whose Rel n := by
  intro c d a1 a2 h
  obtain ⟨nf, nl, nc, P, hc, hd, hb⟩ := views h
  generalize hV : (fun w j => gI c (3 + w) j) = V at hc hd hb
  have h8 := hb.1
  have h10 := hb.2.1
  have h12 := hb.2.2.1
  unfold fX11_whose fX12_whose fX11_isFall fX12_isFall
  rw [hc.2.1, hd.2.1, isW, isI, isW, isI]
  simp only [if_bI, some_eta]
  by_cases h1 : 0 ≤ a1 ∧ a1 ≤ nI nl - 1
  · rw [decide_eq_true h1]
    obtain ⟨f, hf, rfl⟩ := (cnt_in a1 (by omega)).mp h1
    obtain ⟨x, y, m, hx, hy, hm, v6, v7, v8⟩ := fall_nat hb hf
    have hF := FD_of hd hb hf hx hy v6 v7
    by_cases h2 : 0 ≤ a2 ∧ a2 ≤ 4
    · rw [decide_eq_true h2]
      simp only [cond_true]
      rw [c_under hn hc hb (by omega) hx hy v6 v7, Option.bind_some, c_owner hc hb, Option.bind_some]
      obtain ⟨z, hz, rfl⟩ := (in_nat (n := 4) rfl (by omega)).mp h2
      obtain ⟨c', w1, w2, w3, w4, w5⟩ := c_weigh hn hc hb (show f < 13 by omega) v8 (by omega) (ownV V nf x y) (-1)
      have em : mx (gW P V (ownV V nf x y) (V 8 f) (V 9 f) (-1)) nc = mx (gA P V (ownV V nf x y) (V 8 f) (V 9 f)) nc := by unfold mx; rw [gW_m1 _ _ _ _ _ _ (by omega)]
      have eb : bt (gW P V (ownV V nf x y) (V 8 f) (V 9 f) (-1)) nc = bt (gA P V (ownV V nf x y) (V 8 f) (V 9 f)) nc := by unfold bt; rw [gW_m1 _ _ _ _ _ _ (by omega)]
      have en : mn (gW P V (ownV V nf x y) (V 8 f) (V 9 f) (-1)) nc = mn (gA P V (ownV V nf x y) (V 8 f) (V 9 f)) nc := by unfold mn; rw [gW_m1 _ _ _ _ _ _ (by omega)]
      rw [em] at w3
      rw [eb] at w4
      rw [en] at w5
      obtain ⟨b1, b2⟩ := bt_12 (gA P V (ownV V nf x y) (V 8 f) (V 9 f)) h12
      rcases (show z = 0 ∨ z = 1 ∨ z = 2 ∨ z = 3 ∨ z = 4 by omega) with rfl | rfl | rfl | rfl | rfl
      · rw [if_pos (show nI 0 = 0 from rfl), if_pos (show nI 0 = 0 from rfl), inB_t (show f < 11 by omega) (by omega), gd_true, gd_true, nIc (by omega), hF.2.2.2.1, hF.2.2.2.2.1, d_fieldAt hn hd hb hx hy]
        cases hfl : fldV V x y nf 0 with
        | none => exact ⟨-2, c, d, rfl, rfl, h⟩
        | some g =>
          have := fldV_lt nf 0 g hfl
          refine ⟨nI g, c, d, ?_, rfl, h⟩
          show (if 0 ≤ nI g then some (nI g, c) else some (-2, c)) = some (nI g, c)
          rw [if_pos (nI_pos' (by omega))]
      · rw [if_neg (show ¬ nI 1 = 0 by decide), if_pos (show nI 1 = 1 from rfl), if_neg (show ¬ nI 1 = 0 by decide), if_pos (show nI 1 = 1 from rfl), d_finder hn hd hb hF.1 hx hy hF.2.2.2.1 hF.2.2.2.2.1]
        refine ⟨fnd (ownV V nf x y), c, d, ?_, rfl, h⟩
        unfold fnd
        split <;> rfl
      · rw [w1, if_neg (show ¬ nI 2 = 0 by decide), if_neg (show ¬ nI 2 = 1 by decide), if_neg (show ¬ nI 2 = 0 by decide), if_neg (show ¬ nI 2 = 1 by decide), if_pos (show nI 2 = 2 from rfl)]
        obtain ⟨d', y1, y2⟩ := d_haveIt hn hd hb hF
        rw [y1, Option.bind_some, Option.bind_some, if_pos (show nI 2 = 2 from rfl), d_bits hn b1, b2, w5]
        exact ⟨_, c', d', rfl, rfl, Rel_Q h (Qw_q w2) (Q2d_q y2)⟩
      · rw [w1, if_neg (show ¬ nI 3 = 0 by decide), if_neg (show ¬ nI 3 = 1 by decide), if_neg (show ¬ nI 3 = 0 by decide), if_neg (show ¬ nI 3 = 1 by decide), if_neg (show ¬ nI 3 = 2 by decide), if_pos (show nI 3 = 3 from rfl), Option.bind_some, if_neg (show ¬ nI 3 = 2 by decide), if_pos (show nI 3 = 3 from rfl), w4]
        obtain ⟨d', y1, y2⟩ := d_haveIt hn hd hb hF
        exact ⟨_, c', d', rfl, y1, Rel_Q h (Qw_q w2) (Q2d_q y2)⟩
      · rw [w1, if_neg (show ¬ nI 4 = 0 by decide), if_neg (show ¬ nI 4 = 1 by decide), if_neg (show ¬ nI 4 = 0 by decide), if_neg (show ¬ nI 4 = 1 by decide), if_neg (show ¬ nI 4 = 2 by decide), if_neg (show ¬ nI 4 = 3 by decide), Option.bind_some, if_neg (show ¬ nI 4 = 2 by decide), if_neg (show ¬ nI 4 = 3 by decide), w3]
        obtain ⟨d', y1, y2⟩ := d_mostOf hn hd hb hF
        exact ⟨_, c', d', rfl, y1, Rel_Q h (Qw_q w2) (Q2d_q y2)⟩
    · rw [decide_eq_false h2]
      exact ⟨_, c, d, rfl, rfl, h⟩
  · rw [decide_eq_false h1]
    exact ⟨_, c, d, rfl, rfl, h⟩
