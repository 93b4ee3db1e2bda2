theorem lgc_lt (x y : Int64) : (lg_cmp x y < 0) ↔ x < y := by
  unfold lg_cmp
  by_cases h1 : x > y
  · rw [if_pos h1]
    have q1 := Int64.lt_iff_toInt_lt.mp h1
    exact ⟨fun h => absurd h (by decide), fun h => by have q2 := Int64.lt_iff_toInt_lt.mp h; omega⟩
  · rw [if_neg h1]
    by_cases h2 : x = y
    · rw [if_pos h2, h2]
      exact ⟨fun h => absurd h (by decide), fun h => by have q2 := Int64.lt_iff_toInt_lt.mp h; omega⟩
    · rw [if_neg h2]
      refine ⟨fun _ => Int64.lt_iff_toInt_lt.mpr ?_, fun _ => by decide⟩
      have q1 : ¬ y.toInt < x.toInt := fun q => h1 (Int64.lt_iff_toInt_lt.mpr q)
      have q2 : ¬ x.toInt = y.toInt := fun q => h2 (Int64.toInt_inj.mp q)
      omega
theorem lgc_ge (x y : Int64) : (0 ≤ lg_cmp x y) ↔ y ≤ x := by
  have h := lgc_lt x y
  constructor
  · intro q
    refine Int64.le_iff_toInt_le.mpr ?_
    have q1 : ¬ x.toInt < y.toInt := fun e => (fa_nle (h.mpr (Int64.lt_iff_toInt_lt.mpr e))) q
    omega
  · intro q
    refine fa_nlt (fun e => ?_)
    have q1 := Int64.lt_iff_toInt_lt.mp (h.mp e)
    have q2 := Int64.le_iff_toInt_le.mp q
    omega
/-- small longs are ints -/
def sm (e : Int64) : Prop := -32768 ≤ e ∧ e ≤ 32767
theorem sm_toInt {e : Int64} (h : sm e) : e.toInt32.toInt = e.toInt ∧ -32768 ≤ e.toInt ∧ e.toInt ≤ 32767 := by
  have h1 : -32768 ≤ e.toInt := Int64.le_iff_toInt_le.mp h.1
  have h2 : e.toInt ≤ 32767 := Int64.le_iff_toInt_le.mp h.2
  refine ⟨?_, h1, h2⟩
  rw [Int64.toInt_toInt32, Int.bmod_eq_of_le (by omega) (by omega)]
theorem sm_lt {e : Int64} (h : sm e) (k : Nat) (hk : k < 30000) : (e < lN k) ↔ e.toInt32 < nI k := by
  obtain ⟨h1, h2, h3⟩ := sm_toInt h
  rw [Int64.lt_iff_toInt_lt, Int32.lt_iff_toInt_lt, h1, pk_lT (by omega), nI_toInt (by omega)]
theorem sm_side {e : Int64} (h : sm e) : fX11_isSide e = decide (0 ≤ e.toInt32 ∧ e.toInt32 ≤ 19) := by
  unfold fX11_isSide
  have a1 := sm_lt h 0 (by omega)
  have a2 := sm_lt h 20 (by omega)
  obtain ⟨h1, h2, h3⟩ := sm_toInt h
  have e0 : (0 : Int32).toInt = 0 := rfl
  have e19 : (19 : Int32).toInt = 19 := rfl
  by_cases c1 : lg_cmp e 0 < 0
  · rw [if_pos c1, decide_eq_false]
    intro q
    exact fa_nle (a1.mp ((lgc_lt e 0).mp c1)) q.1
  · rw [if_neg c1]
    have c1' : ¬ e.toInt32 < 0 := fun q => c1 ((lgc_lt e 0).mpr (a1.mpr q))
    by_cases c2 : 0 ≤ lg_cmp e 20
    · rw [if_pos c2, decide_eq_false]
      intro q
      have q1 := Int64.le_iff_toInt_le.mp ((lgc_ge e 20).mp c2)
      have q2 := Int32.le_iff_toInt_le.mp q.2
      have e20 : (20 : Int64).toInt = 20 := rfl
      omega
    · rw [if_neg c2, decide_eq_true]
      refine ⟨fa_nlt c1', Int32.le_iff_toInt_le.mpr ?_⟩
      have q1 : ¬ (20 : Int64).toInt ≤ e.toInt := fun q => c2 ((lgc_ge e 20).mpr (Int64.le_iff_toInt_le.mpr q))
      have e20 : (20 : Int64).toInt = 20 := rfl
      omega
/-- what a row of shorts holds, on both sides -/
def shr (c d : St) (s ln : Nat) : Prop := gI c (53 + 2 * s) 0 = 2 ∧ gI c (53 + 2 * s) 2 = 1 ∧ gI c (53 + 2 * s) 3 = nI ln ∧ ln ≤ 60 ∧ gI d 40 s = nI ln
theorem shr_sm {c d : St} (h : Rel c d) {s ln : Nat} (hs : s < 6) (q : shr c d s ln) (j : Nat) (hj : j < 60) : sm (gL c (54 + 2 * s) j) ∧ gL d 41 (60 * s + j) = gL c (54 + 2 * s) j := by
  refine ⟨?_, (h.2.2.2.2.2.1 s hs).2 j hj⟩
  rcases (h.2.2.2.2.2.1 s hs).1 with ⟨q1, q2⟩ | ⟨q1, b, z1, z2, z3, z4⟩ | ⟨q1, so, ln', s1, s2, s3, s4, s5, s6, s7, s8⟩
  · rw [q.1] at q1; exact absurd q1 (by decide)
  · rw [q.1] at q1; exact absurd q1 (by decide)
  · have e : so = 1 := by
      have e := s3.symm.trans q.2.1
      rw [show (1 : Int32) = nI 1 from rfl, nIeq (by omega) (by omega)] at e
      exact e
    exact s8 e j hj
set_option maxHeartbeats 4000000 in
theorem falls_loop (n : Nat) {s ln i0 N : Nat} (hs : s < 6) (hi0 : i0 ≤ 1000) (hN : N ≤ 10) : ∀ (m t k : Nat) (c d : St), t + m = N → m < k → Rel c d → shr c d s ln → ∃ (r : Int32) (c' d' : St), fX11_fallsFrom_6 n k c s (nI N) (nI t) (nI (i0 + 3 * t)) = some (r, c') ∧ fX12_falls_58 n k d (nI s) (nI i0) (nI N) (nI t) = some (r, d') ∧ Rel c' d' := by
  intro m
  induction m with
  | zero =>
    intro t k c d ht hk h q
    obtain ⟨k, rfl⟩ : ∃ k', k = k' + 1 := ⟨k - 1, by omega⟩
    have e : t = N := by omega
    rw [fX11_fallsFrom_6, fX12_falls_58, if_pos (nI_le (by omega) (by omega)), if_pos (nI_le (by omega) (by omega)), e]
    exact ⟨_, c, d, rfl, rfl, h⟩
  | succ m ih =>
    intro t k c d ht hk h q
    obtain ⟨k, rfl⟩ : ∃ k', k = k' + 1 := ⟨k - 1, by omega⟩
    obtain ⟨nl, l1, l2, l3⟩ := h.1.2.1
    have h60 := q.2.2.2.1
    rw [fX11_fallsFrom_6, fX12_falls_58, if_neg (nI_ge (by omega) (by omega)), if_neg (nI_ge (by omega) (by omega)), q.2.2.1]
    have eat : (nI i0).toInt64 + ((3 : Int32) * nI t).toInt64 = lN (i0 + 3 * t) := by
      rw [show (3 : Int32) = nI 3 from rfl, pk_mul, nI_l (by omega), nI_l (by omega), lN_add]
    simp only [bnd_x, eat, inB_t hs (by omega), gd_true, nIc (show s < 100000 by omega), q.2.2.2.2]
    rw [if_neg (show ¬ lg_cmp (lN (i0 + 3 * t)) 0 < 0 from fun e => by
      have e2 := (pk_lLT (a := i0 + 3 * t) (b := 0) (by omega) (by omega)).mp ((lgc_lt _ _).mp e)
      omega), show lN (i0 + 3 * t) + (2 : Int64) = lN (i0 + 3 * t + 2) from lN_add _ 2, nI_l (n := ln) (by omega)]
    by_cases w1 : i0 + 3 * t + 3 ≤ ln
    · rw [if_neg (show ¬ (nI ln - 3 < nI (i0 + 3 * t)) from fun e => by
        rw [show (3 : Int32) = nI 3 from rfl, pk_sub (by omega), nIlt (by omega) (by omega)] at e
        omega), if_neg (show ¬ (0 ≤ lg_cmp (lN (i0 + 3 * t + 2)) (lN ln)) from fun e => by
        have e2 := (pk_lLE (a := ln) (b := i0 + 3 * t + 2) (by omega) (by omega)).mp ((lgc_ge _ _).mp e)
        omega)]
      have e32 : (lN (i0 + 3 * t)).toInt32 = nI (i0 + 3 * t) := by
        rw [← nI_l (by omega)]
        exact Int32.toInt32_toInt64 _
      rw [show nI (i0 + 3 * t) + 1 = nI (i0 + 3 * t + 1) from nI_1 _, show nI (i0 + 3 * t) + (2 : Int32) = nI (i0 + 3 * t + 2) from nI_add _ 2, show nI (i0 + 3 * t) + (3 : Int32) = nI (i0 + 3 * (t + 1)) from nI_add _ 3, e32, at60]
      rw [show nI (60 * s + (i0 + 3 * t)) + (1 : Int32) = nI (60 * s + (i0 + 3 * t + 1)) from nI_1 _, show nI (60 * s + (i0 + 3 * t)) + (2 : Int32) = nI (60 * s + (i0 + 3 * t + 2)) from nI_add _ 2]
      simp only [inB_t (show i0 + 3 * t < 60 by omega) (by omega), inB_t (show i0 + 3 * t + 1 < 60 by omega) (by omega), inB_t (show i0 + 3 * t + 2 < 60 by omega) (by omega), inB_t (show 60 * s + (i0 + 3 * t) < 360 by omega) (by omega), inB_t (show 60 * s + (i0 + 3 * t + 1) < 360 by omega) (by omega), inB_t (show 60 * s + (i0 + 3 * t + 2) < 360 by omega) (by omega), gd_true, nIc (show i0 + 3 * t < 100000 by omega), nIc (show i0 + 3 * t + 1 < 100000 by omega), nIc (show i0 + 3 * t + 2 < 100000 by omega), nIc (show 60 * s + (i0 + 3 * t) < 100000 by omega), nIc (show 60 * s + (i0 + 3 * t + 1) < 100000 by omega), nIc (show 60 * s + (i0 + 3 * t + 2) < 100000 by omega)]
      obtain ⟨x1, x2⟩ := shr_sm h hs q (i0 + 3 * t) (by omega)
      obtain ⟨y1, y2⟩ := shr_sm h hs q (i0 + 3 * t + 1) (by omega)
      obtain ⟨z1, z2⟩ := shr_sm h hs q (i0 + 3 * t + 2) (by omega)
      rw [x2, y2, z2]
      generalize hX : gL c (54 + 2 * s) (i0 + 3 * t) = X at x1
      generalize hY : gL c (54 + 2 * s) (i0 + 3 * t + 1) = Y at y1
      generalize hZ : gL c (54 + 2 * s) (i0 + 3 * t + 2) = Z at z1
      unfold fX12_isMinute
      rw [sm_side x1, sm_side y1, isI, isI, isI, l2, l3]
      by_cases w2 : nl = 10
      · rw [w2, if_pos (show nI 10 = 10 from rfl), if_pos (show nI 10 = 10 from rfl)]
        refine ⟨nI t, c, d, ?_, rfl, h⟩
        split
        · rfl
        · split
          · rfl
          · split
            · rfl
            · split <;> rfl
      · rw [if_neg (show ¬ nI nl = 10 from fun e => w2 (by rw [show (10 : Int32) = nI 10 from rfl, nIeq (by omega) (by omega)] at e; exact e)), if_neg (show ¬ nI nl = 10 from fun e => w2 (by rw [show (10 : Int32) = nI 10 from rfl, nIeq (by omega) (by omega)] at e; exact e))]
        simp only [if_bI]
        by_cases v1 : 0 ≤ X.toInt32 ∧ X.toInt32 ≤ 19
        · rw [decide_eq_true v1]
          by_cases v2 : 0 ≤ Y.toInt32 ∧ Y.toInt32 ≤ 19
          · rw [decide_eq_true v2]
            by_cases v3 : 0 ≤ Z.toInt32 ∧ Z.toInt32 ≤ 999
            · rw [decide_eq_true v3]
              simp only [cond_true]
              obtain ⟨x, hx, ex⟩ := (in_nat (n := 19) rfl (by omega)).mp v1
              obtain ⟨y, hy, ey⟩ := (in_nat (n := 19) rfl (by omega)).mp v2
              obtain ⟨z, hz, ez⟩ := (in_nat (n := 999) rfl (by omega)).mp v3
              have g1 := sm_lt z1 0 (by omega)
              have g2 := sm_lt z1 1000 (by omega)
              rw [if_neg (show ¬ lg_cmp Z 0 < 0 from fun e => fa_nle (g1.mp ((lgc_lt Z 0).mp e)) v3.1), if_neg (show ¬ 0 ≤ lg_cmp Z 1000 from fun e => by
                have e1 := (lgc_ge Z 1000).mp e
                have e2 : Z.toInt32 < nI 1000 := by rw [ez]; exact nI_lt (by omega) (by omega)
                have e3 := g2.mpr e2
                have e4 := Int64.lt_iff_toInt_lt.mp e3
                have e5 := Int64.le_iff_toInt_le.mp e1
                have e6 : (lN 1000).toInt = (1000 : Int64).toInt := rfl
                omega), ex, ey, ez]
              obtain ⟨c', d', a1, a2, a3, a4, a5, a6, a7, a8, a9, a10⟩ := addFall_rel h l2 (by omega) (x := x) (y := y) (m := z) (by omega) (by omega) (by omega) (xy := (20 : Int32) * nI y + nI x) (by
                rw [show (20 : Int32) = nI 20 from rfl, pk_mul, nI_add, rm_nI (by omega) (by omega) (by omega)]
                congr 1
                omega) (by
                rw [show (20 : Int32) = nI 20 from rfl, pk_mul, nI_add, dv_nI (by omega) (by omega) (by omega)]
                congr 1
                omega)
              rw [a1, a2]
              simp only [Option.bind_some, nI_1]
              exact ih (t + 1) k c' d' (by omega) (by omega) a3 ⟨by rw [a5 _ (by omega)]; exact q.1, by rw [a5 _ (by omega)]; exact q.2.1, by rw [a5 _ (by omega)]; exact q.2.2.1, q.2.2.2.1, by rw [a8]; exact q.2.2.2.2⟩
            · rw [decide_eq_false v3]
              simp only [cond_true, cond_false]
              refine ⟨nI t, c, d, ?_, rfl, h⟩
              by_cases u1 : lg_cmp Z 0 < 0
              · rw [if_pos u1]
              · rw [if_neg u1, if_pos]
                refine (lgc_ge Z 1000).mpr (Int64.le_iff_toInt_le.mpr ?_)
                have g1 := sm_lt z1 0 (by omega)
                obtain ⟨b1, b2, b3⟩ := sm_toInt z1
                have u2 : ¬ Z.toInt32 < 0 := fun e => u1 ((lgc_lt Z 0).mpr (g1.mpr e))
                have u3 : ¬ Z.toInt32 ≤ 999 := fun e => v3 ⟨fa_nlt u2, e⟩
                have u4 : ¬ Z.toInt32.toInt ≤ 999 := fun e => u3 (Int32.le_iff_toInt_le.mpr e)
                have e6 : (1000 : Int64).toInt = 1000 := rfl
                omega
          · rw [decide_eq_false v2]
            exact ⟨nI t, c, d, rfl, rfl, h⟩
        · rw [decide_eq_false v1]
          exact ⟨nI t, c, d, rfl, rfl, h⟩
    · rw [if_pos (show nI ln - 3 < nI (i0 + 3 * t) from by
        have e := pk_sub_toInt (a := ln) (b := 3) (by omega) (by omega)
        rw [show (3 : Int32) = nI 3 from rfl, Int32.lt_iff_toInt_lt, e, nI_toInt (by omega)]
        omega), if_pos (show 0 ≤ lg_cmp (lN (i0 + 3 * t + 2)) (lN ln) from (lgc_ge _ _).mpr ((pk_lLE (by omega) (by omega)).mpr (by omega)))]
      exact ⟨nI t, c, d, rfl, rfl, h⟩
theorem so_eq1 : ∀ so, so < 5 → ((-2 - nI so = (-3 : Int32)) ↔ so = 1) := by decide +kernel
set_option maxHeartbeats 4000000 in
theorem s_falls {n : Nat} (hn : 5000 < n) : S_falls Rel n := by
  intro c d a1 a2 a3 h
  have hS := h.2.2.2.2.2.1
  obtain ⟨n, rfl⟩ : ∃ n', n = n' + 1 := ⟨n - 1, by omega⟩
  unfold fX11_falls fX12_falls fX12_falls_43 fX7_refusalOfRow fX11_fallsFrom
  rw [sh_eq, isW, isI]
  simp only [if_bI, some_eta]
  cases h1 : fX12_isShelf a1 with
  | false => exact ⟨_, _, _, rfl, rfl, h⟩
  | true =>
  obtain ⟨s, hs, rfl⟩ := sh_in h1
  by_cases h2 : 1 ≤ a3 ∧ a3 ≤ 10
  · rw [decide_eq_true h2]
    obtain ⟨N, N1, N2, rfl⟩ := in_1 (n := 10) rfl (by omega) h2
    simp only [cond_true, inB_t hs (by omega), gd_true, bnd_x, nIc (show s < 100000 by omega)]
    rcases (hS s hs).1 with ⟨q1, q2⟩ | ⟨q1, b, z1, z2, z3, z4⟩ | ⟨q1, so, ln, s1, s2, s3, s4, s5, s6, s7⟩
    · rw [q1, q2]
      exact ⟨0, c, d, rfl, rfl, h⟩
    · rw [q1, z4, if_neg (neg1_nI (by omega)), if_neg (show ¬ nI b = (-3 : Int32) from fun e => by
        have := congrArg Int32.toInt e
        rw [nI_toInt (by omega)] at this
        exact absurd this (by have e1 : (-3 : Int32).toInt = -3 := rfl; omega))]
      exact ⟨-12, c, d, rfl, rfl, h⟩
    · rw [q1, s3, s4, if_neg (row_neg so s1).2.1, if_neg (row_neg so s1).2.1]
      by_cases e1 : so = 1
      · subst e1
        rw [if_pos (show (-2 : Int32) - nI 1 = -3 from rfl)]
        show ∃ (r : Int32) (c' d' : St), (if 0 ≤ a2 then fX11_fallsFrom_6 (n + 1) (n + 1) c s (nI N) 0 a2 else some (0, c)) = some (r, c') ∧ fX12_falls_58 (n + 1) (n + 1) d (nI s) a2 (nI N) 0 = some (r, d') ∧ Rel c' d'
        by_cases e2 : 0 ≤ a2
        · rw [if_pos e2]
          obtain ⟨i0, hi0, rfl⟩ := nI_of (x := a2) (fun q => fa_nle q e2)
          by_cases e3 : i0 ≤ 1000
          · exact falls_loop (n + 1) hs e3 N2 N 0 (n + 1) c d (by omega) (by omega) h ⟨q1, s3, s5, s2, s6⟩
          · refine ⟨0, c, d, ?_, ?_, h⟩
            · rw [fX11_fallsFrom_6, if_neg (show ¬ nI N ≤ 0 from nI_nle (by omega) (by omega)), s5, if_pos (show nI ln - 3 < nI i0 from by
                have e := pk_sub_toInt (a := ln) (b := 3) (by omega) (by omega)
                rw [show (3 : Int32) = nI 3 from rfl, Int32.lt_iff_toInt_lt, e, nI_toInt (by omega)]
                omega)]
            · have eat : (nI i0).toInt64 + ((3 : Int32) * 0).toInt64 = lN i0 := by
                rw [nI_l hi0, show ((3 : Int32) * 0).toInt64 = lN 0 from rfl, lN_add, Nat.add_zero]
              rw [fX12_falls_58, if_neg (show ¬ nI N ≤ 0 from nI_nle (by omega) (by omega))]
              simp only [bnd_x, eat, inB_t hs (by omega), gd_true, nIc (show s < 100000 by omega), s6]
              rw [if_neg (show ¬ lg_cmp (lN i0) 0 < 0 from fun e => by
                have e2 := (pk_lLT (a := i0) (b := 0) (by omega) (by omega)).mp ((lgc_lt _ _).mp e)
                omega), show lN i0 + (2 : Int64) = lN (i0 + 2) from lN_add _ 2, nI_l (n := ln) (by omega), if_pos (show 0 ≤ lg_cmp (lN (i0 + 2)) (lN ln) from (lgc_ge _ _).mpr ((pk_lLE (by omega) (by omega)).mpr (by omega)))]
        · rw [if_neg e2]
          refine ⟨0, c, d, rfl, ?_, h⟩
          rw [fX12_falls_58, if_neg (show ¬ nI N ≤ 0 from nI_nle (by omega) (by omega))]
          simp only [bnd_x]
          rw [if_pos]
          refine (lgc_lt _ _).mpr (Int64.lt_iff_toInt_lt.mpr ?_)
          rw [show ((3 : Int32) * 0).toInt64 = 0 from rfl, Int64.add_zero, Int32.toInt_toInt64]
          have e3 : ¬ (0 : Int32).toInt ≤ a2.toInt := fun q => e2 (Int32.le_iff_toInt_le.mpr q)
          have e4 : (0 : Int32).toInt = 0 := rfl
          have e5 : (0 : Int64).toInt = 0 := rfl
          omega
      · rw [if_neg (fun e => e1 ((so_eq1 so s1).mp e))]
        have e1' : ¬ nI so = (1 : Int32) := fun e => e1 (by rw [show (1 : Int32) = nI 1 from rfl, nIeq (by omega) (by omega)] at e; exact e)
        rw [if_neg e1']
        exact ⟨-12, c, d, rfl, rfl, h⟩
  · rw [decide_eq_false h2]
    exact ⟨_, _, _, rfl, rfl, h⟩
