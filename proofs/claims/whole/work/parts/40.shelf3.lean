theorem shl_2 (n o j : Nat) (ho : o < 6) : ∀ (m t k : Nat) (st : St) (ln : Nat), t + m = ln → j + ln ≤ 60 → m < k → ∃ st' : St, fX12_shift_150 n k st (nI o) (nI j) (nI ln) (nI t) = some (nI ln, st') ∧ (∀ q, gI st' q = gI st q) ∧ (∀ y, gL st' 41 y = if 60 * o + j + t ≤ y ∧ y < 60 * o + j + ln then gL st 42 (y - (60 * o + j)) else gL st 41 y) := by
  intro m
  induction m with
  | zero =>
    intro t k st ln ht hj hk
    obtain ⟨k, rfl⟩ : ∃ k', k = k' + 1 := ⟨k - 1, by omega⟩
    rw [fX12_shift_150, if_pos (by rw [nIle (by omega) (by omega)]; omega)]
    exact ⟨st, rfl, fun _ => rfl, fun y => by rw [if_neg (by omega)]⟩
  | succ m ih =>
    intro t k st ln ht hj hk
    obtain ⟨k, rfl⟩ : ∃ k', k = k' + 1 := ⟨k - 1, by omega⟩
    rw [fX12_shift_150, if_neg (by rw [nIle (by omega) (by omega)]; omega), at60, nI_add]
    simp only [inB_t (show t < 60 by omega) (by omega), inB_t (show 60 * o + j + t < 360 by omega) (by omega), gd_true, bnd_x, nIc (show t < 100000 by omega), nIc (show 60 * o + j + t < 100000 by omega), nI_1]
    obtain ⟨st', e1, e2, e3⟩ := ih (t + 1) k (sL st 41 (60 * o + j + t) (gL st 42 t)) ln (by omega) hj (by omega)
    refine ⟨st', e1, fun q => e2 q, fun y => ?_⟩
    have g1 : gL (sL st 41 (60 * o + j + t) (gL st 42 t)) 42 = gL st 42 := by rw [gL_sLx, if_neg (by omega)]
    have g2 : gL (sL st 41 (60 * o + j + t) (gL st 42 t)) 41 y = if y = 60 * o + j + t then gL st 42 t else gL st 41 y := by rw [gL_sLx, if_pos rfl, updL_x]
    rw [e3 y, g1, g2]
    by_cases c1 : y = 60 * o + j + t
    · rw [if_neg (by omega), if_pos c1, if_pos (by omega), c1, show 60 * o + j + t - (60 * o + j) = t by omega]
    · rw [if_neg c1]
      by_cases c2 : 60 * o + j + (t + 1) ≤ y ∧ y < 60 * o + j + ln
      · rw [if_pos c2, if_pos (by omega)]
      · rw [if_neg c2, if_neg (by omega)]
theorem shl_1 (n s i o j : Nat) (hs : s < 6) (ho : o < 6) (hn : 100 < n) : ∀ (m t k : Nat) (st : St) (ln : Nat), t + m = ln → i + ln ≤ 60 → j + ln ≤ 60 → m < k → ∃ st' : St, fX12_shift_113 n k st (nI s) (nI i) (nI o) (nI j) (nI ln) (nI t) = some (nI ln, st') ∧ (∀ q, gI st' q = gI st q) ∧ (∀ y, gL st' 41 y = if 60 * o + j ≤ y ∧ y < 60 * o + j + ln then (if t ≤ y - (60 * o + j) then gL st 41 (60 * s + i + (y - (60 * o + j))) else gL st 42 (y - (60 * o + j))) else gL st 41 y) := by
  intro m
  induction m with
  | zero =>
    intro t k st ln ht hi hj hk
    obtain ⟨k, rfl⟩ : ∃ k', k = k' + 1 := ⟨k - 1, by omega⟩
    rw [fX12_shift_113, if_pos (by rw [nIle (by omega) (by omega)]; omega)]
    obtain ⟨st', e1, e2, e3⟩ := shl_2 n o j ho ln 0 n st ln (by omega) hj (by omega)
    refine ⟨st', e1, e2, fun y => ?_⟩
    rw [e3 y]
    by_cases c : 60 * o + j + 0 ≤ y ∧ y < 60 * o + j + ln
    · rw [if_pos c, if_pos (by omega), if_neg (by omega)]
    · rw [if_neg c, if_neg (by omega)]
  | succ m ih =>
    intro t k st ln ht hi hj hk
    obtain ⟨k, rfl⟩ : ∃ k', k = k' + 1 := ⟨k - 1, by omega⟩
    rw [fX12_shift_113, if_neg (by rw [nIle (by omega) (by omega)]; omega), at60, nI_add]
    simp only [inB_t (show t < 60 by omega) (by omega), inB_t (show 60 * s + i + t < 360 by omega) (by omega), gd_true, bnd_x, nIc (show t < 100000 by omega), nIc (show 60 * s + i + t < 100000 by omega), nI_1]
    obtain ⟨st', e1, e2, e3⟩ := ih (t + 1) k (sL st 42 t (gL st 41 (60 * s + i + t))) ln (by omega) hi hj (by omega)
    refine ⟨st', e1, fun q => e2 q, fun y => ?_⟩
    rw [e3 y]
    by_cases c1 : 60 * o + j ≤ y ∧ y < 60 * o + j + ln
    · rw [if_pos c1, if_pos c1]
      by_cases c2 : t + 1 ≤ y - (60 * o + j)
      · rw [if_pos c2, if_pos (by omega), gL_sLx, if_neg (by omega)]
      · rw [if_neg c2, gL_sLx, if_pos rfl, updL_x]
        by_cases c3 : y - (60 * o + j) = t
        · rw [if_pos c3, if_pos (by omega), c3]
        · rw [if_neg c3, if_neg (by omega)]
    · rw [if_neg c1, if_neg c1, gL_sLx, if_neg (by omega)]
theorem has_pl {c : St} {i ln : Nat} (h : gI c (53 + 2 * i) 3 = nI ln) (hl : ln ≤ 60) (a b : Int32) : fX7_hasPlaces c i a b = true ↔ ∃ x y : Nat, a = nI x ∧ b = nI y ∧ x + y ≤ ln := by
  unfold fX7_hasPlaces
  rw [h]
  constructor
  · intro q
    by_cases h1 : b < 0
    · rw [if_pos h1] at q; cases q
    rw [if_neg h1] at q
    by_cases h2 : nI ln < b
    · rw [if_pos h2] at q; cases q
    rw [if_neg h2] at q
    by_cases h3 : a < 0
    · rw [if_pos h3] at q; cases q
    rw [if_neg h3] at q
    by_cases h4 : nI ln - b < a
    · rw [if_pos h4] at q; cases q
    obtain ⟨y, hy, rfl⟩ := nI_of2 (M := nI ln) (nI_toInt (by omega)) h1 (fa_nlt h2)
    rw [pk_sub hy] at h4
    obtain ⟨x, hx, rfl⟩ := nI_of2 (M := nI (ln - y)) (nI_toInt (by omega)) h3 (fa_nlt h4)
    exact ⟨x, y, rfl, rfl, by omega⟩
  · rintro ⟨x, y, rfl, rfl, hxy⟩
    rw [if_neg (nI_pos (by omega)), if_neg (nI_nlt (by omega) (by omega)), if_neg (nI_pos (by omega)), pk_sub (by omega), if_neg (nI_nlt (by omega) (by omega))]
/-- the reference asks the same -/
theorem ref_pl {ln ln2 : Nat} (h1 : ln ≤ 60) (h2 : ln2 ≤ 60) (i j m : Int32) : (¬ m < 0 ∧ ¬ i < 0 ∧ ¬ j < 0 ∧ ¬ nI ln - m < i ∧ j ≤ nI ln2 - m) ↔ ∃ x y z : Nat, i = nI x ∧ j = nI y ∧ m = nI z ∧ x + z ≤ ln ∧ y + z ≤ ln2 := by
  constructor
  · rintro ⟨a1, a2, a3, a4, a5⟩
    have b1 : ¬ m.toInt < 0 := fun q => a1 (Int32.lt_iff_toInt_lt.mpr q)
    have b2 : ¬ i.toInt < 0 := fun q => a2 (Int32.lt_iff_toInt_lt.mpr q)
    have hm := Int32.toInt_lt m
    have b4 := Int32.le_iff_toInt_le.mp (fa_nlt a4)
    have e4 : (nI ln - m).toInt = ln - m.toInt := by
      rw [Int32.toInt_sub, nI_toInt (by omega), Int.bmod_eq_of_le (by omega) (by omega)]
    rw [e4] at b4
    obtain ⟨z, hz, rfl⟩ := nI_of2 (M := nI ln) (nI_toInt (by omega)) a1 (Int32.le_iff_toInt_le.mpr (by rw [nI_toInt (by omega)]; omega))
    rw [pk_sub hz] at a4
    obtain ⟨x, hx, rfl⟩ := nI_of2 (M := nI (ln - z)) (nI_toInt (by omega)) a2 (fa_nlt a4)
    by_cases hz2 : z ≤ ln2
    · rw [pk_sub hz2] at a5
      obtain ⟨y, hy, rfl⟩ := nI_of2 (M := nI (ln2 - z)) (nI_toInt (by omega)) a3 a5
      exact ⟨x, y, z, rfl, rfl, rfl, by omega, by omega⟩
    · have b5 := pk_sneg (a := ln2) (b := z) (by omega) (by omega)
      exact absurd (Int32.lt_iff_toInt_lt.mpr (by
        have q1 := Int32.lt_iff_toInt_lt.mp b5
        have q2 := Int32.le_iff_toInt_le.mp a5
        omega)) a3
  · rintro ⟨x, y, z, rfl, rfl, rfl, h3, h4⟩
    refine ⟨nI_pos (by omega), nI_pos (by omega), nI_pos (by omega), ?_, ?_⟩
    · rw [pk_sub (by omega), nIlt (by omega) (by omega)]; omega
    · rw [pk_sub (by omega), nIle (by omega) (by omega)]; omega
/-- five questions, one answer -/
theorem ask5 {α : Type} {p1 p2 p3 p4 p5 : Prop} [Decidable p1] [Decidable p2] [Decidable p3] [Decidable p4] [Decidable p5] {x y : α} : (if p1 then x else if p2 then x else if p3 then x else if p4 then x else if p5 then y else x) = if (¬ p1 ∧ ¬ p2 ∧ ¬ p3 ∧ ¬ p4 ∧ p5) then y else x := by
  by_cases h1 : p1 <;> by_cases h2 : p2 <;> by_cases h3 : p3 <;> by_cases h4 : p4 <;> by_cases h5 : p5 <;> simp [h1, h2, h3, h4, h5]
theorem neg1_nI {b : Nat} (h : b < 100000) : ¬ nI b = (-1 : Int32) := fun e => by
  have := congrArg Int32.toInt e
  rw [nI_toInt (by omega)] at this
  exact absurd this (by have e1 : (-1 : Int32).toInt = -1 := rfl; omega)
theorem neg_nI {so b : Nat} (h : so < 5) (hb : b < 100000) : ¬ (-2 - nI so = nI b) := fun e => by
  have := (row_neg so h).1
  rw [e] at this
  exact nI_pos (by omega) this
theorem neg_so : ∀ so, so < 5 → ∀ so2, so2 < 5 → (-2 - nI so = -2 - nI so2 → so = so2) := by decide +kernel
theorem cp_t {x y z : Nat} (h1 : x + z ≤ 60) (h2 : y + z ≤ 60) : cpB (nI x) (nI y) (nI z) 60 60 = true := by
  unfold cpB
  rw [nIc (by omega), nIc (by omega), nIc (by omega)]
  exact decide_eq_true ⟨nI_pos (by omega), nI_pos (by omega), nI_pos (by omega), h1, h2⟩
set_option maxHeartbeats 4000000 in
theorem s_shift {n : Nat} (hn : 100 < n) : S_shift Rel n := by
  intro c d a1 a2 a3 a4 a5 h
  have hS := h.2.2.2.2.2.1
  unfold fX11_shift fX12_shift
  rw [sh_eq, sh_eq]
  simp only [if_bI]
  cases h1 : fX12_isShelf a1 with
  | false => exact ⟨_, _, _, rfl, rfl, h⟩
  | true =>
  cases h2 : fX12_isShelf a3 with
  | false => exact ⟨_, _, _, rfl, rfl, h⟩
  | true =>
  obtain ⟨s, hs, rfl⟩ := sh_in h1
  obtain ⟨o, ho, rfl⟩ := sh_in h2
  simp only [cond_true, inB_t hs (by omega), inB_t ho (by omega), gd_true, nIc (show s < 100000 by omega), nIc (show o < 100000 by omega), bnd_x]
  rcases (hS s hs).1 with ⟨q1, q2⟩ | ⟨q1, b, z1, z2, z3, z4⟩ | ⟨q1, so, ln, s1, s2, s3, s4, s5, s6, s7⟩
  · rw [q1, q2, if_pos rfl, if_pos rfl]
    exact ⟨_, _, _, rfl, rfl, h⟩
  · rw [q1, z4, if_neg (show ¬ (1 : Int32) = 0 by decide), if_neg (neg1_nI (by omega))]
    rcases (hS o ho).1 with ⟨p1, p2⟩ | ⟨p1, b', y1, y2, y3, y4⟩ | ⟨p1, so', ln', t1, t2, t3, t4, t5, t6, t7⟩
    · rw [p1, p2, if_pos rfl, if_pos rfl]
      exact ⟨_, _, _, rfl, rfl, h⟩
    · rw [p1, y4, if_neg (show ¬ (1 : Int32) = 0 by decide), if_neg (neg1_nI (by omega)), if_neg (show ¬ (1 : Int32) = 2 by decide), if_pos (nI_pos' (by omega))]
      exact ⟨_, _, _, rfl, rfl, h⟩
    · rw [p1, t4, if_neg (show ¬ (2 : Int32) = 0 by decide), if_neg (row_neg so' t1).2.1, if_neg (show ¬ (1 : Int32) = 2 by decide), if_pos (nI_pos' (by omega))]
      exact ⟨_, _, _, rfl, rfl, h⟩
  · rw [q1, s4, if_neg (show ¬ (2 : Int32) = 0 by decide), if_neg (row_neg so s1).2.1]
    rcases (hS o ho).1 with ⟨p1, p2⟩ | ⟨p1, b', y1, y2, y3, y4⟩ | ⟨p1, so', ln', t1, t2, t3, t4, t5, t6, t7⟩
    · rw [p1, p2, if_pos rfl, if_pos rfl]
      exact ⟨_, _, _, rfl, rfl, h⟩
    · rw [p1, y4, if_neg (show ¬ (1 : Int32) = 0 by decide), if_neg (neg1_nI (by omega)), if_pos rfl, if_neg (show ¬ (1 : Int32) = 2 by decide), if_neg (fun e => (fa_nle (row_neg so s1).1) e), if_neg (neg_nI s1 (by omega))]
      exact ⟨_, _, _, rfl, rfl, h⟩
    · rw [p1, t4, if_neg (show ¬ (2 : Int32) = 0 by decide), if_neg (row_neg so' t1).2.1, if_pos rfl, if_pos rfl, if_neg (fun e => (fa_nle (row_neg so s1).1) e), s3, t3, ask5]
      by_cases es : so = so'
      · subst es
        rw [if_pos rfl, if_pos rfl, s6, t6]
        by_cases r1 : fX7_hasPlaces c s a2 a5 = true
        · obtain ⟨x, z, rfl, rfl, hxz⟩ := (has_pl s5 s2 a2 a5).mp r1
          rw [r1]
          by_cases r2 : fX7_hasPlaces c o a4 (nI z) = true
          · obtain ⟨y, z', rfl, e, hyz⟩ := (has_pl t5 t2 a4 (nI z)).mp r2
            have e' : z = z' := by
              have hz' : z' ≤ 60 := by omega
              rw [nIeq (by omega) (by omega)] at e
              exact e
            subst e'
            rw [r2, if_pos ((ref_pl s2 t2 _ _ _).mpr ⟨x, y, z, rfl, rfl, rfl, hxz, hyz⟩), cp_t (by omega) (by omega)]
            simp only [cond_true, gd_true, nIc (show x < 100000 by omega), nIc (show y < 100000 by omega), nIc (show z < 100000 by omega)]
            obtain ⟨d', e1, e2, e3⟩ := shl_1 n s x o y hs ho hn z 0 n d z (by omega) (by omega) (by omega) (by omega)
            rw [show (0 : Int32) = nI 0 from rfl, e1]
            refine ⟨_, _, _, rfl, rfl, ?_⟩
            have hc : ∀ j, j < 60 → gL (sLs c (54 + 2 * o) (va_cpy (gL c (54 + 2 * s)) (gL c (54 + 2 * o)) x y z)) (54 + 2 * o) j = if y ≤ j ∧ j < y + z then gL c (54 + 2 * s) (x + (j - y)) else gL c (54 + 2 * o) j := fun j hj => by
              rw [gL_sLsx, if_pos rfl]
              by_cases q : y ≤ j ∧ j < y + z
              · rw [if_pos q, pk_cpy_in q.1 q.2]
              · rw [if_neg q, pk_cpy_out (by omega)]
            refine Rel_sh h (fun _ _ _ => rfl) (fun q x' _ _ => by rw [e2]) (RS_one hS o (i32_rf _) (fun i' h1 h2 => ⟨fun _ _ => rfl, by rw [e2], by rw [e2], fun j' hj' => ?_, fun j' hj' => ?_⟩) ?_ (fun j' hj' => ?_))
            · rw [gL_sLsx, if_neg (by omega)]
            · rw [e3, if_neg (by omega)]
            · have k0 : ∀ j, gI (sLs c (54 + 2 * o) (va_cpy (gL c (54 + 2 * s)) (gL c (54 + 2 * o)) x y z)) (53 + 2 * o) j = gI c (53 + 2 * o) j := fun j => rfl
              unfold RSi
              rw [k0, k0, k0, k0, e2, e2]
              refine Or.inr (Or.inr ⟨p1, so, ln', t1, t2, t3, t4, t5, t6, fun e j' hj' => ?_, fun e j' hj' => ?_⟩)
              · rw [hc j' hj']
                by_cases q : y ≤ j' ∧ j' < y + z
                · rw [if_pos q]
                  exact s7.1 e _ (by omega)
                · rw [if_neg q]
                  exact t7.1 e _ (by omega)
              · rw [hc j' hj']
                by_cases q : y ≤ j' ∧ j' < y + z
                · rw [if_pos q]
                  exact s7.2 e _ (by omega)
                · rw [if_neg q]
                  exact t7.2 e _ (by omega)
            · rw [hc j' hj', e3]
              by_cases q : y ≤ j' ∧ j' < y + z
              · rw [if_pos q, if_pos (by omega), if_pos (by omega), ← (hS s hs).2 (x + (j' - y)) (by omega)]
                congr 1
                omega
              · rw [if_neg q, if_neg (by omega)]
                exact (hS o ho).2 j' hj'
          · rw [eq_false_of_ne_true r2, if_neg (fun e => by
              obtain ⟨x', y', z', f1, f2, f3, f4, f5⟩ := (ref_pl s2 t2 _ _ _).mp e
              exact r2 ((has_pl t5 t2 _ _).mpr ⟨y', z', f2, f3, f5⟩))]
            exact ⟨_, _, _, rfl, rfl, h⟩
        · rw [eq_false_of_ne_true r1, if_neg (fun e => by
              obtain ⟨x', y', z', f1, f2, f3, f4, f5⟩ := (ref_pl s2 t2 _ _ _).mp e
              exact r1 ((has_pl s5 s2 _ _).mpr ⟨x', z', f1, f3, f4⟩))]
          exact ⟨_, _, _, rfl, rfl, h⟩
      · rw [if_neg (fun e => es (by rw [nIeq (by omega) (by omega)] at e; exact e)), if_neg (fun e => es (neg_so so s1 so' t1 e))]
        exact ⟨_, _, _, rfl, rfl, h⟩
