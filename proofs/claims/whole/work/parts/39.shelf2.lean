theorem at60 (i j : Nat) : (60 : Int32) * nI i + nI j = nI (60 * i + j) := by
  rw [show (60 : Int32) = nI 60 from rfl, pk_mul, nI_add]
theorem row_neg : ∀ so, so < 5 → (-2 - nI so < 0 ∧ ¬ (-2 - nI so = -1) ∧ -2 - (-2 - nI so) = nI so) := by decide +kernel
theorem place_rel {c d : St} (h : Rel c d) {i : Nat} (hi : i < 6) (a : Int32) : ∃ r : Int32, fX11_refusalOfElement c (nI i) a = some r ∧ fX12_whyNoPlace d (nI i) a = some r ∧
    ((r = 0 ∧ ∃ so n j : Nat, so < 5 ∧ n ≤ 60 ∧ j < n ∧ a = nI j ∧ gI c (53 + 2 * i) 0 = 2 ∧ gI c (53 + 2 * i) 2 = nI so ∧ gI d 39 i = -2 - nI so) ∨ (¬ r = 0 ∧ ¬ 0 ≤ r)) := by
  have hS := (h.2.2.2.2.2.1 i hi).1
  unfold fX11_refusalOfElement fX12_whyNoPlace fX7_refusalOfPlace
  rw [sh_eq]
  have hsh : fX12_isShelf (nI i) = true := by
    unfold fX12_isShelf
    rw [isI]
    exact decide_eq_true ((in_nat (n := 5) rfl (by omega)).mpr ⟨i, by omega, rfl⟩)
  rw [hsh]
  simp only [if_bI, cond_true, inB_t hi (by omega), gd_true, nIc (show i < 100000 by omega), isW, isI]
  rcases hS with ⟨h1, h2⟩ | ⟨h1, b, b1, b2, b3, b4⟩ | ⟨h1, so, ln, s1, s2, s3, s4, s5, s6, s7⟩
  · rw [h1, h2, if_pos rfl, if_pos rfl]
    exact ⟨_, rfl, rfl, Or.inr (by decide)⟩
  · rw [h1, b4, if_neg (by decide), if_neg (by decide), if_neg (fun e => by
      have := congrArg Int32.toInt e
      rw [nI_toInt (by omega)] at this
      exact absurd this (by have e1 : (-1 : Int32).toInt = -1 := rfl; omega)), if_neg (nI_pos (by omega))]
    exact ⟨_, rfl, rfl, Or.inr (by decide)⟩
  · obtain ⟨n1, n2, n3⟩ := row_neg so s1
    rw [h1, s4, s5, s6, if_neg (by decide), if_pos rfl, if_neg n2, if_pos n1]
    by_cases q : 0 ≤ a ∧ a ≤ nI ln - 1
    · rw [decide_eq_true q]
      obtain ⟨j, hj, e⟩ := (cnt_in a (by omega)).mp q
      exact ⟨_, rfl, rfl, Or.inl ⟨rfl, so, ln, j, s1, s2, hj, e, rfl, s3, rfl⟩⟩
    · rw [decide_eq_false q]
      exact ⟨_, rfl, rfl, Or.inr (by decide)⟩
theorem noSh {c d : St} {a b : Int32} (h : fX12_isShelf a = false) : fX11_refusalOfElement c a b = some (-1) ∧ fX12_whyNoPlace d a b = some (-1) := by
  unfold fX11_refusalOfElement fX12_whyNoPlace
  rw [sh_eq, h]
  exact ⟨rfl, rfl⟩
theorem s_element (n : Nat) : S_element Rel n := by
  intro c d a1 a2 h
  unfold fX11_element fX12_element
  cases h1 : fX12_isShelf a1 with
  | false =>
    obtain ⟨e1, e2⟩ := noSh (c := c) (d := d) (b := a2) h1
    rw [e1, e2]
    exact ⟨_, _, _, ⟨rfl, rfl⟩, ⟨rfl, rfl⟩, h⟩
  | true =>
    obtain ⟨i, hi, rfl⟩ := sh_in h1
    obtain ⟨r, e1, e2, e3⟩ := place_rel h hi a2
    rw [e1, e2, Option.bind_some, Option.bind_some]
    rcases e3 with ⟨rfl, so, ln, j, s1, s2, s3, rfl, s4, s5, s6⟩ | ⟨q1, q2⟩
    · rw [if_pos rfl, if_pos (by decide), at60 i j]
      simp only [inB_t hi (by omega), inB_t (show j < 60 by omega) (by omega), inB_t (show 60 * i + j < 360 by omega) (by omega), gd_true, nIc (show i < 100000 by omega), nIc (show j < 100000 by omega), nIc (show 60 * i + j < 100000 by omega)]
      exact ⟨_, _, _, ⟨rfl, rfl⟩, ⟨by rw [(h.2.2.2.2.2.1 i hi).2 j (by omega)], rfl⟩, h⟩
    · rw [if_neg q1, if_neg q2]
      exact ⟨_, _, _, ⟨rfl, rfl⟩, ⟨rfl, rfl⟩, h⟩
theorem b_rng (x : Int32) : -128 ≤ x.toInt8.toInt32.toInt64 ∧ x.toInt8.toInt32.toInt64 ≤ 127 := by
  have e : x.toInt8.toInt32.toInt64.toInt = x.toInt8.toInt := by simp
  have h1 := Int8.toInt_lt x.toInt8
  have h2 := Int8.le_toInt x.toInt8
  constructor
  · refine Int64.le_iff_toInt_le.mpr ?_
    rw [e]
    exact h2
  · refine Int64.le_iff_toInt_le.mpr ?_
    rw [e]
    show x.toInt8.toInt ≤ 127
    omega
theorem s_rng (x : Int32) : -32768 ≤ x.toInt16.toInt32.toInt64 ∧ x.toInt16.toInt32.toInt64 ≤ 32767 := by
  have e : x.toInt16.toInt32.toInt64.toInt = x.toInt16.toInt := by simp
  have h1 := Int16.toInt_lt x.toInt16
  have h2 := Int16.le_toInt x.toInt16
  constructor
  · refine Int64.le_iff_toInt_le.mpr ?_
    rw [e]
    exact h2
  · refine Int64.le_iff_toInt_le.mpr ?_
    rw [e]
    show x.toInt16.toInt ≤ 32767
    omega
/-- what is put into a row of a sort -/
def low (so : Nat) (v : Int64) : Int64 := if so = 0 then v.toInt32.toInt8.toInt32.toInt64 else if so = 1 then v.toInt32.toInt16.toInt32.toInt64 else if so = 2 then v.toInt32.toInt64 else if so = 3 then v else if lg_cmp v 0 = 0 then 0 else 1
theorem low_c {c : St} {i so : Nat} (hs : so < 5) (h : gI c (53 + 2 * i) 2 = nI so) (v : Int64) : fX7_lowestBits c i v = low so v := by
  unfold fX7_lowestBits
  rw [bnd_x, h]
  rcases (show so = 0 ∨ so = 1 ∨ so = 2 ∨ so = 3 ∨ so = 4 by omega) with rfl | rfl | rfl | rfl | rfl <;> rfl
/-- one element told anew -/
theorem put_rel {c d : St} (h : Rel c d) {i j so : Nat} {v : Int64} (hi : i < 6) (hj : j < 60) (h2 : gI c (53 + 2 * i) 0 = 2) (hso : gI c (53 + 2 * i) 2 = nI so) (hs5 : so < 5) : Rel (sL c (54 + 2 * i) j (low so v)) (sL d 41 (60 * i + j) (low so v)) := by
  have hS := h.2.2.2.2.2.1
  refine Rel_sh h (fun _ _ _ => rfl) (fun _ _ _ _ => rfl) (RS_one hS i (i32_rf _) (fun i' h1 h2 => ⟨fun _ _ => rfl, rfl, rfl, fun j' hj' => ?_, fun j' hj' => ?_⟩) ?_ (fun j' hj' => ?_))
  · rw [gL_sLx, if_neg (by omega)]
  · rw [gL_sLx, if_pos rfl, updL_x, if_neg (by omega)]
  · rcases (hS i hi).1 with ⟨q, -⟩ | ⟨q, -⟩ | ⟨q, so', ln, s1, s2, s3, s4, s5, s6, s7, s8⟩
    · rw [h2] at q; exact absurd q (by decide)
    · rw [h2] at q; exact absurd q (by decide)
    · have es : so' = so := by
        have e := s3.symm.trans hso
        rw [nIeq (by omega) (by omega)] at e
        exact e
      subst es
      refine Or.inr (Or.inr ⟨q, so', ln, s1, s2, s3, s4, s5, s6, fun e j' hj' => ?_, fun e j' hj' => ?_⟩)
      · rw [gL_sLx, if_pos rfl, updL_x]
        by_cases ej : j' = j
        · rw [if_pos ej, e]
          exact b_rng _
        · rw [if_neg ej]
          exact s7 e j' hj'
      · rw [gL_sLx, if_pos rfl, updL_x]
        by_cases ej : j' = j
        · rw [if_pos ej, e]
          exact s_rng _
        · rw [if_neg ej]
          exact s8 e j' hj'
  · rw [gL_sLx, if_pos rfl, updL_x, gL_sLx, if_pos rfl, updL_x]
    by_cases ej : j' = j
    · rw [if_pos (by omega), if_pos ej]
    · rw [if_neg (by omega), if_neg ej]
      exact (hS i hi).2 j' hj'
set_option maxHeartbeats 4000000 in
theorem s_put (n : Nat) : S_put Rel n := by
  intro c d a1 a2 a3 h
  unfold fX11_put fX12_put
  cases h1 : fX12_isShelf a1 with
  | false =>
    obtain ⟨e1, e2⟩ := noSh (c := c) (d := d) (b := a2) h1
    rw [e1, e2]
    exact ⟨_, _, _, rfl, rfl, h⟩
  | true =>
    obtain ⟨i, hi, rfl⟩ := sh_in h1
    obtain ⟨r, e1, e2, e3⟩ := place_rel h hi a2
    rw [e1, e2, Option.bind_some, Option.bind_some]
    rcases e3 with ⟨rfl, so, ln, j, s1, s2, s3, rfl, s4, s5, s6⟩ | ⟨q1, q2⟩
    · obtain ⟨n1, n2, n3⟩ := row_neg so s1
      rw [if_pos rfl, if_pos (by decide), at60 i j]
      simp only [inB_t hi (by omega), inB_t (show j < 60 by omega) (by omega), inB_t (show 60 * i + j < 360 by omega) (by omega), gd_true, nIc (show i < 100000 by omega), nIc (show j < 100000 by omega), nIc (show 60 * i + j < 100000 by omega), bnd_x, s6, n3, low_c s1 s5]
      refine ⟨_, _, _, rfl, ?_, put_rel (v := a3) h hi (show j < 60 by omega) s4 s5 s1⟩
      rcases (show so = 0 ∨ so = 1 ∨ so = 2 ∨ so = 3 ∨ so = 4 by omega) with rfl | rfl | rfl | rfl | rfl
      · rfl
      · rfl
      · rfl
      · rfl
      · show (if lg_cmp a3 0 = 0 then some ((1 : Int32), sL d 41 (60 * i + j) 0) else some ((1 : Int32), sL d 41 (60 * i + j) 1)) = some ((1 : Int32), sL d 41 (60 * i + j) (if lg_cmp a3 0 = 0 then 0 else 1))
        by_cases q : lg_cmp a3 0 = 0
        · rw [if_pos q, if_pos q]
        · rw [if_neg q, if_neg q]
    · rw [if_neg q1, if_neg q2]
      exact ⟨_, _, _, rfl, rfl, h⟩
set_option maxHeartbeats 4000000 in
theorem under_x (m : Nat) (st : St) {k k2 : Nat} (hk : k < 8) (hk2 : k2 < 8) : fX0_isUnder (m + 9) st (nI k) (nI k2) = some (fX12_isUnder (nI k) (nI k2)) := by
  rcases (show k = 0 ∨ k = 1 ∨ k = 2 ∨ k = 3 ∨ k = 4 ∨ k = 5 ∨ k = 6 ∨ k = 7 by omega) with rfl | rfl | rfl | rfl | rfl | rfl | rfl | rfl <;>
  rcases (show k2 = 0 ∨ k2 = 1 ∨ k2 = 2 ∨ k2 = 3 ∨ k2 = 4 ∨ k2 = 5 ∨ k2 = 6 ∨ k2 = 7 by omega) with rfl | rfl | rfl | rfl | rfl | rfl | rfl | rfl <;> rfl
theorem s_taken {n : Nat} (hn : 100 < n) : S_taken Rel n := by
  intro c d a1 a2 h
  obtain ⟨⟨nb, b1, b2, b3, b4⟩, hr⟩ := h.2.2.2.2.1
  obtain ⟨m, rfl⟩ : ∃ m, n = m + 9 := ⟨n - 9, by omega⟩
  unfold fX11_taken fX12_taken fX11_isKind fX11_isBody
  rw [sh_eq, isW, isI]
  simp only [if_bI]
  cases h1 : fX12_isShelf a1 with
  | false => exact ⟨_, _, _, ⟨rfl, rfl⟩, ⟨rfl, rfl⟩, h⟩
  | true =>
  by_cases h2 : 0 ≤ a2 ∧ a2 ≤ 7
  · rw [decide_eq_true h2]
    obtain ⟨i, hi, rfl⟩ := sh_in h1
    obtain ⟨k2, hk2, rfl⟩ := (in_nat (n := 7) rfl (by omega)).mp h2
    simp only [cond_true, inB_t hi (by omega), gd_true, nIc (show i < 100000 by omega)]
    rcases (h.2.2.2.2.2.1 i hi).1 with ⟨q1, q2⟩ | ⟨q1, b, z1, z2, z3, z4⟩ | ⟨q1, so, ln, s1, s2, s3, s4, s5⟩
    · rw [q1, q2, if_pos rfl, if_pos rfl]
      exact ⟨_, _, _, ⟨rfl, rfl⟩, ⟨rfl, rfl⟩, h⟩
    · rw [b2, nIlt (by omega) (by omega)] at z2
      obtain ⟨k, k1, k3, k4⟩ := b4 b z2
      rw [q1, z3, z4, if_neg (by decide), if_pos rfl, b2, isW, decide_eq_true ((cnt_in (nI b) (by omega)).mpr ⟨b, z2, rfl⟩), if_neg (fun e => by
        have := congrArg Int32.toInt e
        rw [nI_toInt (by omega)] at this
        exact absurd this (by have e1 : (-1 : Int32).toInt = -1 := rfl; omega)), if_neg (nI_pos (by omega))]
      simp only [cond_true, inB_t (show b < 50 by omega) (by omega), gd_true, nIc (show b < 100000 by omega), bnd_x, k3, k4, under_x m c k1 (show k2 < 8 by omega), Option.bind_some]
      cases hu : fX12_isUnder (nI k) (nI k2) with
      | true => exact ⟨_, _, _, ⟨rfl, rfl⟩, ⟨rfl, rfl⟩, h⟩
      | false => exact ⟨_, _, _, ⟨rfl, rfl⟩, ⟨rfl, rfl⟩, h⟩
    · obtain ⟨n1, n2, n3⟩ := row_neg so s1
      rw [q1, s4, if_neg (by decide), if_neg (by decide), if_neg n2, if_pos n1]
      exact ⟨_, _, _, ⟨rfl, rfl⟩, ⟨rfl, rfl⟩, h⟩
  · rw [decide_eq_false h2]
    exact ⟨_, _, _, ⟨rfl, rfl⟩, ⟨rfl, rfl⟩, h⟩
