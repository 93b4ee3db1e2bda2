/-! which fields to give away -/
theorem sub_and {B O : Nat} (hB : B < 2 ^ 31) (h : ∀ i, B.testBit i = true → O.testBit i = true) : nI B &&& (nI O ^^^ (-1)) = 0 := by
  rw [show (-1 : Int32) = nI (2 ^ 32 - 1) by decide, xor_nI, and_nI]
  have e : B &&& (O ^^^ (2 ^ 32 - 1)) = 0 := by
    apply Nat.eq_of_testBit_eq
    intro i
    rw [Nat.testBit_and, Nat.testBit_xor, Nat.testBit_two_pow_sub_one, Nat.zero_testBit]
    by_cases z : B.testBit i = true
    · have hi : i < 32 := by
        apply Classical.byContradiction
        intro q
        rw [Nat.testBit_lt_two_pow (Nat.lt_of_lt_of_le hB (Nat.pow_le_pow_right (by omega) (show 31 ≤ i by omega)))] at z
        cases z
      rw [z, h i z, decide_eq_true hi]
      rfl
    · rw [Bool.eq_false_iff.mpr z, Bool.false_and]
  rw [e]
  rfl
theorem sub_le {B s : Nat} (h : ∀ i, B.testBit i = true → s.testBit i = true) : B ≤ s := by
  have e : B &&& s = B := by
    apply Nat.eq_of_testBit_eq
    intro i
    rw [Nat.testBit_and]
    by_cases z : B.testBit i = true
    · rw [z, h i z]; rfl
    · rw [Bool.eq_false_iff.mpr z, Bool.false_and]
  rw [← e]
  exact Nat.and_le_right
theorem pop_mono {B s : Nat} (h : ∀ i, B.testBit i = true → s.testBit i = true) : ∀ n, pop B n ≤ pop s n := by
  intro n
  induction n with
  | zero => exact Nat.le_refl 0
  | succ n ih =>
    rw [pop, pop]
    by_cases z : B.testBit n = true
    · rw [z, h n z]; simp only [reduceIte]; omega
    · rw [Bool.eq_false_iff.mpr z]
      simp only [Bool.false_eq_true, reduceIte]
      split <;> omega
def brd (P : LwP) (V : Nat → Nat → Int32) (nf nc p : Nat) : Nat → Nat
  | 0 => 0
  | f + 1 => if owF V nf f = nI p ∧ 0 < sumN P V nc (owF V nf f) (V 8 f) (V 9 f) then brd P V nf nc p f ||| 2 ^ ((fuV V nf f).getD 0) else brd P V nf nc p f
theorem brd_at {P : LwP} {V : Nat → Nat → Int32} {nf nc p : Nat} (hp : p < 6) : ∀ j i, (brd P V nf nc p j).testBit i = true ↔ ∃ f, f < j ∧ owF V nf f = nI p ∧ 0 < sumN P V nc (owF V nf f) (V 8 f) (V 9 f) ∧ fuV V nf f = some i := by
  intro j
  induction j with
  | zero =>
    intro i
    rw [brd, Nat.zero_testBit]
    exact ⟨fun h => absurd h (by decide), fun ⟨f, hf, _⟩ => absurd hf (by omega)⟩
  | succ j ih =>
    intro i
    rw [brd]
    by_cases z : owF V nf j = nI p ∧ 0 < sumN P V nc (owF V nf j) (V 8 j) (V 9 j)
    · rw [if_pos z, Nat.testBit_or, Nat.testBit_two_pow, Bool.or_eq_true, ih i, decide_eq_true_eq]
      have hg : ∃ g, fuV V nf j = some g := by
        have := z.1
        rw [owF_o] at this
        cases hf : fuV V nf j with
        | none => rw [hf] at this; exact absurd this.symm (neg1_nI (by omega))
        | some g => exact ⟨g, rfl⟩
      obtain ⟨g, hg⟩ := hg
      constructor
      · rintro (⟨f, h1, h2⟩ | h)
        · exact ⟨f, by omega, h2⟩
        · refine ⟨j, by omega, z.1, z.2, ?_⟩
          rw [hg] at h ⊢
          rw [← h]; rfl
      · rintro ⟨f, h1, h2, h3, h4⟩
        by_cases e : f = j
        · right
          rw [← e, h4]; rfl
        · exact Or.inl ⟨f, by omega, h2, h3, h4⟩
    · rw [if_neg z, ih i]
      constructor
      · rintro ⟨f, h1, h2⟩
        exact ⟨f, by omega, h2⟩
      · rintro ⟨f, h1, h2, h3, h4⟩
        by_cases e : f = j
        · rw [e] at h2 h3; exact absurd ⟨h2, h3⟩ z
        · exact ⟨f, by omega, h2, h3, h4⟩
theorem brd_lt {P : LwP} {V : Nat → Nat → Int32} {nf nc p : Nat} (hp : p < 6) (j : Nat) : brd P V nf nc p j < 2 ^ nf := by
  apply Nat.lt_pow_two_of_testBit
  intro i hi
  apply Bool.eq_false_iff.mpr
  intro q
  obtain ⟨f, -, -, -, h⟩ := (brd_at hp j i).mp q
  have := fuV_lt h
  omega
theorem cw_le (V : Nat → Nat → Int32) (B p : Nat) : ∀ n, cw V B p n ≤ n := by
  intro n
  induction n with
  | zero => exact Nat.le_refl 0
  | succ n ih => rw [cw]; split <;> omega
theorem sum_le (P : LwP) (V : Nat → Nat → Int32) {nc : Nat} (hnc : nc ≤ 12) (o m wh : Int32) : sumN P V nc o m wh ≤ 144 := by
  unfold sumN
  split
  · omega
  · have h1 : 12 / mn (gA P V o m wh) nc ≤ 12 := Nat.div_le_self _ _
    have h2 := cw_le V (bt (gA P V o m wh) nc) o.toNatClampNeg nc
    exact Nat.le_trans (Nat.mul_le_mul h1 (Nat.le_trans h2 hnc)) (by omega)
theorem c_burden_l {n : Nat} (hn : 5000 < n) {nf nl nc : Nat} {V : Nat → Nat → Int32} {P : LwP} (hb : VB nf nl nc V) {p : Nat} (hp : p < 6) : ∀ (r i k : Nat) (c : St), i + r = nl → r < k → VC c nf nl nc V P → ∃ c', fX9_fieldsThatBurden_4 n k c (nI p) (nI (brd P V nf nc p i)) (nI i) = some (nI (brd P V nf nc p nl), c') ∧ Qc c c' := by
  have h8 := hb.1
  have h10 := hb.2.1
  have h12 := hb.2.2.1
  intro r
  induction r with
  | zero =>
    intro i k c hi hk hv
    obtain ⟨k, rfl⟩ : ∃ k', k = k' + 1 := ⟨k - 1, by omega⟩
    rw [fX9_fieldsThatBurden_4, hv.2.1, if_pos (nI_le (by omega) (by omega)), show i = nl by omega]
    exact ⟨c, rfl, Qc_rf c⟩
  | succ r ih =>
    intro i k c hi hk hv
    obtain ⟨k, rfl⟩ : ∃ k', k = k' + 1 := ⟨k - 1, by omega⟩
    obtain ⟨x, y, m, hx, hy, hm, v6, v7, v8⟩ := fall_nat hb (show i < nl by omega)
    have efu : fldV V x y nf 0 = fuV V nf i := by unfold fuV; rw [v6, v7, nIc (by omega), nIc (by omega)]
    have next : ∀ c1, Qc c c1 → ∃ c', fX9_fieldsThatBurden_4 n k c1 (nI p) (nI (brd P V nf nc p (i + 1))) (nI (i + 1)) = some (nI (brd P V nf nc p nl), c') ∧ Qc c c' := fun c1 q => by
      obtain ⟨c', e1, e2⟩ := ih (i + 1) k c1 (by omega) (by omega) (VC_Q hv q)
      exact ⟨c', e1, Qc_tr q e2⟩
    rw [fX9_fieldsThatBurden_4, hv.2.1, if_neg (nI_ge (by omega) (by omega)), c_under hn hv hb (by omega) hx hy v6 v7, Option.bind_some, c_owner hv hb, Option.bind_some, ← owF_eq hx hy v6 v7]
    simp only [bnd_x, nI_1]
    rw [brd] at next
    by_cases z : owF V nf i = nI p
    · obtain ⟨c1, e1, -, e3, -⟩ := c_settle1 hn hv hb (show i < 13 by omega) hx hy v6 v7 v8 (by omega)
      rw [← owF_eq hx hy v6 v7] at e1
      have hs := sum_le P V h12 (owF V nf i) (V 8 i) (V 9 i)
      rw [if_pos z, e1, Option.bind_some]
      by_cases z2 : 0 < sumN P V nc (owF V nf i) (V 8 i) (V 9 i)
      · rw [if_pos ⟨z, z2⟩] at next
        rw [if_neg (show ¬ nI (sumN P V nc (owF V nf i) (V 8 i) (V 9 i)) ≤ 0 from nI_ge (a := 0) z2 (by omega))]
        have hg : ∃ g, fuV V nf i = some g := by
          have := z
          rw [owF_o] at this
          cases hf : fuV V nf i with
          | none => rw [hf] at this; exact absurd this.symm (neg1_nI (by omega))
          | some g => exact ⟨g, rfl⟩
        obtain ⟨g, hg⟩ := hg
        have := fuV_lt hg
        rw [hg] at next
        rw [efu, hg, show fR (-1) (some g) = nI g from rfl, shl_1b (by omega), or_nI]
        exact next c1 (Qs_q e3)
      · rw [if_neg (fun q => z2 q.2)] at next
        rw [if_pos (show nI (sumN P V nc (owF V nf i) (V 8 i) (V 9 i)) ≤ 0 from nI_le (b := 0) (by omega) (by omega))]
        exact next c1 (Qs_q e3)
    · rw [if_neg (fun q => z q.1)] at next
      rw [if_neg z]
      exact next c (Qc_rf c)
def ownb (V : Nat → Nat → Int32) (p : Nat) : Nat → Nat
  | 0 => 0
  | i + 1 => if V 4 i = nI p then ownb V p i ||| 2 ^ i else ownb V p i
theorem ownb_at {V : Nat → Nat → Int32} {p : Nat} : ∀ j i, i < j → V 4 i = nI p → (ownb V p j).testBit i = true := by
  intro j
  induction j with
  | zero => intro i hi; exact absurd hi (by omega)
  | succ j ih =>
    intro i hi h
    rw [ownb]
    by_cases z : V 4 j = nI p
    · rw [if_pos z, Nat.testBit_or, Nat.testBit_two_pow]
      by_cases e : j = i
      · rw [decide_eq_true e, Bool.or_true]
      · rw [ih i (by omega) h, Bool.true_or]
    · rw [if_neg z]
      exact ih i (by
        have : i ≠ j := fun e => z (by rw [← e]; exact h)
        omega) h
theorem zs_iff {P : LwP} {nf nl nc p s : Nat} {V : Nat → Nat → Int32} (hb : VB nf nl nc V) (hp : p < 6) : ∀ f, sR (DN P (setV V (-1) s nf) nf nc f) p 6 0 = 0 ↔ ∀ g, g < f → owF (setV V (-1) s nf) nf g = nI p → sumN P V nc (nI p) (V 8 g) (V 9 g) = 0 := by
  have hb' : VB nf nl nc (setV V (-1) s nf) := set_VB hb ⟨i32_rf _, by decide⟩
  intro f
  induction f with
  | zero => exact ⟨fun _ g hg => absurd hg (by omega), fun _ => sR_z (fun q => rfl) 6 0⟩
  | succ f ih =>
    have h1 : ∀ k, DN P (setV V (-1) s nf) nf nc (f + 1) k = DN P (setV V (-1) s nf) nf nc f k + oweN P V nc (owF (setV V (-1) s nf) nf f) (V 8 f) (V 9 f) k := fun k => by
      rw [DN, set_f (by omega), set_f (by omega), owe_V (fun a ha => set_f (by omega))]
    rw [sR_add h1, sR_owe hb (owF_rng hb' f) hp, Nat.add_eq_zero_iff, ih]
    constructor
    · rintro ⟨q1, q2⟩ g hg hz
      by_cases e : g = f
      · subst e
        rw [if_pos hz, hz] at q2
        exact q2
      · exact q1 g (by omega) hz
    · intro q
      refine ⟨fun g hg => q g (by omega), ?_⟩
      by_cases z : owF (setV V (-1) s nf) nf f = nI p
      · rw [if_pos z, z]
        exact q f (by omega) z
      · rw [if_neg z]
theorem zs_B {P : LwP} {nf nl nc p : Nat} {V : Nat → Nat → Int32} (hb : VB nf nl nc V) (hp : p < 6) : sR (DN P (setV V (-1) (brd P V nf nc p nl) nf) nf nc nl) p 6 0 = 0 := by
  rw [zs_iff hb hp]
  intro g hg hz
  apply Classical.byContradiction
  intro hne
  rw [owF_set] at hz
  cases hf : fuV V nf g with
  | none => rw [hf] at hz; exact absurd hz.symm (neg1_nI (by omega))
  | some i =>
    rw [hf] at hz
    by_cases z : (brd P V nf nc p nl).testBit i = true
    · have hz2 : (if (brd P V nf nc p nl).testBit i = true then (-1 : Int32) else V 4 i) = nI p := hz
      rw [if_pos z] at hz2
      exact absurd hz2.symm (neg1_nI (by omega))
    · have hz2 : (if (brd P V nf nc p nl).testBit i = true then (-1 : Int32) else V 4 i) = nI p := hz
      rw [if_neg z] at hz2
      have ho : owF V nf g = nI p := by rw [owF_o, hf]; exact hz2
      exact z ((brd_at hp nl i).mpr ⟨g, hg, ho, by rw [ho]; omega, hf⟩)
theorem zs_n {P : LwP} {nf nl nc p s : Nat} {V : Nat → Nat → Int32} (hb : VB nf nl nc V) (hp : p < 6) (h : ¬ ∀ i, (brd P V nf nc p nl).testBit i = true → s.testBit i = true) : sR (DN P (setV V (-1) s nf) nf nc nl) p 6 0 ≠ 0 := by
  intro q
  apply h
  intro i hi
  apply Classical.byContradiction
  intro hs
  obtain ⟨f, h1, h2, h3, h4⟩ := (brd_at hp nl i).mp hi
  rw [zs_iff hb hp] at q
  have hz : owF (setV V (-1) s nf) nf f = nI p := by
    rw [owF_set, h4]
    show (if s.testBit i = true then (-1 : Int32) else V 4 i) = nI p
    rw [if_neg hs, ← h2, owF_o, h4]
    rfl
  have := q f h1 hz
  rw [h2] at h3
  omega
