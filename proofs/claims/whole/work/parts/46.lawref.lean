/-! the law as a number: a stack of numbers, from the tokens -/
def stp (fa : Nat → Int32) (t : Tk) (A : Nat → Int32) (h : Nat) : (Nat → Int32) × Nat := if t.1 = 1 then (upd A h t.2, h + 1) else if t.1 = 2 then (upd A h (fa t.2.toNatClampNeg), h + 1) else if t.1 = 3 then (upd A (h - 1) (if A (h - 1) = 0 then 1 else 0), h) else if t.1 = 4 then (upd A (h - 1) (-A (h - 1)), h) else (upd A (h - 2) (fX12_twoOf (nI t.1) (A (h - 2)) (A (h - 1))), h - 1)
def evl (fa : Nat → Int32) : List Tk → (Nat → Int32) → Nat → Int32
  | [], A, _ => A 0
  | t :: ts, A, h => evl fa ts (stp fa t A h).1 (stp fa t A h).2
theorem vd_h : ∀ (ts : List Tk) (h : Nat), vd ts h 1 → h ≤ ts.length + 1 := by
  intro ts
  induction ts with
  | nil => intro h q; have q : h = 1 := q; omega
  | cons t ts ih =>
    intro h q
    rw [vd] at q
    simp only [List.length_cons]
    by_cases c1 : t.1 = 1
    · rw [if_pos c1] at q
      have := ih _ q.2
      omega
    rw [if_neg c1] at q
    by_cases c2 : t.1 = 2
    · rw [if_pos c2] at q
      have := ih _ q.2
      omega
    rw [if_neg c2] at q
    by_cases c3 : t.1 = 3 ∨ t.1 = 4
    · rw [if_pos c3] at q
      have := ih _ q.2
      omega
    rw [if_neg c3] at q
    have := ih _ q.2.2
    omega
theorem upd_c {A B : Nat → Int32} {j i : Nat} {v : Int32} (h : i ≠ j → A i = B i) : upd A j v i = upd B j v i := by
  rw [upd_x, upd_x]
  by_cases e : i = j
  · rw [if_pos e, if_pos e]
  · rw [if_neg e, if_neg e, h e]
/-- what lies above the stack counts for nothing -/
theorem evl_eq (fa : Nat → Int32) : ∀ (ts : List Tk) (A B : Nat → Int32) (h : Nat), vd ts h 1 → (∀ i, i < h → A i = B i) → evl fa ts A h = evl fa ts B h := by
  intro ts
  induction ts with
  | nil => intro A B h q e; have q : h = 1 := q; exact e 0 (by omega)
  | cons t ts ih =>
    intro A B h q e
    rw [evl, evl]
    rw [vd] at q
    unfold stp
    by_cases c1 : t.1 = 1
    · rw [if_pos c1] at q
      rw [if_pos c1, if_pos c1]
      refine ih _ _ _ q.2 (fun i hi => ?_)
      have hi' : i < h + 1 := hi
      exact upd_c (fun z => e i (by omega))
    rw [if_neg c1] at q
    rw [if_neg c1, if_neg c1]
    by_cases c2 : t.1 = 2
    · rw [if_pos c2] at q
      rw [if_pos c2, if_pos c2]
      refine ih _ _ _ q.2 (fun i hi => ?_)
      have hi' : i < h + 1 := hi
      exact upd_c (fun z => e i (by omega))
    rw [if_neg c2] at q
    rw [if_neg c2, if_neg c2]
    by_cases c3 : t.1 = 3
    · rw [if_pos (Or.inl c3)] at q
      rw [if_pos c3, if_pos c3, e (h - 1) (by omega)]
      refine ih _ _ _ q.2 (fun i hi => ?_)
      exact upd_c (fun _ => e i hi)
    by_cases c4 : t.1 = 4
    · rw [if_pos (Or.inr c4)] at q
      rw [if_neg c3, if_neg c3, if_pos c4, if_pos c4, e (h - 1) (by omega)]
      refine ih _ _ _ q.2 (fun i hi => ?_)
      exact upd_c (fun _ => e i hi)
    rw [if_neg (by omega)] at q
    rw [if_neg c3, if_neg c3, if_neg c4, if_neg c4, e (h - 1) (by omega), e (h - 2) (by omega)]
    refine ih _ _ _ q.2.2 (fun i hi => ?_)
    have hi' : i < h - 1 := hi
    exact upd_c (fun _ => e i (by omega))
theorem nI_m1 {h : Nat} (q : 1 ≤ h) : nI h - 1 = nI (h - 1) := by
  obtain ⟨k, rfl⟩ : ∃ k, h = k + 1 := ⟨h - 1, by omega⟩
  rw [nI_pred]
  rfl
theorem nI_p1 {h : Nat} (q : 1 ≤ h) : nI h + (-1 : Int32) = nI (h - 1) := by
  obtain ⟨k, rfl⟩ : ∃ k, h = k + 1 := ⟨h - 1, by omega⟩
  rw [pk_m1]
  rfl
theorem op_lt {k : Nat} (h : isOp k = true) : k < 200 ∧ ¬ k = 1 ∧ ¬ k = 2 ∧ ¬ k = 3 ∧ ¬ k = 4 := by
  unfold isOp at h
  simp only [Bool.or_eq_true, beq_iff_eq] at h
  omega
theorem wk {n : Nat} (fa : Nat → Int32) : ∀ (ts : List Tk) (p h k : Nat) (st : St), (∀ i (hi : i < ts.length), gI st 20 (p + i) = nI (ts[i].1) ∧ gI st 21 (p + i) = ts[i].2) → vd ts h 1 → p + ts.length ≤ 125 → ts.length < k → (∀ i, i < 6 → gI st 25 i = fa i) → ∃ st', fX12_worked_12 n k st 0 (nI (p + ts.length)) (nI h) (nI p) = some (evl fa ts (gI st 26) h, st') ∧ (∀ q, q ≠ 26 → gI st' q = gI st q) ∧ (∀ q, gL st' q = gL st q) := by
  intro ts
  induction ts with
  | nil =>
    intro p h k st _ hv hp hk _
    obtain ⟨k, rfl⟩ : ∃ k', k = k' + 1 := ⟨k - 1, by omega⟩
    rw [fX12_worked_12]
    simp only [List.length_nil, Nat.add_zero]
    rw [show (130 : Int32) * 0 + nI p = nI p by rw [show (130 : Int32) * 0 = nI 0 from rfl, nI_add, Nat.zero_add], if_pos (i32_rf _)]
    exact ⟨st, rfl, fun _ _ => rfl, fun _ => rfl⟩
  | cons t ts ih =>
    intro p h k st ha hv hp hk hf
    obtain ⟨k, rfl⟩ : ∃ k', k = k' + 1 := ⟨k - 1, by omega⟩
    simp only [List.length_cons] at hp hk ⊢
    obtain ⟨a1, a2⟩ := ha 0 (by simp)
    simp only [Nat.add_zero, List.getElem_cons_zero] at a1 a2
    have ha' : ∀ i (hi : i < ts.length), gI st 20 (p + 1 + i) = nI (ts[i].1) ∧ gI st 21 (p + 1 + i) = ts[i].2 := fun i hi => by
      have := ha (i + 1) (by simp only [List.length_cons]; omega)
      simp only [List.getElem_cons_succ] at this
      rw [show p + 1 + i = p + (i + 1) by omega]
      exact this
    have hh := vd_h _ _ hv
    simp only [List.length_cons] at hh
    rw [fX12_worked_12, show (130 : Int32) * 0 + nI (p + (ts.length + 1)) = nI (p + 1 + ts.length) by rw [show (130 : Int32) * 0 = nI 0 from rfl, nI_add]; congr 1; omega, if_neg (nI_ge (by omega) (by omega)), inB_t (show p < 260 by omega) (by omega), gd_true, nIc (show p < 100000 by omega), bnd_x, a1, evl]
    rw [vd] at hv
    unfold stp
    -- one step, then the rest
    have go : ∀ (j : Nat) (v : Int32) (h' : Nat), vd ts h' 1 → ∃ st', fX12_worked_12 n k (sI st 26 j v) 0 (nI (p + (ts.length + 1))) (nI h') (nI (p + 1)) = some (evl fa ts (upd (gI st 26) j v) h', st') ∧ (∀ q, q ≠ 26 → gI st' q = gI st q) ∧ (∀ q, gL st' q = gL st q) := by
      intro j v h' hv'
      obtain ⟨st', e1, e2, e3⟩ := ih (p + 1) h' k (sI st 26 j v) (fun i hi => by
        rw [gI_sIx, if_neg (by omega), gI_sIx, if_neg (by omega)]
        exact ha' i hi) hv' (by omega) (by omega) (fun i hi => by rw [gI_sIx, if_neg (by omega)]; exact hf i hi)
      rw [gI_sIx, if_pos rfl] at e1
      rw [show p + (ts.length + 1) = p + 1 + ts.length by omega]
      exact ⟨st', e1, fun q hq => by rw [e2 q hq, gI_sIx, if_neg hq], e3⟩
    by_cases c1 : t.1 = 1
    · rw [if_pos c1] at hv
      rw [c1, if_pos (show nI 1 = 1 from rfl), if_pos rfl]
      unfold fX12_worked_45
      rw [if_pos (show nI 1 = 1 from rfl), inB_t (show p < 260 by omega) (by omega), inB_t (show h < 130 by omega) (by omega), gd_true, gd_true, nIc (show p < 100000 by omega), nIc (show h < 100000 by omega), a2]
      simp only [bnd_x, nI_1]
      exact go h t.2 (h + 1) hv.2
    rw [if_neg c1] at hv
    rw [if_neg c1]
    by_cases c2 : t.1 = 2
    · rw [if_pos c2] at hv
      obtain ⟨⟨i, hi, ei⟩, hv⟩ := hv
      rw [c2, if_neg (show ¬ nI 2 = 1 by decide), if_pos (show nI 2 = 2 from rfl), if_pos rfl]
      unfold fX12_worked_45
      rw [if_neg (show ¬ nI 2 = 1 by decide), inB_t (show p < 260 by omega) (by omega), gd_true, nIc (show p < 100000 by omega), a2, ei, inB_t (show i < 6 by omega) (by omega), inB_t (show h < 130 by omega) (by omega), gd_true, gd_true, nIc (show h < 100000 by omega), nIc (show i < 100000 by omega), hf i hi]
      simp only [bnd_x, nI_1]
      exact go h (fa i) (h + 1) hv
    rw [if_neg c2] at hv
    rw [if_neg c2]
    by_cases c3 : t.1 = 3
    · rw [if_pos (Or.inl c3)] at hv
      rw [c3, if_neg (show ¬ nI 3 = 1 by decide), if_neg (show ¬ nI 3 = 2 by decide), if_pos (show nI 3 = 3 from rfl), if_pos rfl, nI_m1 hv.1, inB_t (show h - 1 < 130 by omega) (by omega), gd_true, gd_true, gd_true, nIc (show h - 1 < 100000 by omega)]
      simp only [bnd_x, nI_1]
      by_cases z : gI st 26 (h - 1) = 0
      · rw [if_pos z, if_pos z]
        exact go (h - 1) 1 h hv.2
      · rw [if_neg z, if_neg z]
        exact go (h - 1) 0 h hv.2
    rw [if_neg c3]
    by_cases c4 : t.1 = 4
    · rw [if_pos (Or.inr c4)] at hv
      rw [c4, if_neg (show ¬ nI 4 = 1 by decide), if_neg (show ¬ nI 4 = 2 by decide), if_neg (show ¬ nI 4 = 3 by decide), if_pos (show nI 4 = 4 from rfl), if_pos rfl, nI_m1 hv.1, inB_t (show h - 1 < 130 by omega) (by omega), gd_true, gd_true, nIc (show h - 1 < 100000 by omega)]
      simp only [bnd_x, nI_1]
      exact go (h - 1) _ h hv.2
    rw [if_neg (by omega)] at hv
    obtain ⟨o1, o2, o3⟩ := hv
    obtain ⟨q0, q1, q2, q3, q4⟩ := op_lt o1
    have ne : ∀ m, m < 200 → ¬ t.1 = m → ¬ nI t.1 = nI m := fun m hm q e => q (by rw [nIeq (by omega) (by omega)] at e; exact e)
    rw [if_neg (show ¬ nI t.1 = 1 from ne 1 (by omega) q1), if_neg (show ¬ nI t.1 = 2 from ne 2 (by omega) q2), if_neg (show ¬ nI t.1 = 3 from ne 3 (by omega) q3), if_neg (show ¬ nI t.1 = 4 from ne 4 (by omega) q4), if_neg c4, nI_p1 (by omega)]
    simp only [bnd_x, nI_1]
    rw [nI_m1 (show 1 ≤ h - 1 by omega), inB_t (show h - 1 - 1 < 130 by omega) (by omega), inB_t (show h - 1 < 130 by omega) (by omega), gd_true, gd_true, gd_true, nIc (show h - 1 - 1 < 100000 by omega), nIc (show h - 1 < 100000 by omega), show h - 1 - 1 = h - 2 by omega]
    exact go (h - 2) _ (h - 1) o3
/-- the whole law -/
def z0f : Nat → Int32 := fun _ => 0
def lawF (fa : Nat → Int32) : List (List Tk × List Tk) → Int32
  | [] => 0
  | (t, b) :: P => if t = [] then evl fa b z0f 0 else if evl fa t z0f 0 = 0 then lawF fa P else evl fa b z0f 0
theorem evl_z (fa : Nat → Int32) (ts : List Tk) (A : Nat → Int32) (h : vd ts 0 1) : evl fa ts A 0 = evl fa ts z0f 0 := evl_eq fa ts A z0f 0 h (fun i hi => absurd hi (by omega))
theorem toks_c (t b : List Tk) (P : List (List Tk × List Tk)) : toks ((t, b) :: P) = t.length + b.length + toks P := by
  unfold toks
  simp
theorem gv {n : Nat} (hn : 5000 < n) (fa : Nat → Int32) : ∀ (P : List (List Tk × List Tk)) (l p k L : Nat) (st : St), LM st l p P → gI st 22 0 = nI L → l + P.length = L → L ≤ 61 → p + toks P ≤ 121 → (∀ q ∈ P, (q.1 = [] ∨ vd q.1 0 1) ∧ vd q.2 0 1) → P.length < k → (∀ i, i < 6 → gI st 25 i = fa i) → ∃ st', fX12_gives_7 n k st 0 (nI p) (nI l) = some (lawF fa P, st') ∧ (∀ q, q ≠ 26 → gI st' q = gI st q) ∧ (∀ q, gL st' q = gL st q) := by
  intro P
  induction P with
  | nil =>
    intro l p k L st hM hL hl hL6 hp hv hk hf
    obtain ⟨k, rfl⟩ : ∃ k', k = k' + 1 := ⟨k - 1, by omega⟩
    simp only [List.length_nil, Nat.add_zero] at hl
    rw [fX12_gives_7, show inB 0 2 = true by decide, gd_true, show (0 : Int32).toNatClampNeg = 0 from rfl, hL, show (61 : Int32) * 0 + nI L = nI L by rw [show (61 : Int32) * 0 = nI 0 from rfl, nI_add, Nat.zero_add], if_pos (nI_le (by omega) (by omega))]
    exact ⟨st, rfl, fun _ _ => rfl, fun _ => rfl⟩
  | cons tb P ih =>
    intro l p k L st hM hL hl hL6 hp hv hk hf
    obtain ⟨k, rfl⟩ : ∃ k', k = k' + 1 := ⟨k - 1, by omega⟩
    obtain ⟨t, b⟩ := tb
    obtain ⟨m1, m2, m3, m4⟩ := hM
    rw [toks_c] at hp
    simp only [List.length_cons] at hl hk
    have hvt := hv (t, b) (by simp)
    have hvr : ∀ q ∈ P, (q.1 = [] ∨ vd q.1 0 1) ∧ vd q.2 0 1 := fun q hq => hv q (by simp [hq])
    have hT : ∀ i (hi : i < t.length), gI st 20 (p + i) = nI (t[i].1) ∧ gI st 21 (p + i) = t[i].2 := fun i hi => by
      have := m3 i (by simp only [List.length_append]; omega)
      rw [List.getElem_append_left hi] at this
      exact this
    have hB : ∀ (st' : St), (∀ q, q ≠ 26 → gI st' q = gI st q) → ∀ i (hi : i < b.length), gI st' 20 (p + t.length + i) = nI (b[i].1) ∧ gI st' 21 (p + t.length + i) = b[i].2 := fun st' hs i hi => by
      have := m3 (t.length + i) (by simp only [List.length_append]; omega)
      rw [List.getElem_append_right (by omega)] at this
      simp only [show t.length + i - t.length = i by omega] at this
      rw [hs 20 (by omega), hs 21 (by omega), show p + t.length + i = p + (t.length + i) by omega]
      exact this
    -- the line's second part
    have g47 : ∀ (st' : St), (∀ q, q ≠ 26 → gI st' q = gI st q) → (∀ q, gL st' q = gL st q) → ∃ st2, fX12_gives_47 n st' 0 (nI l) = some (evl fa b z0f 0, st2) ∧ (∀ q, q ≠ 26 → gI st2 q = gI st q) ∧ (∀ q, gL st2 q = gL st q) := by
      intro st' hs hs2
      unfold fX12_gives_47 fX12_worked
      rw [inB_t (show l < 122 by omega) (by omega), gd_true, gd_true, nIc (by omega), hs 23 (by omega), hs 24 (by omega), m1, m2, bnd_x, show (130 : Int32) * 0 + nI (p + t.length) = nI (p + t.length) by rw [show (130 : Int32) * 0 = nI 0 from rfl, nI_add, Nat.zero_add], some_eta]
      obtain ⟨st2, e1, e2, e3⟩ := wk (n := n) fa b (p + t.length) 0 n st' (hB st' hs) hvt.2 (by omega) (by omega) (fun i hi => by rw [hs 25 (by omega)]; exact hf i hi)
      rw [evl_z fa b _ hvt.2] at e1
      exact ⟨st2, e1, fun q hq => by rw [e2 q hq, hs q hq], fun q => by rw [e3 q, hs2 q]⟩
    rw [fX12_gives_7, show inB 0 2 = true by decide, gd_true, show (0 : Int32).toNatClampNeg = 0 from rfl, hL, show (61 : Int32) * 0 + nI L = nI L by rw [show (61 : Int32) * 0 = nI 0 from rfl, nI_add, Nat.zero_add], if_neg (nI_ge (by omega) (by omega)), inB_t (show l < 122 by omega) (by omega), gd_true, gd_true, nIc (show l < 100000 by omega), m1, lawF]
    by_cases ht : t = []
    · rw [if_pos ht]
      have e0 : t.length = 0 := by rw [ht]; rfl
      rw [if_pos (by rw [e0, Nat.add_zero])]
      exact g47 st (fun _ _ => rfl) (fun _ => rfl)
    · rw [if_neg ht]
      have e0 : 0 < t.length := List.length_pos_iff.mpr ht
      have hvt1 : vd t 0 1 := by
        rcases hvt.1 with q | q
        · exact absurd q ht
        · exact q
      rw [if_neg (show ¬ nI (p + t.length) = nI p from fun e => by rw [nIeq (by omega) (by omega)] at e; omega)]
      unfold fX12_worked
      rw [bnd_x, show (130 : Int32) * 0 + nI p = nI p by rw [show (130 : Int32) * 0 = nI 0 from rfl, nI_add, Nat.zero_add]]
      obtain ⟨st1, e1, e2, e3⟩ := wk (n := n) fa t p 0 n st hT hvt1 (by omega) (by omega) hf
      rw [evl_z fa t _ hvt1] at e1
      rw [show nI 0 = (0 : Int32) from rfl] at e1
      rw [e1, Option.bind_some]
      by_cases c : evl fa t z0f 0 = 0
      · rw [if_pos c, if_pos c]
        simp only [gd_true, bnd_x, nI_1]
        rw [e2 24 (by omega), m2]
        obtain ⟨st2, f1, f2, f3⟩ := ih (l + 1) (p + t.length + b.length) k L st1 (LM_eq (e2 20 (by omega)) (e2 21 (by omega)) (e2 22 (by omega)) (e2 23 (by omega)) (e2 24 (by omega)) P _ _ m4) (by rw [e2 22 (by omega)]; exact hL) (by omega) hL6 (by omega) hvr (by omega) (fun i hi => by rw [e2 25 (by omega)]; exact hf i hi)
        exact ⟨st2, f1, fun q hq => by rw [f2 q hq, e2 q hq], fun q => by rw [f3 q, e3 q]⟩
      · rw [if_neg c, if_neg c]
        exact g47 st1 e2 e3
