theorem div_m1 (a : Int32) : a / (-1) = -a := by
  refine Int32.toInt_inj.mp ?_
  have e : (-1 : Int32).toInt = -1 := rfl
  rw [Int32.toInt_div, e, Int32.toInt_neg, Int.tdiv_neg, Int.tdiv_one]
theorem rm_m1 (a : Int32) : rmI a (-1) = 0 := by
  unfold rmI
  rw [div_m1]
  grind
theorem two_eq {k : Nat} (h : isOp k = true) (v a b : Int32) : fX4_ofTwo (sg (k, v)) a b = fX12_twoOf (nI k) a b := by
  unfold isOp at h
  simp only [Bool.or_eq_true, beq_iff_eq] at h
  rcases h with ((((((((h | h) | h) | h) | h) | h) | h) | h) | h) | h <;> subst h
  · rfl
  · rfl
  · rfl
  · rfl
  · rfl
  · rfl
  · rfl
  · rfl
  · show (if b = 0 then (0 : Int32) else a / b) = (if b = 0 then 0 else if b = -1 then -a else a / b)
    by_cases z : b = 0
    · rw [if_pos z, if_pos z]
    · rw [if_neg z, if_neg z]
      by_cases z1 : b = -1
      · rw [if_pos z1, z1, div_m1]
      · rw [if_neg z1]
  · show (if b = 0 then (0 : Int32) else rmI a b) = (if b = 0 then 0 else if b = -1 then 0 else rmI a b)
    by_cases z : b = 0
    · rw [if_pos z, if_pos z]
    · rw [if_neg z, if_neg z]
      by_cases z1 : b = -1
      · rw [if_pos z1, z1, rm_m1]
      · rw [if_neg z1]
theorem sg_op {k : Nat} (h : isOp k = true) (v : Int32) : ¬ sg (k, v) = -20 ∧ sg (k, v) < 0 ∧ sg (k, v) < -6 ∧ ¬ sg (k, v) = -19 ∧ ¬ sg (k, v) = -17 ∧ ¬ sg (k, v) = -18 := by
  unfold isOp at h
  simp only [Bool.or_eq_true, beq_iff_eq] at h
  rcases h with ((((((((h | h) | h) | h) | h) | h) | h) | h) | h) | h <;> subst h
  · exact (show ¬ (-7 : Int32) = -20 ∧ (-7 : Int32) < 0 ∧ (-7 : Int32) < -6 ∧ ¬ (-7 : Int32) = -19 ∧ ¬ (-7 : Int32) = -17 ∧ ¬ (-7 : Int32) = -18 by decide)
  · exact (show ¬ (-8 : Int32) = -20 ∧ (-8 : Int32) < 0 ∧ (-8 : Int32) < -6 ∧ ¬ (-8 : Int32) = -19 ∧ ¬ (-8 : Int32) = -17 ∧ ¬ (-8 : Int32) = -18 by decide)
  · exact (show ¬ (-9 : Int32) = -20 ∧ (-9 : Int32) < 0 ∧ (-9 : Int32) < -6 ∧ ¬ (-9 : Int32) = -19 ∧ ¬ (-9 : Int32) = -17 ∧ ¬ (-9 : Int32) = -18 by decide)
  · exact (show ¬ (-10 : Int32) = -20 ∧ (-10 : Int32) < 0 ∧ (-10 : Int32) < -6 ∧ ¬ (-10 : Int32) = -19 ∧ ¬ (-10 : Int32) = -17 ∧ ¬ (-10 : Int32) = -18 by decide)
  · exact (show ¬ (-11 : Int32) = -20 ∧ (-11 : Int32) < 0 ∧ (-11 : Int32) < -6 ∧ ¬ (-11 : Int32) = -19 ∧ ¬ (-11 : Int32) = -17 ∧ ¬ (-11 : Int32) = -18 by decide)
  · exact (show ¬ (-12 : Int32) = -20 ∧ (-12 : Int32) < 0 ∧ (-12 : Int32) < -6 ∧ ¬ (-12 : Int32) = -19 ∧ ¬ (-12 : Int32) = -17 ∧ ¬ (-12 : Int32) = -18 by decide)
  · exact (show ¬ (-13 : Int32) = -20 ∧ (-13 : Int32) < 0 ∧ (-13 : Int32) < -6 ∧ ¬ (-13 : Int32) = -19 ∧ ¬ (-13 : Int32) = -17 ∧ ¬ (-13 : Int32) = -18 by decide)
  · exact (show ¬ (-14 : Int32) = -20 ∧ (-14 : Int32) < 0 ∧ (-14 : Int32) < -6 ∧ ¬ (-14 : Int32) = -19 ∧ ¬ (-14 : Int32) = -17 ∧ ¬ (-14 : Int32) = -18 by decide)
  · exact (show ¬ (-15 : Int32) = -20 ∧ (-15 : Int32) < 0 ∧ (-15 : Int32) < -6 ∧ ¬ (-15 : Int32) = -19 ∧ ¬ (-15 : Int32) = -17 ∧ ¬ (-15 : Int32) = -18 by decide)
  · exact (show ¬ (-16 : Int32) = -20 ∧ (-16 : Int32) < 0 ∧ (-16 : Int32) < -6 ∧ ¬ (-16 : Int32) = -19 ∧ ¬ (-16 : Int32) = -17 ∧ ¬ (-16 : Int32) = -18 by decide)
theorem sg_nm : ∀ i, i < 6 → (¬ (-1 - nI i = (-20 : Int32)) ∧ -1 - nI i < 0 ∧ ¬ (-1 - nI i < (-6 : Int32)) ∧ -1 - (-1 - nI i) = nI i) := by decide +kernel
theorem cd_t {c : St} (h : gI c 17 0 = 18 ∨ gI c 17 0 = 23) : cdB (gI c 17 0) = true := by
  rcases h with h | h <;> rw [h] <;> decide
/-- where the code lies -/
def cdA (c : St) : Nat → Int32 := gI c (gI c 17 0).toNatClampNeg
theorem cdA_eq {c c' : St} (h : gI c 17 0 = 18 ∨ gI c 17 0 = 23) (hq : ∀ q, q ≠ 20 → gI c' q = gI c q) : cdA c' = cdA c := by
  unfold cdA
  rw [hq 17 (by omega)]
  refine hq _ ?_
  rcases h with h | h <;> rw [h] <;> decide
theorem top_lt {h : Nat} (hh : h < 120) : ¬ (120 : Int32) ≤ nI h := nI_ge (a := h) (b := 120) hh (by omega)
theorem top_0 {h : Nat} (h1 : 1 ≤ h) (hh : h < 120) : ¬ nI h ≤ (0 : Int32) := nI_ge (a := 0) (b := h) h1 (by omega)
theorem top_1 {h : Nat} (h1 : 2 ≤ h) (hh : h < 120) : ¬ nI h ≤ (1 : Int32) := nI_ge (a := 1) (b := h) h1 (by omega)
theorem wt_tok {n : Nat} (fa : Nat → Int32) {N : Nat} (hN : N ≤ 121) : ∀ (ts : List Tk) (at0 h k : Nat) (st : St), (∀ i (hi : i < ts.length), cdA st (at0 + i) = sg ts[i]) → vd ts h 1 → at0 + ts.length ≤ N → h + ts.length ≤ 121 → gI st 17 1 = nI N → (gI st 17 0 = 18 ∨ gI st 17 0 = 23) → (∀ i, i < 6 → gI st 19 i = fa i) → ∃ st', fX4_weight_89 n (k + ts.length) st (nI h) 0 (nI at0) = fX4_weight_89 n k st' (nI 1) 0 (nI (at0 + ts.length)) ∧ gI st' 20 0 = evl fa ts (gI st 20) h ∧ (∀ q, q ≠ 20 → gI st' q = gI st q) ∧ (∀ q, gL st' q = gL st q) := by
  intro ts
  induction ts with
  | nil =>
    intro at0 h k st _ hv _ _ _ _ _
    have hv : h = 1 := hv
    subst hv
    exact ⟨st, rfl, rfl, fun _ _ => rfl, fun _ => rfl⟩
  | cons t ts ih =>
    intro at0 h k st ha hv hp hh hl hr hf
    simp only [List.length_cons] at hp hh ⊢
    have a1 := ha 0 (by simp)
    simp only [Nat.add_zero, List.getElem_cons_zero] at a1
    have hh2 := vd_h _ _ hv
    simp only [List.length_cons] at hh2
    rw [show k + (ts.length + 1) = (k + ts.length) + 1 by omega, fX4_weight_89, hl, if_neg (nI_ge (by omega) (by omega)), if_neg (top_lt (show h < 120 by omega)), cd_t hr, gd_true, inB_t (show at0 < 121 by omega) (by omega), gd_true, nIc (show at0 < 100000 by omega), bnd_x, show gI st (gI st 17 0).toNatClampNeg at0 = sg t from a1, evl]
    rw [vd] at hv
    unfold stp
    have go : ∀ (j : Nat) (v : Int32) (h' : Nat), vd ts h' 1 → h' + ts.length ≤ 121 → ∃ st', fX4_weight_89 n (k + ts.length) (sI st 20 j v) (nI h') 0 (nI (at0 + 1)) = fX4_weight_89 n k st' (nI 1) 0 (nI (at0 + (ts.length + 1))) ∧ gI st' 20 0 = evl fa ts (upd (gI st 20) j v) h' ∧ (∀ q, q ≠ 20 → gI st' q = gI st q) ∧ (∀ q, gL st' q = gL st q) := by
      intro j v h' hv' hh'
      have hs : ∀ q, q ≠ 20 → gI (sI st 20 j v) q = gI st q := fun q hq => by rw [gI_sIx, if_neg hq]
      obtain ⟨st', e1, e2, e3, e4⟩ := ih (at0 + 1) h' k (sI st 20 j v) (fun i hi => by
        rw [cdA_eq hr hs, show at0 + 1 + i = at0 + (i + 1) by omega]
        have := ha (i + 1) (by simp only [List.length_cons]; omega)
        simp only [List.getElem_cons_succ] at this
        exact this) hv' (by omega) hh' (by rw [hs 17 (by omega)]; exact hl) (by rw [hs 17 (by omega)]; exact hr) (fun i hi => by rw [hs 19 (by omega)]; exact hf i hi)
      rw [gI_sIx, if_pos rfl] at e2
      rw [show at0 + (ts.length + 1) = at0 + 1 + ts.length by omega]
      exact ⟨st', e1, e2, fun q hq => by rw [e3 q hq, hs q hq], e4⟩
    obtain ⟨t1, t2⟩ := t
    by_cases c1 : t1 = 1
    · subst c1
      have hv : 0 ≤ t2 ∧ vd ts (h + 1) 1 := hv
      have e : sg (1, t2) = t2 := rfl
      rw [e, if_neg (show ¬ t2 = -20 from fun q => by rw [q] at hv; exact absurd hv.1 (by decide)), if_pos rfl, if_neg (show ¬ t2 < 0 from fun q => fa_nle q hv.1), bnd_x, inB_t (show h < 120 by omega) (by omega), gd_true, nIc (show h < 100000 by omega)]
      simp only [bnd_x, nI_1]
      exact go h t2 (h + 1) hv.2 (by omega)
    by_cases c2 : t1 = 2
    · subst c2
      have hv : (∃ i : Nat, i < 6 ∧ t2 = nI i) ∧ vd ts (h + 1) 1 := hv
      obtain ⟨⟨i, hi, ei⟩, hv⟩ := hv
      obtain ⟨s1, s2, s3, s4⟩ := sg_nm i hi
      have e : sg (2, t2) = -1 - nI i := by rw [← ei]; rfl
      rw [e, if_neg s1, if_pos rfl, if_pos s2, if_neg s3, s4, bnd_x, inB_t (show i < 6 by omega) (by omega), inB_t (show h < 120 by omega) (by omega), gd_true, gd_true, nIc (show h < 100000 by omega), nIc (show i < 100000 by omega), hf i hi]
      simp only [bnd_x, nI_1]
      show ∃ st', _ ∧ gI st' 20 0 = evl fa ts (upd (gI st 20) h (fa t2.toNatClampNeg)) (h + 1) ∧ _
      rw [ei, nIc (show i < 100000 by omega)]
      exact go h (fa i) (h + 1) hv (by omega)
    by_cases c3 : t1 = 3
    · subst c3
      have hv : 1 ≤ h ∧ vd ts h 1 := hv
      have e : sg (3, t2) = -17 := rfl
      rw [e, if_neg (by decide), if_pos rfl, if_pos (by decide), if_pos (by decide), if_neg (by decide), if_pos rfl, if_neg (top_0 hv.1 (show h < 120 by omega)), nI_m1 hv.1, inB_t (show h - 1 < 120 by omega) (by omega), gd_true, gd_true, gd_true, nIc (show h - 1 < 100000 by omega)]
      simp only [bnd_x, nI_1]
      show ∃ st', _ ∧ gI st' 20 0 = evl fa ts (upd (gI st 20) (h - 1) (if gI st 20 (h - 1) = 0 then 1 else 0)) h ∧ _
      by_cases z : gI st 20 (h - 1) = 0
      · rw [if_pos z, if_pos z]
        exact go (h - 1) 1 h hv.2 (by omega)
      · rw [if_neg z, if_neg z]
        exact go (h - 1) 0 h hv.2 (by omega)
    by_cases c4 : t1 = 4
    · subst c4
      have hv : 1 ≤ h ∧ vd ts h 1 := hv
      have e : sg (4, t2) = -18 := rfl
      rw [e, if_neg (by decide), if_pos rfl, if_pos (by decide), if_pos (by decide), if_neg (by decide), if_neg (by decide), fX4_weight_269, if_pos rfl, if_neg (top_0 hv.1 (show h < 120 by omega)), nI_m1 hv.1, inB_t (show h - 1 < 120 by omega) (by omega), gd_true, gd_true, nIc (show h - 1 < 100000 by omega)]
      simp only [bnd_x, nI_1]
      exact go (h - 1) _ h hv.2 (by omega)
    have hv : isOp t1 = true ∧ 2 ≤ h ∧ vd ts (h - 1) 1 := by
      have hv : (if t1 = 1 then (0 ≤ t2 ∧ vd ts (h + 1) 1) else if t1 = 2 then ((∃ i : Nat, i < 6 ∧ t2 = nI i) ∧ vd ts (h + 1) 1) else if t1 = 3 ∨ t1 = 4 then (1 ≤ h ∧ vd ts h 1) else (isOp t1 = true ∧ 2 ≤ h ∧ vd ts (h - 1) 1)) := hv
      rw [if_neg c1, if_neg c2, if_neg (by omega)] at hv
      exact hv
    obtain ⟨o1, o2, o3⟩ := hv
    obtain ⟨s1, s2, s3, s4, s5, s6⟩ := sg_op o1 t2
    rw [if_neg s1, if_pos rfl, if_pos s2, if_pos s3, if_neg s4, if_neg s5, fX4_weight_269, if_neg s6, fX4_weight_303, if_neg (top_1 o2 (show h < 120 by omega)), nI_p1 (by omega)]
    simp only [bnd_x, nI_1]
    rw [nI_m1 (show 1 ≤ h - 1 by omega), inB_t (show h - 1 - 1 < 120 by omega) (by omega), inB_t (show h - 1 < 120 by omega) (by omega), gd_true, gd_true, gd_true, nIc (show h - 1 - 1 < 100000 by omega), nIc (show h - 1 < 100000 by omega), show h - 1 - 1 = h - 2 by omega, two_eq o1, if_neg c1, if_neg c2, if_neg c3, if_neg c4]
    exact go (h - 2) _ (h - 1) o3 (by omega)
/-- tokens that are passed over -/
theorem wt_skip {n N : Nat} (hN : N ≤ 121) : ∀ (ts : List Tk) (at0 h k : Nat) (v7 : Int32) (st : St), ¬ (120 : Int32) ≤ v7 → (∀ i (hi : i < ts.length), cdA st (at0 + i) = sg ts[i]) → vd ts h 1 → at0 + ts.length ≤ N → gI st 17 1 = nI N → (gI st 17 0 = 18 ∨ gI st 17 0 = 23) → fX4_weight_89 n (k + ts.length) st v7 1 (nI at0) = fX4_weight_89 n k st v7 1 (nI (at0 + ts.length)) := by
  intro ts
  induction ts with
  | nil => intro at0 h k v7 st _ _ _ _ _ _; rfl
  | cons t ts ih =>
    intro at0 h k v7 st h7 ha hv hp hl hr
    simp only [List.length_cons] at hp ⊢
    have a1 := ha 0 (by simp)
    simp only [Nat.add_zero, List.getElem_cons_zero] at a1
    have ha' : ∀ i (hi : i < ts.length), cdA st (at0 + 1 + i) = sg ts[i] := fun i hi => by
      rw [show at0 + 1 + i = at0 + (i + 1) by omega]
      have := ha (i + 1) (by simp only [List.length_cons]; omega)
      simp only [List.getElem_cons_succ] at this
      exact this
    rw [vd] at hv
    have key : ¬ sg t = -20 ∧ ∃ h', vd ts h' 1 := by
      obtain ⟨t1, t2⟩ := t
      by_cases c1 : t1 = 1
      · subst c1
        have hv : 0 ≤ t2 ∧ vd ts (h + 1) 1 := hv
        exact ⟨fun q => by rw [show sg (1, t2) = t2 from rfl] at q; rw [q] at hv; exact absurd hv.1 (by decide), _, hv.2⟩
      by_cases c2 : t1 = 2
      · subst c2
        have hv : (∃ i : Nat, i < 6 ∧ t2 = nI i) ∧ vd ts (h + 1) 1 := hv
        obtain ⟨⟨i, hi, ei⟩, hv⟩ := hv
        exact ⟨fun q => (sg_nm i hi).1 (by rw [← ei]; exact q), _, hv⟩
      have hv : (if t1 = 1 then (0 ≤ t2 ∧ vd ts (h + 1) 1) else if t1 = 2 then ((∃ i : Nat, i < 6 ∧ t2 = nI i) ∧ vd ts (h + 1) 1) else if t1 = 3 ∨ t1 = 4 then (1 ≤ h ∧ vd ts h 1) else (isOp t1 = true ∧ 2 ≤ h ∧ vd ts (h - 1) 1)) := hv
      rw [if_neg c1, if_neg c2] at hv
      by_cases c3 : t1 = 3 ∨ t1 = 4
      · rw [if_pos c3] at hv
        refine ⟨?_, _, hv.2⟩
        rcases c3 with c3 | c3 <;> subst c3
        · exact fun q => absurd (show (-17 : Int32) = -20 from q) (by decide)
        · exact fun q => absurd (show (-18 : Int32) = -20 from q) (by decide)
      · rw [if_neg c3] at hv
        exact ⟨(sg_op hv.1 t2).1, _, hv.2.2⟩
    obtain ⟨k1, h', k2⟩ := key
    rw [show k + (ts.length + 1) = (k + ts.length) + 1 by omega, fX4_weight_89, hl, if_neg (nI_ge (by omega) (by omega)), if_neg h7, cd_t hr, gd_true, inB_t (show at0 < 121 by omega) (by omega), gd_true, nIc (show at0 < 100000 by omega), bnd_x, show gI st (gI st 17 0).toNatClampNeg at0 = sg t from a1, if_neg k1, if_neg (show ¬ (1 : Int32) = 0 by decide), nI_1, bnd_x, ih (at0 + 1) h' k v7 st h7 ha' k2 (by omega) hl hr, show at0 + (ts.length + 1) = at0 + 1 + ts.length by omega]
def cod (f : Nat → Int32) (a : Nat) (L : List Int32) : Prop := ∀ i (h : i < L.length), f (a + i) = L[i]
theorem cod_app {f : Nat → Int32} {a : Nat} {A B : List Int32} (h : cod f a (A ++ B)) : cod f a A ∧ cod f (a + A.length) B := by
  constructor
  · intro i hi
    have := h i (by simp only [List.length_append]; omega)
    rw [List.getElem_append_left hi] at this
    exact this
  · intro i hi
    have := h (A.length + i) (by simp only [List.length_append]; omega)
    rw [List.getElem_append_right (by omega)] at this
    simp only [show A.length + i - A.length = i by omega] at this
    rw [show a + A.length + i = a + (A.length + i) by omega]
    exact this
theorem cod_map {f : Nat → Int32} {a : Nat} {ts : List Tk} (h : cod f a (ts.map sg)) : ∀ i (hi : i < ts.length), f (a + i) = sg ts[i] := fun i hi => by
  have := h i (by simp only [List.length_map]; omega)
  rw [List.getElem_map] at this
  exact this
theorem cod_1 {f : Nat → Int32} {a : Nat} {v : Int32} (h : cod f a [v]) : f a = v := h 0 (by simp)
/-- the end of a line -/
theorem wt_end {n N at0 k : Nat} {v7 : Int32} {st : St} (h7 : ¬ (120 : Int32) ≤ v7) (hN : N ≤ 121) (ha : at0 < N) (hc : cdA st at0 = -20) (hl : gI st 17 1 = nI N) (hr : gI st 17 0 = 18 ∨ gI st 17 0 = 23) : fX4_weight_89 n (k + 1) st v7 0 (nI at0) = some (gI st 20 0, st) ∧ fX4_weight_89 n (k + 1) st v7 1 (nI at0) = fX4_weight_89 n k st v7 0 (nI (at0 + 1)) := by
  constructor
  · rw [fX4_weight_89, hl, if_neg (nI_ge (by omega) (by omega)), if_neg h7, cd_t hr, gd_true, inB_t (show at0 < 121 by omega) (by omega), gd_true, nIc (show at0 < 100000 by omega), bnd_x, show gI st (gI st 17 0).toNatClampNeg at0 = -20 from hc, if_pos rfl, if_pos rfl]
  · rw [fX4_weight_89, hl, if_neg (nI_ge (by omega) (by omega)), if_neg h7, cd_t hr, gd_true, inB_t (show at0 < 121 by omega) (by omega), gd_true, nIc (show at0 < 100000 by omega), bnd_x, show gI st (gI st 17 0).toNatClampNeg at0 = -20 from hc, if_pos rfl, if_neg (show ¬ (1 : Int32) = 0 by decide), bnd_x, nI_1]
theorem wt_if {n N at0 k : Nat} {v7 : Int32} {st : St} (h7 : ¬ (120 : Int32) ≤ v7) (hN : N ≤ 121) (ha : at0 < N) (hc : cdA st at0 = -19) (hl : gI st 17 1 = nI N) (hr : gI st 17 0 = 18 ∨ gI st 17 0 = 23) : fX4_weight_89 n (k + 1) st v7 0 (nI at0) = if gI st 20 0 = 0 then fX4_weight_89 n k st 0 1 (nI (at0 + 1)) else fX4_weight_89 n k st 0 0 (nI (at0 + 1)) := by
  rw [fX4_weight_89, hl, if_neg (nI_ge (by omega) (by omega)), if_neg h7, cd_t hr, gd_true, inB_t (show at0 < 121 by omega) (by omega), gd_true, nIc (show at0 < 100000 by omega), bnd_x, show gI st (gI st 17 0).toNatClampNeg at0 = -19 from hc, if_neg (by decide), if_pos rfl, if_pos (by decide), if_pos (by decide), if_pos rfl, nI_1]
  rfl
set_option maxHeartbeats 1000000 in
theorem wt_all {n : Nat} (fa : Nat → Int32) {N : Nat} (hN : N ≤ 121) : ∀ (P : List (List Tk × List Tk)) (at0 k : Nat) (st : St), cod (cdA st) at0 (P.flatMap lnC) → at0 + (P.flatMap lnC).length = N → (P.flatMap lnC).length < k → (∀ q ∈ P, (q.1 = [] ∨ vd q.1 0 1) ∧ vd q.2 0 1) → gI st 17 1 = nI N → (gI st 17 0 = 18 ∨ gI st 17 0 = 23) → (∀ i, i < 6 → gI st 19 i = fa i) → ∃ st', fX4_weight_89 n k st 0 0 (nI at0) = some (lawF fa P, st') ∧ (∀ q, q ≠ 20 → gI st' q = gI st q) ∧ (∀ q, gL st' q = gL st q) := by
  intro P
  induction P with
  | nil =>
    intro at0 k st _ hN' hk _ hl _ _
    obtain ⟨k, rfl⟩ : ∃ k', k = k' + 1 := ⟨k - 1, by omega⟩
    have hN' : at0 + 0 = N := hN'
    rw [fX4_weight_89, hl, if_pos (nI_le (by omega) (by omega))]
    exact ⟨st, rfl, fun _ _ => rfl, fun _ => rfl⟩
  | cons tb P ih =>
    intro at0 k st hc hN' hk hv hl hr hf
    obtain ⟨t, b⟩ := tb
    have hvt := hv (t, b) (by simp)
    have hvr : ∀ q ∈ P, (q.1 = [] ∨ vd q.1 0 1) ∧ vd q.2 0 1 := fun q hq => hv q (by simp [hq])
    have hfm : ((t, b) :: P).flatMap lnC = lnC (t, b) ++ P.flatMap lnC := by simp
    rw [hfm] at hc hN' hk
    rw [List.length_append] at hN' hk
    obtain ⟨hc1, hc2⟩ := cod_app hc
    unfold lnC at hc1
    obtain ⟨hc3, hc4⟩ := cod_app hc1
    obtain ⟨hc5, hc6⟩ := cod_app hc3
    obtain ⟨hc7, hc8⟩ := cod_app hc5
    have h20 := cod_1 hc4
    have hlen : (lnC (t, b)).length = t.length + (if t = [] then 0 else 1) + b.length + 1 := by
      unfold lnC
      by_cases e : t = []
      · simp [e]
      · simp [e]
        omega
    rw [hlen] at hN' hk hc2
    by_cases ht : t = []
    · subst ht
      simp only [List.map_nil, List.nil_append, reduceIte, List.length_nil, Nat.add_zero, Nat.zero_add, List.length_map, List.append_nil] at hc6 h20 hN' hk hc2
      obtain ⟨k', rfl⟩ : ∃ k', k = (k' + 1) + b.length := ⟨k - b.length - 1, by omega⟩
      obtain ⟨st1, e1, e2, e3, e4⟩ := wt_tok (n := n) fa hN b at0 0 (k' + 1) st (cod_map hc6) hvt.2 (by omega) (by omega) hl hr hf
      rw [show fX4_weight_89 n (k' + 1 + b.length) st 0 0 (nI at0) = _ from e1, lawF, if_pos rfl]
      have q := (wt_end (n := n) (k := k') (v7 := nI 1) (st := st1) (top_lt (by omega)) hN (show at0 + b.length < N by omega) (by rw [cdA_eq hr e3]; exact h20) (by rw [e3 17 (by omega)]; exact hl) (by rw [e3 17 (by omega)]; exact hr)).1
      rw [q, e2, evl_z fa b _ hvt.2]
      exact ⟨st1, rfl, e3, e4⟩
    · have hvt1 : vd t 0 1 := by
        rcases hvt.1 with q | q
        · exact absurd q ht
        · exact q
      have e0 : 0 < t.length := List.length_pos_iff.mpr ht
      simp only [if_neg ht, List.length_map, List.length_append, List.length_cons, List.length_nil, Nat.zero_add] at hc7 hc8 hc6 h20 hN' hk hc2
      have h19 := cod_1 hc8
      obtain ⟨k', rfl⟩ : ∃ k', k = (k' + 1 + b.length + 1) + t.length := ⟨k - b.length - t.length - 2, by omega⟩
      obtain ⟨st1, e1, e2, e3, e4⟩ := wt_tok (n := n) fa hN t at0 0 (k' + 1 + b.length + 1) st (cod_map hc7) hvt1 (by omega) (by omega) hl hr hf
      rw [show fX4_weight_89 n (k' + 1 + b.length + 1 + t.length) st 0 0 (nI at0) = _ from e1, lawF, if_neg ht]
      have hl1 : gI st1 17 1 = nI N := by rw [e3 17 (by omega)]; exact hl
      have hr1 : gI st1 17 0 = 18 ∨ gI st1 17 0 = 23 := by rw [e3 17 (by omega)]; exact hr
      have hA := cdA_eq hr e3
      rw [wt_if (top_lt (by omega)) hN (show at0 + t.length < N by omega) (by rw [hA]; exact h19) hl1 hr1, e2, evl_z fa t _ hvt1]
      by_cases c : evl fa t z0f 0 = 0
      · rw [if_pos c, if_pos c]
        have hb1 : ∀ i (hi : i < b.length), cdA st1 (at0 + t.length + 1 + i) = sg b[i] := by
          rw [hA, show at0 + t.length + 1 = at0 + (t.length + 1) by omega]
          exact cod_map hc6
        rw [wt_skip (n := n) hN b (at0 + t.length + 1) 0 (k' + 1) 0 st1 (by decide) hb1 hvt.2 (by omega) hl1 hr1]
        have q := (wt_end (n := n) (k := k') (v7 := 0) (st := st1) (by decide) hN (show at0 + t.length + 1 + b.length < N by omega) (by rw [hA, show at0 + t.length + 1 + b.length = at0 + (t.length + 1 + b.length) by omega]; exact h20) hl1 hr1).2
        rw [q]
        obtain ⟨st2, f1, f2, f3⟩ := ih (at0 + t.length + 1 + b.length + 1) k' st1 (by rw [hA, show at0 + t.length + 1 + b.length + 1 = at0 + (t.length + 1 + b.length + 1) by omega]; exact hc2) (by omega) (by omega) hvr hl1 hr1 (fun i hi => by rw [e3 19 (by omega)]; exact hf i hi)
        exact ⟨st2, f1, fun q hq => by rw [f2 q hq, e3 q hq], fun q => by rw [f3 q, e4 q]⟩
      · rw [if_neg c, if_neg c]
        have hb1 : ∀ i (hi : i < b.length), cdA st1 (at0 + t.length + 1 + i) = sg b[i] := by
          rw [hA, show at0 + t.length + 1 = at0 + (t.length + 1) by omega]
          exact cod_map hc6
        obtain ⟨st2, f1, f2, f3, f4⟩ := wt_tok (n := n) fa hN b (at0 + t.length + 1) 0 (k' + 1) st1 hb1 hvt.2 (by omega) (by omega) hl1 hr1 (fun i hi => by rw [e3 19 (by omega)]; exact hf i hi)
        rw [show fX4_weight_89 n (k' + 1 + b.length) st1 0 0 (nI (at0 + t.length + 1)) = _ from f1]
        have q := (wt_end (n := n) (k := k') (v7 := nI 1) (st := st2) (top_lt (by omega)) hN (show at0 + t.length + 1 + b.length < N by omega) (by rw [cdA_eq hr1 f3, hA, show at0 + t.length + 1 + b.length = at0 + (t.length + 1 + b.length) by omega]; exact h20) (by rw [f3 17 (by omega)]; exact hl1) (by rw [f3 17 (by omega)]; exact hr1)).1
        rw [q, f2, evl_z fa b _ hvt.2]
        exact ⟨st2, rfl, fun q hq => by rw [f3 q hq, e3 q hq], fun q => by rw [f4 q, e4 q]⟩
