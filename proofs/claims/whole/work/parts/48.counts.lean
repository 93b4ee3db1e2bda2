/-- the law's own scratch alone -/
def Q2c (c c' : St) : Prop := (∀ k, k ≠ 19 → k ≠ 20 → gI c' k = gI c k) ∧ ∀ k, gL c' k = gL c k
def Q2d (d d' : St) : Prop := (∀ k, k ≠ 25 → k ≠ 26 → gI d' k = gI d k) ∧ ∀ k, gL d' k = gL d k
theorem Q2c_q {c c' : St} (h : Q2c c c') : Qc c c' := ⟨fun k q => h.1 k (by omega) (by omega), h.2⟩
theorem Q2d_q {d d' : St} (h : Q2d d d') : Qd d d' := ⟨fun k q => h.1 k (by omega) (by omega), h.2⟩
theorem Q2c_rf (c : St) : Q2c c c := ⟨fun _ _ _ => rfl, fun _ => rfl⟩
theorem Q2d_rf (d : St) : Q2d d d := ⟨fun _ _ _ => rfl, fun _ => rfl⟩
theorem Q2d_tr {a b c : St} (h1 : Q2d a b) (h2 : Q2d b c) : Q2d a c := ⟨fun k p q => (h2.1 k p q).trans (h1.1 k p q), fun k => (h2.2 k).trans (h1.2 k)⟩
theorem Q2d_sI (d : St) (i : Nat) (v : Int32) : Q2d d (sI d 25 i v) := ⟨fun a h _ => by rw [gI_sIx, if_neg h], fun _ => rfl⟩
def fa6 (d w k l h s : Int32) : Nat → Int32 := fun i => if i = 0 then d else if i = 1 then w else if i = 2 then k else if i = 3 then l else if i = 4 then h else s
def lawL : LwP → Int32 → Int32 → Int32 → Int32 → Int32 → Int32 → Int32
  | none, d, w, k, l, h, _ => if h = 0 then (if w = k then 10 + l - d + 3 else 10 + l - d + 0) else 0
  | some P, d, w, k, l, h, s => lawF (fa6 d w k l h s) P
theorem lnC_len {P : List (List Tk × List Tk)} (h : P ≠ []) : 0 < (P.flatMap lnC).length := by
  cases P with
  | nil => exact absurd rfl h
  | cons q P =>
    have e : ((q :: P).flatMap lnC).length = (lnC q).length + (P.flatMap lnC).length := by simp
    have e2 : 0 < (lnC q).length := by
      unfold lnC
      simp only [List.length_append, List.length_cons, List.length_nil]
      omega
    omega
theorem c_weight {n : Nat} (hn : 5000 < n) {c : St} {P : LwP} (hr : gI c 17 0 = 18 ∨ gI c 17 0 = 23) (hW : WC c P) (d w k l h s : Int32) : ∃ c', fX4_weight n c d w k l h s = some (lawL P d w k l h s, c') ∧ Q2c c c' := by
  unfold fX4_weight
  cases P with
  | none =>
    have hW : gI c 17 1 = 0 := hW
    rw [if_pos hW, lawL]
    refine ⟨c, ?_, Q2c_rf c⟩
    split
    · split <;> rfl
    · rfl
  | some P =>
    obtain ⟨ok, hl, h121, hc⟩ := hW
    have hpos := lnC_len ok.1
    rw [if_neg (by rw [hl]; exact nI_ne0 hpos (by omega)), lawL]
    simp only [bnd_x]
    generalize hst : sI (sI (sI (sI (sI (sI c 19 0 d) 19 1 w) 19 2 k) 19 3 l) 19 4 h) 19 5 s = st
    have hs : ∀ q, q ≠ 19 → gI st q = gI c q := fun q hq => by
      rw [← hst]
      simp only [gI_sIx, if_neg hq]
    have hr' : gI st 17 0 = 18 ∨ gI st 17 0 = 23 := by rw [hs 17 (by omega)]; exact hr
    have hA : cdA st = gI c (gI c 17 0).toNatClampNeg := by
      unfold cdA
      rw [hs 17 (by omega)]
      refine hs _ ?_
      rcases hr with e | e <;> rw [e] <;> decide
    obtain ⟨st', e1, e2, e3⟩ := wt_all (n := n) (fa6 d w k l h s) h121 P 0 n st (fun i hi => by rw [hA, Nat.zero_add]; exact hc i hi) (by omega) (by omega) ok.2.2.2 (by rw [hs 17 (by omega)]; exact hl) hr' (fun i hi => by
      rw [← hst]
      rcases (show i = 0 ∨ i = 1 ∨ i = 2 ∨ i = 3 ∨ i = 4 ∨ i = 5 by omega) with rfl | rfl | rfl | rfl | rfl | rfl <;> rfl)
    refine ⟨st', e1, fun q hq hq2 => ?_, fun q => ?_⟩
    · rw [e2 q (by omega), hs q (by omega)]
    · rw [e3 q, ← hst]; rfl
def wtV (P : LwP) (o m wh who a wi lo : Int32) : Int32 := lawL P (fX12_apart a m) wh wi lo (if who = o then 1 else 0) (if m ≤ a then 0 else 1)
theorem ab_eq {m a : Nat} (hm : m < 100000) (ha : a < 100000) : abI (nI m - nI a) = fX12_apart (nI a) (nI m) := by
  unfold abI fX12_apart
  have e := pk_sub_toInt (a := m) (b := a) (by omega) (by omega)
  have e0 : (0 : Int32).toInt = 0 := rfl
  by_cases h : a ≤ m
  · rw [if_pos (Int32.le_iff_toInt_le.mpr (by rw [e, e0]; omega))]
    by_cases h2 : m ≤ a
    · rw [if_pos (nI_le h2 (by omega)), show a = m by omega]
    · rw [if_neg (nI_ge (by omega) (by omega))]
  · rw [if_neg (fun q => by have q := Int32.le_iff_toInt_le.mp q; rw [e, e0] at q; omega), if_pos (nI_le (by omega) (by omega))]
    grind
theorem sub_le0 {m a : Nat} (hm : m < 100000) (ha : a < 100000) : (nI m - nI a ≤ 0) ↔ (nI m ≤ nI a) := by
  have e := pk_sub_toInt (a := m) (b := a) (by omega) (by omega)
  have e0 : (0 : Int32).toInt = 0 := rfl
  rw [Int32.le_iff_toInt_le, Int32.le_iff_toInt_le, e, e0, nI_toInt (by omega), nI_toInt (by omega)]
  omega
theorem c_countIf {n : Nat} (hn : 5000 < n) {c : St} {nf nl nc : Nat} {V : Nat → Nat → Int32} {P : LwP} (hv : VC c nf nl nc V P) {f i : Nat} (hf : f < 13) (hi : i < 13) {m a : Nat} (hm : V 8 f = nI m) (hm2 : m < 100000) (ha : V 11 i = nI a) (ha2 : a < 100000) (o : Int32) : ∃ c', fX6_countIf n c (nI f) o (nI i) = some (wtV P o (V 8 f) (V 9 f) (V 10 i) (V 11 i) (V 12 i) (V 13 i), c') ∧ Q2c c c' := by
  obtain ⟨-, -, -, h4, h5, h6⟩ := hv
  have g8 : gI c 11 f = nI m := (h4 8 f (by omega) hf).trans hm
  have g11 : gI c 14 i = nI a := (h4 11 i (by omega) hi).trans ha
  have g9 : gI c 12 f = V 9 f := h4 9 f (by omega) hf
  have g10 : gI c 13 i = V 10 i := h4 10 i (by omega) hi
  have g12 : gI c 15 i = V 12 i := h4 12 i (by omega) hi
  have g13 : gI c 16 i = V 13 i := h4 13 i (by omega) hi
  unfold fX6_countIf fX6_countIf_42 wtV
  rw [hm, ha]
  simp only [inB_t hf (by omega), inB_t hi (by omega), gd_true, nIc (show f < 100000 by omega), nIc (show i < 100000 by omega), bnd_x, g8, g9, g10, g11, g12, g13, ab_eq hm2 ha2, some_eta]
  have hs := sub_le0 hm2 ha2
  by_cases z : nI m ≤ nI a
  · rw [if_pos z]
    simp only [if_pos (hs.mpr z)]
    by_cases y : V 10 i = o
    · rw [if_pos y, if_pos y]
      exact c_weight hn h5 h6 _ _ _ _ _ _
    · rw [if_neg y, if_neg y]
      exact c_weight hn h5 h6 _ _ _ _ _ _
  · rw [if_neg z]
    simp only [if_neg (fun q => z (hs.mp q))]
    by_cases y : V 10 i = o
    · rw [if_pos y, if_pos y]
      exact c_weight hn h5 h6 _ _ _ _ _ _
    · rw [if_neg y, if_neg y]
      exact c_weight hn h5 h6 _ _ _ _ _ _
theorem d_gives {n : Nat} (hn : 5000 < n) {d : St} {P : List (List Tk × List Tk)} (hW : WD d (some P)) (fa : Nat → Int32) (hf : ∀ i, i < 6 → gI d 25 i = fa i) : ∃ d', fX12_gives n d 0 = some (lawF fa P, d') ∧ Q2d d d' := by
  obtain ⟨h37, ok, hM⟩ := hW
  have hL : ∀ (P : List (List Tk × List Tk)) (l p : Nat), LM d l p P → gI d 22 0 = nI (l + P.length) := by
    intro P
    induction P with
    | nil => intro l p h; exact h
    | cons q P ih =>
      intro l p h
      obtain ⟨t, b⟩ := q
      rw [ih (l + 1) _ h.2.2.2, List.length_cons]
      congr 1
      omega
  unfold fX12_gives
  rw [bnd_x, show (61 : Int32) * 0 = 0 from rfl]
  obtain ⟨d', e1, e2, e3⟩ := gv hn fa P 0 0 n P.length d hM (by rw [hL P 0 0 hM, Nat.zero_add]) (by omega) ok.2.1 (by have := ok.2.2.1; omega) ok.2.2.2 (by have := ok.2.1; omega) hf
  exact ⟨d', e1, fun q hq hq2 => e2 q (by omega), e3⟩
theorem fnd_eq {o : Int32} (ho : o = -1 ∨ ∃ k : Nat, k < 6 ∧ o = nI k) {w : Nat} (hw : w < 6) : (fnd o = nI w) ↔ (nI w = o) := by
  unfold fnd
  rcases ho with rfl | ⟨k, hk, rfl⟩
  · rw [if_neg (by decide)]
    constructor
    · intro e
      have := congrArg Int32.toInt e
      rw [nI_toInt (by omega)] at this
      have e1 : (-2 : Int32).toInt = -2 := rfl
      omega
    · intro e; exact absurd e (neg1_nI (by omega))
  · rw [if_pos (nI_pos' (by omega))]
    exact ⟨fun e => e.symm, fun e => e.symm⟩
/-- a fall as the reference has it at a place -/
def FD (d : St) (j x y : Nat) (m wh : Int32) : Prop := j < 11 ∧ x < 20 ∧ y < 20 ∧ gI d 7 j = nI x ∧ gI d 8 j = nI y ∧ gI d 9 j = m ∧ gI d 10 j = wh
theorem FD_Q {d d' : St} {j x y : Nat} {m wh : Int32} (h : FD d j x y m wh) (q : Qd d d') : FD d' j x y m wh := by
  obtain ⟨h1, h2, h3, h4, h5, h6, h7⟩ := h
  exact ⟨h1, h2, h3, by rw [q.1 7 (by omega), h4], by rw [q.1 8 (by omega), h5], by rw [q.1 9 (by omega), h6], by rw [q.1 10 (by omega), h7]⟩
set_option maxHeartbeats 1000000 in
theorem d_countsOf {n : Nat} (hn : 5000 < n) {d : St} {nf nl nc : Nat} {V : Nat → Nat → Int32} {P : LwP} (hv : VD d nf nl nc V P) (hb : VB nf nl nc V) {j x y i : Nat} {m wh : Int32} (hF : FD d j x y m wh) (hi : i < nc) : ∃ d', fX12_countsOf n d (nI j) (nI i) = some (wtV P (ownV V nf x y) m wh (V 10 i) (V 11 i) (V 12 i) (V 13 i), d') ∧ Q2d d d' := by
  obtain ⟨hj, hx, hy, f7, f8, f9, f10⟩ := hF
  have h12 := hb.2.2.1
  have hct : ∀ w, 10 ≤ w → i < ct nf nl nc w := fun w hw => by unfold ct; rw [if_neg (by omega), if_neg (by omega)]; exact hi
  have g10 : gI d 11 i = V 10 i := hv.2.2.2.1 10 i (by omega) (hct 10 (by omega))
  have g11 : gI d 12 i = V 11 i := hv.2.2.2.1 11 i (by omega) (hct 11 (by omega))
  have g12 : gI d 13 i = V 12 i := hv.2.2.2.1 12 i (by omega) (hct 12 (by omega))
  have g13 : gI d 14 i = V 13 i := hv.2.2.2.1 13 i (by omega) (hct 13 (by omega))
  obtain ⟨w, hw, -, hw2⟩ := vb_nat hb 10 i 0 5 (by omega) (hct 10 (by omega)) rfl rfl (by omega) (by omega)
  have hfn := fnd_eq (ownV_rng hb x y) (show w < 6 by omega)
  unfold fX12_countsOf
  rw [inB_t (show i < 13 by omega) (by omega), inB_t hj (by omega), gd_true, gd_true, nIc (show i < 100000 by omega), nIc (show j < 100000 by omega), bnd_x, d_finder hn hv hb hj hx hy f7 f8, Option.bind_some, gd_true, g10, g11, f9]
  have main : ∀ hh : Int32, (hh = 0 ∨ hh = 1) → ∃ d', fX12_countsOf_35 n d (nI j) (nI i) (fX12_apart (V 11 i) m) hh = some (lawL P (fX12_apart (V 11 i) m) wh (V 12 i) (V 13 i) hh (if m ≤ V 11 i then 0 else 1), d') ∧ Q2d d d' := by
    intro hh hh2
    unfold fX12_countsOf_35
    cases P with
    | none =>
      have h37 : gI d 0 37 = 0 := hv.2.2.2.2
      rw [if_pos h37, inB_t (show i < 13 by omega) (by omega), inB_t hj (by omega), gd_true, gd_true, gd_true, nIc (show i < 100000 by omega), nIc (show j < 100000 by omega), f10, g12, g13, lawL]
      rcases hh2 with rfl | rfl
      · rw [if_neg (by decide), if_pos rfl]
        refine ⟨d, ?_, Q2d_rf d⟩
        split <;> rfl
      · rw [if_pos rfl, if_neg (by decide)]
        exact ⟨d, rfl, Q2d_rf d⟩
    | some P =>
      have h37 : gI d 0 37 = 1 := hv.2.2.2.2.1
      rw [if_neg (by rw [h37]; decide), lawL]
      simp only [inB_t (show i < 13 by omega) (by omega), inB_t hj (by omega), gd_true, nIc (show i < 100000 by omega), nIc (show j < 100000 by omega), bnd_x, some_eta, gI_sIx, Nat.reduceEqDiff, reduceIte, f9, f10, g11, g12, g13]
      have out : ∀ s : Int32, ∃ d', fX12_gives n (sI (sI (sI (sI (sI (sI d 25 0 (fX12_apart (V 11 i) m)) 25 1 wh) 25 2 (V 12 i)) 25 3 (V 13 i)) 25 4 hh) 25 5 s) 0 = some (lawF (fa6 (fX12_apart (V 11 i) m) wh (V 12 i) (V 13 i) hh s) P, d') ∧ Q2d d d' := by
        intro s
        generalize hst : sI (sI (sI (sI (sI (sI d 25 0 (fX12_apart (V 11 i) m)) 25 1 wh) 25 2 (V 12 i)) 25 3 (V 13 i)) 25 4 hh) 25 5 s = st
        have hq : Q2d d st := by
          rw [← hst]
          exact Q2d_tr (Q2d_tr (Q2d_tr (Q2d_tr (Q2d_tr (Q2d_sI _ 0 _) (Q2d_sI _ 1 _)) (Q2d_sI _ 2 _)) (Q2d_sI _ 3 _)) (Q2d_sI _ 4 _)) (Q2d_sI _ 5 _)
        obtain ⟨d', e1, e2⟩ := d_gives hn (VD_Q hv (Q2d_q hq)).2.2.2.2 (fa6 (fX12_apart (V 11 i) m) wh (V 12 i) (V 13 i) hh s) (fun i' hi' => by
          rw [← hst]
          rcases (show i' = 0 ∨ i' = 1 ∨ i' = 2 ∨ i' = 3 ∨ i' = 4 ∨ i' = 5 by omega) with rfl | rfl | rfl | rfl | rfl | rfl <;> rfl)
        exact ⟨d', e1, Q2d_tr hq e2⟩
      by_cases z : m ≤ V 11 i
      · rw [if_pos z, if_pos z]
        exact out 0
      · rw [if_neg z, if_neg z]
        exact out 1
  unfold wtV
  rw [hw]
  by_cases z : fnd (ownV V nf x y) = nI w
  · rw [if_pos z, if_pos (hfn.mp z)]
    exact main 1 (Or.inr rfl)
  · rw [if_neg z, if_neg (fun q => z (hfn.mpr q))]
    exact main 0 (Or.inl rfl)
/-- a fall's numbers -/
theorem fall_nat {nf nl nc : Nat} {V : Nat → Nat → Int32} (hb : VB nf nl nc V) {f : Nat} (hf : f < nl) : ∃ x y m : Nat, x < 20 ∧ y < 20 ∧ m < 1000 ∧ V 6 f = nI x ∧ V 7 f = nI y ∧ V 8 f = nI m := by
  have hct : ∀ w, 6 ≤ w → w < 10 → f < ct nf nl nc w := fun w hw hw2 => by unfold ct; rw [if_neg (by omega), if_pos (by omega)]; exact hf
  obtain ⟨x, x1, -, x2⟩ := vb_nat hb 6 f 0 19 (by omega) (hct 6 (by omega) (by omega)) rfl rfl (by omega) (by omega)
  obtain ⟨y, y1, -, y2⟩ := vb_nat hb 7 f 0 19 (by omega) (hct 7 (by omega) (by omega)) rfl rfl (by omega) (by omega)
  obtain ⟨m, m1, -, m2⟩ := vb_nat hb 8 f 0 999 (by omega) (hct 8 (by omega) (by omega)) rfl rfl (by omega) (by omega)
  exact ⟨x, y, m, by omega, by omega, by omega, x1, y1, m1⟩
theorem cry_nat {nf nl nc : Nat} {V : Nat → Nat → Int32} (hb : VB nf nl nc V) {i : Nat} (hi : i < nc) : ∃ w a : Nat, w < 6 ∧ a < 1000 ∧ V 10 i = nI w ∧ V 11 i = nI a := by
  have hct : ∀ w, 10 ≤ w → i < ct nf nl nc w := fun w hw => by unfold ct; rw [if_neg (by omega), if_neg (by omega)]; exact hi
  obtain ⟨w, w1, -, w2⟩ := vb_nat hb 10 i 0 5 (by omega) (hct 10 (by omega)) rfl rfl (by omega) (by omega)
  obtain ⟨a, a1, -, a2⟩ := vb_nat hb 11 i 0 999 (by omega) (hct 11 (by omega)) rfl rfl (by omega) (by omega)
  exact ⟨w, a, by omega, by omega, w1, a1⟩
theorem FD_of {d : St} {nf nl nc : Nat} {V : Nat → Nat → Int32} {P : LwP} (hv : VD d nf nl nc V P) (hb : VB nf nl nc V) {f x y : Nat} (hf : f < nl) (hx : x < 20) (hy : y < 20) (h6 : V 6 f = nI x) (h7 : V 7 f = nI y) : FD d f x y (V 8 f) (V 9 f) := by
  have hct : ∀ w, 6 ≤ w → w < 10 → f < ct nf nl nc w := fun w hw hw2 => by unfold ct; rw [if_neg (by omega), if_pos (by omega)]; exact hf
  have := hb.2.1
  exact ⟨by omega, hx, hy, (hv.2.2.2.1 6 f (by omega) (hct 6 (by omega) (by omega))).trans h6, (hv.2.2.2.1 7 f (by omega) (hct 7 (by omega) (by omega))).trans h7, hv.2.2.2.1 8 f (by omega) (hct 8 (by omega) (by omega)), hv.2.2.2.1 9 f (by omega) (hct 9 (by omega) (by omega))⟩
/-- the finder of a fall, class -/
theorem c_under {n : Nat} (hn : 5000 < n) {c : St} {nf nl nc : Nat} {V : Nat → Nat → Int32} {P : LwP} (hv : VC c nf nl nc V P) (hb : VB nf nl nc V) {f x y : Nat} (hf : f < 13) (hx : x < 20) (hy : y < 20) (h6 : V 6 f = nI x) (h7 : V 7 f = nI y) : fX3_fieldUnder n c (nI f) = some (fR (-1) (fldV V x y nf 0)) := by
  unfold fX3_fieldUnder
  rw [inB_t hf (by omega), gd_true, gd_true, nIc (by omega), show gI c 9 f = nI x from (hv.2.2.2.1 6 f (by omega) hf).trans h6, show gI c 10 f = nI y from (hv.2.2.2.1 7 f (by omega) hf).trans h7, c_fieldAt hn hv hb hx hy]
  rfl
/-- a fall and a cry -/
theorem fc_in {a : Int32} {nl nc : Nat} (h1 : nl ≤ 10) (h2 : nc ≤ 12) (h0 : ¬ a < 0) (hf : 0 ≤ a / 100 ∧ a / 100 ≤ nI nl - 1) : ∃ f i : Nat, f < nl ∧ i < 100 ∧ a / 100 = nI f ∧ rmI a 100 = nI i := by
  obtain ⟨k, hk, rfl⟩ := nI_of h0
  have e1 : nI k / 100 = nI (k / 100) := pk_div (d := 100) hk (by omega) (by omega)
  have e2 : rmI (nI k) 100 = nI (k % 100) := pk_rem (d := 100) hk (by omega) (by omega)
  rw [e1] at hf ⊢
  rw [e2]
  obtain ⟨f, hf1, hf2⟩ := (cnt_in _ (by omega)).mp hf
  have : k / 100 = f := (nI_eq (by omega) (by omega)).mp hf2
  exact ⟨k / 100, k % 100, by omega, by omega, rfl, rfl⟩
set_option maxHeartbeats 1000000 in
theorem fc_ask {c d : St} {nf nl nc : Nat} {V V' : Nat → Nat → Int32} {P P' : LwP} (hc : VC c nf nl nc V P) (hd : VD d nf nl nc V' P') (hb : VB nf nl nc V) (a : Int32) : (fX11_isFallAndCry c a = false ∧ (a < 0 ∨ fX12_isFall d (a / 100) = false ∨ (¬ a < 0 ∧ fX12_isFall d (a / 100) = true ∧ fX12_isCry d (rmI a 100) = false))) ∨ (fX11_isFallAndCry c a = true ∧ ¬ a < 0 ∧ fX12_isFall d (a / 100) = true ∧ fX12_isCry d (rmI a 100) = true ∧ ∃ f i : Nat, f < nl ∧ i < nc ∧ a / 100 = nI f ∧ rmI a 100 = nI i) := by
  unfold fX11_isFallAndCry fX11_isFall fX12_isFall fX12_isCry
  have h10 := hb.2.1
  have h12 := hb.2.2.1
  rw [hc.2.1, hc.2.2.1, hd.2.1, hd.2.2.1, isW, isI, isI]
  simp only [if_bI]
  by_cases h0 : a < 0
  · rw [if_pos h0]
    exact Or.inl ⟨rfl, Or.inl h0⟩
  rw [if_neg h0]
  by_cases h1 : 0 ≤ a / 100 ∧ a / 100 ≤ nI nl - 1
  · rw [decide_eq_true h1]
    obtain ⟨f, i, f1, i1, e1, e2⟩ := fc_in h10 h12 h0 h1
    rw [e2]
    by_cases h2 : i < nc
    · rw [if_neg (nI_ge h2 (by omega)), decide_eq_true ((cnt_in (nI i) (by omega)).mpr ⟨i, h2, rfl⟩)]
      exact Or.inr ⟨rfl, h0, rfl, rfl, f, i, f1, h2, e1, rfl⟩
    · rw [if_pos (nI_le (by omega) (by omega)), decide_eq_false (fun q => by
        obtain ⟨j, hj, ej⟩ := (cnt_in (nI i) (by omega)).mp q
        rw [nIeq (by omega) (by omega)] at ej
        omega)]
      exact Or.inl ⟨rfl, Or.inr (Or.inr ⟨h0, rfl, rfl⟩)⟩
  · rw [decide_eq_false h1]
    exact Or.inl ⟨rfl, Or.inr (Or.inl rfl)⟩
theorem s_counts {n : Nat} (hn : 5000 < n) : S_counts Rel n := by
  intro c d a1 h
  obtain ⟨nf, nl, nc, P, hc, hd, hb⟩ := views h
  unfold fX11_counts fX12_counts
  simp only [if_bI, some_eta]
  rcases fc_ask hc hd hb a1 with ⟨q1, q2⟩ | ⟨q1, q2, q3, q4, f, i, f1, i1, e1, e2⟩
  · rw [q1]
    refine ⟨_, _, _, rfl, ?_, h⟩
    rcases q2 with q2 | q2 | ⟨q2, q3, q4⟩
    · rw [if_pos q2]
    · rw [q2]
      split <;> rfl
    · rw [if_neg q2, q3, q4]
      rfl
  · rw [q1, if_neg q2, q3, q4, e1, e2]
    simp only [cond_true]
    obtain ⟨x, y, m, hx, hy, hm, v6, v7, v8⟩ := fall_nat hb f1
    obtain ⟨w, a, hw, ha, v10, v11⟩ := cry_nat hb i1
    have h10 := hb.2.1
    have h12 := hb.2.2.1
    obtain ⟨d', y1, y2⟩ := d_countsOf hn hd hb (FD_of hd hb f1 hx hy v6 v7) i1
    unfold fX6_countOf
    rw [c_under hn hc hb (by omega) hx hy v6 v7, Option.bind_some, c_owner hc hb, Option.bind_some, some_eta]
    obtain ⟨c', z1, z2⟩ := c_countIf hn hc (show f < 13 by omega) (show i < 13 by omega) v8 (by omega) v11 (by omega) (ownV (fun w j => gI c (3 + w) j) nf x y)
    exact ⟨_, c', d', z1, y1, Rel_Q h (Q2c_q z2) (Q2d_q y2)⟩
