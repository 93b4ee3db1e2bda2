theorem i32_asy {a b : Int32} (h : a ≤ b) (h2 : b ≤ a) : a = b := by
  rcases i32_cmp a b with q | q | q
  · exact absurd h2 (fun z => fa_nle q z)
  · exact q
  · exact absurd h (fun z => fa_nle q z)
/-- a cry has the fall if it counts, and none of the others counts more -/
theorem mx_has {g g' : Nat → Int32} {ci nc : Nat} (hci : ci < nc) (h : ∀ i, i < nc → i ≠ ci → g' i = g i) (h0 : g ci = 0) : (0 < mx g' nc ∧ g' ci = mx g' nc) ↔ (0 < g' ci ∧ mx g nc ≤ g' ci) := by
  obtain ⟨a1, a2, a3, -⟩ := hv_all g' nc
  obtain ⟨b1, b2, b3, -⟩ := hv_all g nc
  constructor
  · rintro ⟨q1, q2⟩
    rw [q2]
    refine ⟨q1, ?_⟩
    rcases b3 with b3 | ⟨i, hi, b3⟩
    · rw [b3]; exact i32_ltle' q1
    · rw [← b3]
      by_cases e : i = ci
      · rw [e, h0]; exact i32_ltle' q1
      · rw [← h i hi e]; exact a2 i hi
  · rintro ⟨q1, q2⟩
    have q3 := a2 ci hci
    have q4 : g' ci = mx g' nc := by
      rcases a3 with a3 | ⟨i, hi, a3⟩
      · exact i32_asy q3 (by rw [a3]; exact i32_ltle' q1)
      · refine i32_asy q3 ?_
        rw [← a3]
        by_cases e : i = ci
        · rw [e]; exact i32_rf _
        · rw [h i hi e]; exact i32_lele (b2 i hi) q2
    exact ⟨by rw [← q4]; exact q1, q4⟩
def modV (V : Nat → Nat → Int32) (w ci : Nat) (v : Int32) : Nat → Nat → Int32 := fun a j => if a = w ∧ j = ci then v else V a j
theorem mod_n {V : Nat → Nat → Int32} {w ci : Nat} {v : Int32} {a j : Nat} (h : ¬ (a = w ∧ j = ci)) : modV V w ci v a j = V a j := if_neg h
theorem mod_y {V : Nat → Nat → Int32} {w ci : Nat} {v : Int32} : modV V w ci v w ci = v := if_pos ⟨rfl, rfl⟩
theorem mod_f {V : Nat → Nat → Int32} {w ci : Nat} {v : Int32} {a : Nat} (h : a ≠ w) : modV V w ci v a = V a := funext fun j => mod_n (fun q => h q.1)
theorem mod_VB {nf nl nc w ci : Nat} {V : Nat → Nat → Int32} {v : Int32} (hb : VB nf nl nc V) (h : tb tLEAST w ≤ v ∧ v ≤ tb tMOST w) : VB nf nl nc (modV V w ci v) := by
  refine ⟨hb.1, hb.2.1, hb.2.2.1, fun a j ha hj => ?_⟩
  by_cases q : a = w ∧ j = ci
  · rw [q.1, q.2, mod_y]; exact h
  · rw [mod_n q]; exact hb.2.2.2 a j ha hj
theorem mod_VD {d : St} {nf nl nc w ci : Nat} {V : Nat → Nat → Int32} {P : LwP} {v : Int32} (hv : VD d nf nl nc V P) (hw : w < 14) : VD (sI d (1 + w) ci v) nf nl nc (modV V w ci v) P := by
  have hs : ∀ q, q ≠ 1 + w → gI (sI d (1 + w) ci v) q = gI d q := fun q hq => by rw [gI_sIx, if_neg hq]
  refine VD_fr hv (hs 0 (by omega)) (hs 20 (by omega)) (hs 21 (by omega)) (hs 22 (by omega)) (hs 23 (by omega)) (hs 24 (by omega)) (fun a j ha hj => ?_)
  rw [gIp]
  by_cases q : a = w ∧ j = ci
  · rw [if_pos (by omega), q.1, q.2, mod_y]
  · rw [if_neg (by omega), mod_n q]
    exact hv.2.2.2.1 a j ha hj
theorem mod_VC {c : St} {nf nl nc w ci : Nat} {V : Nat → Nat → Int32} {P : LwP} {v : Int32} (hv : VC c nf nl nc V P) (hw : w < 14) : VC (sI c (3 + w) ci v) nf nl nc (modV V w ci v) P := by
  have hs : ∀ q, q ≠ 3 + w → gI (sI c (3 + w) ci v) q = gI c q := fun q hq => by rw [gI_sIx, if_neg hq]
  refine VC_fr hv (hs 1 (by omega)) (hs 17 (by omega)) (hs 18 (by omega)) (hs 23 (by omega)) (fun a j ha hj => ?_)
  rw [gIp]
  by_cases q : a = w ∧ j = ci
  · rw [if_pos (by omega), q.1, q.2, mod_y]
  · rw [if_neg (by omega), mod_n q]
    exact hv.2.2.2.1 a j ha hj
theorem fld_c {V V' : Nat → Nat → Int32} (h : ∀ a, a < 6 → V' a = V a) (x y : Nat) : ∀ m f, fldV V' x y m f = fldV V x y m f := by
  intro m
  induction m with
  | zero => intro f; rfl
  | succ m ih =>
    intro f
    rw [fldV, fldV, ih (f + 1)]
    unfold hitV
    rw [h 0 (by omega), h 1 (by omega), h 2 (by omega), h 3 (by omega)]
theorem own_c {V V' : Nat → Nat → Int32} (h : ∀ a, a < 6 → V' a = V a) (nf x y : Nat) : ownV V' nf x y = ownV V nf x y := by
  unfold ownV
  rw [fld_c h, h 4 (by omega)]
/-- whether a cry has a fall, in the reference, with one number of that cry told anew -/
theorem d_hasIt {n : Nat} (hn : 5000 < n) {d : St} {nf nl nc w ci : Nat} {V : Nat → Nat → Int32} {P : LwP} {v : Int32} (hw : 10 ≤ w) (hv : VD d nf nl nc (modV V w ci v) P) (hb : VB nf nl nc (modV V w ci v)) {f x y : Nat} (hf : f < nl) (hci : ci < nc) (hx : x < 20) (hy : y < 20) (v6 : V 6 f = nI x) (v7 : V 7 f = nI y) : ∃ d', fX12_hasIt n d (nI f) (nI ci) = some (decide (0 < wtV P (ownV V nf x y) (V 8 f) (V 9 f) (modV V w ci v 10 ci) (modV V w ci v 11 ci) (modV V w ci v 12 ci) (modV V w ci v 13 ci) ∧ mx (gW P V (ownV V nf x y) (V 8 f) (V 9 f) (nI ci)) nc ≤ wtV P (ownV V nf x y) (V 8 f) (V 9 f) (modV V w ci v 10 ci) (modV V w ci v 11 ci) (modV V w ci v 12 ci) (modV V w ci v 13 ci)), d') ∧ Q2d d d' := by
  have h12 := hb.2.2.1
  have e8 : modV V w ci v 8 f = V 8 f := mod_n (by omega)
  have e9 : modV V w ci v 9 f = V 9 f := mod_n (by omega)
  have hF := FD_of hv hb hf hx hy ((mod_n (by omega)).trans v6) ((mod_n (by omega)).trans v7)
  rw [e8, e9] at hF
  obtain ⟨d', e1, e2⟩ := d_haveIt hn hv hb hF
  rw [own_c (V := V) (fun a ha => mod_f (by omega))] at e1
  obtain ⟨b1, -⟩ := bt_12 (gA P (modV V w ci v) (ownV V nf x y) (V 8 f) (V 9 f)) h12
  obtain ⟨-, -, -, b4, -⟩ := hv_all (gA P (modV V w ci v) (ownV V nf x y) (V 8 f) (V 9 f)) nc
  have key := mx_has (g := gW P V (ownV V nf x y) (V 8 f) (V 9 f) (nI ci)) (g' := gA P (modV V w ci v) (ownV V nf x y) (V 8 f) (V 9 f)) hci (fun i hi e => by
    unfold gA gW
    rw [if_neg (fun q => e (by rw [nIeq (by omega) (by omega)] at q; exact q)), mod_n (fun q => e q.2), mod_n (fun q => e q.2), mod_n (fun q => e q.2), mod_n (fun q => e q.2)]) (by unfold gW; rw [if_pos rfl])
  unfold fX12_hasIt
  rw [e1, Option.bind_some, bit_at (by omega) (by omega)]
  refine ⟨d', ?_, e2⟩
  by_cases z : (bt (gA P (modV V w ci v) (ownV V nf x y) (V 8 f) (V 9 f)) nc).testBit ci = true
  · rw [if_pos (bit_1.mpr z)]
    rw [b4, decide_eq_true_eq] at z
    exact congrArg (fun b => some (b, d')) (decide_eq_true (key.mp z.2)).symm
  · rw [if_neg (fun q => z (bit_1.mp q))]
    rw [b4, decide_eq_true_eq] at z
    exact congrArg (fun b => some (b, d')) (decide_eq_false (fun q => z ⟨hci, key.mpr q⟩)).symm
/-- scratch and the places behind falls and cries -/
def QC (c c' : St) : Prop := (∀ k i, ¬ (k = 19 ∨ k = 20 ∨ (24 ≤ k ∧ k ≤ 38)) → ¬ (13 ≤ k ∧ k ≤ 16 ∧ i = 12) → ¬ (9 ≤ k ∧ k ≤ 12 ∧ i = 10) → gI c' k i = gI c k i) ∧ ∀ k, gL c' k = gL c k
theorem QC_q {c c' : St} (h : Qc c c') : QC c c' := ⟨fun k i q _ _ => by rw [h.1 k q], h.2⟩
theorem QC_tr {a b c : St} (h1 : QC a b) (h2 : QC b c) : QC a c := ⟨fun k i p q r => (h2.1 k i p q r).trans (h1.1 k i p q r), fun k => (h2.2 k).trans (h1.2 k)⟩
theorem QC_sI (c : St) (k i : Nat) (v : Int32) (hk : (13 ≤ k ∧ k ≤ 16 ∧ i = 12) ∨ (9 ≤ k ∧ k ≤ 12 ∧ i = 10)) : QC c (sI c k i v) := ⟨fun a b _ q r => by rw [gIp, if_neg (by omega)], fun _ => rfl⟩
theorem Rel_QC {c c' d d' : St} (h : Rel c d) (hc : QC c c') (hd : Qd d d') : Rel c' d' := by
  refine Rel_fr h (fun k i q => hc.1 k i ?_ ?_ ?_) (fun k i q => ?_) (fun k _ _ => hc.2 k) (hd.2 41)
  · unfold fAc fLc fpL fCc fDc fIc fBc fSc fTc fWc at q; omega
  · unfold fAc fLc fpL fCc fDc fIc fBc fSc fTc fWc at q; omega
  · unfold fAc fLc fpL fCc fDc fIc fBc fSc fTc fWc at q; omega
  · rw [hd.1 k (by unfold fAd fLd fpL fCd fDd fId fBd fSd fTd fWd at q; omega)]
/-- the thought cry is laid -/
def thV (V : Nat → Nat → Int32) (a b c d : Int32) : Nat → Nat → Int32 := modV (modV (modV (modV V 10 12 a) 11 12 b) 12 12 c) 13 12 d
theorem c_place {c : St} {nf nl nc : Nat} {V : Nat → Nat → Int32} {P : LwP} (hv : VC c nf nl nc V P) (a b e d : Int32) : ∃ c', fX3_placeCry c 12 a b e d = some c' ∧ VC c' nf nl nc (thV V a b e d) P ∧ QC c c' ∧ (∀ q, 17 ≤ q → gI c' q = gI c q) := by
  unfold fX3_placeCry
  rw [show inB 12 13 = true by decide, show (12 : Int32).toNatClampNeg = 12 from rfl]
  simp only [gd_true, bnd_x]
  refine ⟨_, rfl, mod_VC (mod_VC (mod_VC (mod_VC hv (w := 10) (by omega)) (w := 11) (by omega)) (w := 12) (by omega)) (w := 13) (by omega), QC_tr (QC_tr (QC_tr (QC_sI _ 13 12 _ (by omega)) (QC_sI _ 14 12 _ (by omega))) (QC_sI _ 15 12 _ (by omega))) (QC_sI _ 16 12 _ (by omega)), fun q hq => ?_⟩
  rw [gI_sIx, if_neg (by omega), gI_sIx, if_neg (by omega), gI_sIx, if_neg (by omega), gI_sIx, if_neg (by omega)]
theorem c_think {c : St} {nf nl nc : Nat} {V : Nat → Nat → Int32} {P : LwP} (hv : VC c nf nl nc V P) {i : Nat} (hi : i < 13) : ∃ c', fX3_thinkOf c (nI i) = some c' ∧ VC c' nf nl nc (thV V (V 10 i) (V 11 i) (V 12 i) (V 13 i)) P ∧ QC c c' ∧ (∀ q, 17 ≤ q → gI c' q = gI c q) := by
  unfold fX3_thinkOf
  simp only [inB_t hi (by omega), gd_true, nIc (show i < 100000 by omega), some_eta1]
  rw [show gI c 13 i = V 10 i from hv.2.2.2.1 10 i (by omega) hi, show gI c 14 i = V 11 i from hv.2.2.2.1 11 i (by omega) hi, show gI c 15 i = V 12 i from hv.2.2.2.1 12 i (by omega) hi, show gI c 16 i = V 13 i from hv.2.2.2.1 13 i (by omega) hi]
  exact c_place hv _ _ _ _
/-- the thought cry, weighed against the most of the others -/
theorem c_thas {n : Nat} (hn : 5000 < n) {c : St} {nf nl nc : Nat} {V : Nat → Nat → Int32} {P : LwP} (hv : VC c nf nl nc V P) {f m a : Nat} (hf : f < 13) (hm : V 8 f = nI m) (hm2 : m < 100000) (ha : V 11 12 = nI a) (ha2 : a < 100000) (o M : Int32) (hM : gI c 24 1 = M) : ∃ c', fX9_thoughtHas n c (nI f) o = some (decide (0 < wtV P o (V 8 f) (V 9 f) (V 10 12) (V 11 12) (V 12 12) (V 13 12) ∧ M ≤ wtV P o (V 8 f) (V 9 f) (V 10 12) (V 11 12) (V 12 12) (V 13 12)), c') ∧ Q2c c c' := by
  obtain ⟨c', e1, e2⟩ := c_countIf hn hv hf (show 12 < 13 by omega) hm hm2 ha ha2 o
  unfold fX9_thoughtHas
  rw [show (12 : Int32) = nI 12 from rfl, e1, Option.bind_some, e2.1 24 (by omega) (by omega), hM]
  refine ⟨c', ?_, e2⟩
  generalize wtV P o (V 8 f) (V 9 f) (V 10 12) (V 11 12) (V 12 12) (V 13 12) = t
  by_cases z1 : t ≤ 0
  · rw [if_pos z1, decide_eq_false (fun q => fa_nle q.1 z1)]
  · rw [if_neg z1]
    by_cases z2 : t < M
    · rw [if_pos z2, decide_eq_false (fun q => fa_nle z2 q.2)]
    · rw [if_neg z2, decide_eq_true ⟨i32_nle z1, fa_nlt z2⟩]
