theorem s_count (n : Nat) : S_count Rel n := by
  intro c d a1 h
  refine ⟨fX11_count c a1, c, d, ⟨rfl, rfl⟩, ⟨?_, rfl⟩, h⟩
  obtain ⟨⟨⟨nf, _, f2, f3⟩, ⟨nl, _, l2, l3⟩, ⟨nc, _, c2, c3⟩, _⟩, ⟨nd, nu, _, d2, d3, _⟩, _, _, ⟨⟨nb, _, b2, b3, _⟩, nr, _, r2, r3, _⟩, _, ⟨nt, _, t2, t3, _⟩, _⟩ := h
  unfold fX11_count fX12_count
  rw [f2, f3, l2, l3, c2, c3, d2, d3, b2, b3, r2, r3, t2, t3]
theorem if_bI {α : Type} (b : Bool) (x y : α) : (if bI b = 0 then x else y) = cond b y x := by cases b <;> rfl
theorem tdiv_pos (a : Int) (k : Nat) (h : 0 ≤ a) : 0 ≤ a.tdiv k ∧ a.tdiv k ≤ a := by
  rw [Int.tdiv_eq_ediv_of_nonneg h]
  exact ⟨Int.ediv_nonneg h (Int.natCast_nonneg k), Int.ediv_le_self _ h⟩
theorem tdiv_neg (a : Int) (k : Nat) (h : a < 0) : a ≤ a.tdiv k ∧ a.tdiv k ≤ 0 := by
  have h2 := tdiv_pos (-a) k (by omega)
  rw [Int.neg_tdiv] at h2
  omega
/-- toInt of what a division by a written number gives -/
theorem div_toInt (x : Int32) {k : Nat} (hk : k < 1000) : (x / nI k).toInt = x.toInt.tdiv k := by
  rw [Int32.toInt_div, nI_toInt (by omega)]
  have h1 := Int32.toInt_lt x
  have h2 := Int32.le_toInt x
  by_cases h : 0 ≤ x.toInt
  · have := tdiv_pos x.toInt k h
    rw [Int.bmod_eq_of_le (by omega) (by omega)]
  · have := tdiv_neg x.toInt k (by omega)
    rw [Int.bmod_eq_of_le (by omega) (by omega)]
theorem size_eq (a : Int32) : fX11_isSize a = fX12_areSides a := by
  unfold fX11_isSize fX12_areSides
  by_cases h : a < 0
  · rw [if_pos h, isW]
    have hn : ¬ (1 ≤ a / 100 ∧ a / 100 ≤ 20) := fun q => by
      have q1 := Int32.le_iff_toInt_le.mp q.1
      have q3 : a.toInt < 0 := Int32.lt_iff_toInt_lt.mp h
      have q4 : a.toInt ≤ a.toInt.tdiv 100 ∧ a.toInt.tdiv 100 ≤ 0 := tdiv_neg a.toInt 100 q3
      have e1 : (1 : Int32).toInt = 1 := rfl
      have e2 : (a / 100).toInt = a.toInt.tdiv 100 := div_toInt a (k := 100) (by omega)
      omega
    rw [decide_eq_false hn]
    rfl
  · rw [if_neg h]
    rfl
theorem cell_in {a : Int32} (h : fX11_isCell a = true) : ∃ k : Nat, k < 400 ∧ a = nI k := by
  unfold fX11_isCell at h
  rw [isW, decide_eq_true_eq] at h
  obtain ⟨j, hj, e⟩ := (in_nat (n := 399) rfl (by omega)).mp h
  exact ⟨j, by omega, e⟩
theorem rm_nI {a d : Nat} (ha : a < 100000) (h0 : 0 < d) (hd : d < 1000) : rmI (nI a) (nI d) = nI (a % d) := pk_rem (by omega) h0 (by omega)
theorem dv_nI {a d : Nat} (ha : a < 100000) (h0 : 0 < d) (hd : d < 1000) : nI a / nI d = nI (a / d) := pk_div (by omega) h0 (by omega)
theorem in_1 {x m : Int32} {n : Nat} (hm : m = nI n) (hn : n < 100000) (h : 1 ≤ x ∧ x ≤ m) : ∃ w : Nat, 1 ≤ w ∧ w ≤ n ∧ x = nI w := by
  have p1 : 1 ≤ x.toInt := Int32.le_iff_toInt_le.mp h.1
  have p0 : (0 : Int32) ≤ x := Int32.le_iff_toInt_le.mpr (by have e0 : (0 : Int32).toInt = 0 := rfl; omega)
  obtain ⟨j, hj, e⟩ := (in_nat (v := x) (m := m) (n := n) hm hn).mp ⟨p0, h.2⟩
  refine ⟨j, ?_, hj, e⟩
  rw [e, nI_toInt (by omega)] at p1
  omega
/-- a size: both sides 1 to 20 -/
theorem size_in {a : Int32} (h : fX12_areSides a = true) : ∃ w d : Nat, 1 ≤ w ∧ w ≤ 20 ∧ 1 ≤ d ∧ d ≤ 20 ∧ a / 100 = nI w ∧ rmI a 100 = nI d := by
  unfold fX12_areSides at h
  by_cases h0 : a < 0
  · rw [if_pos h0] at h; cases h
  rw [if_neg h0, isI, isI] at h
  simp only [if_bI] at h
  by_cases h1 : (1 ≤ a / 100 ∧ a / 100 ≤ 20)
  · by_cases h2 : (1 ≤ rmI a 100 ∧ rmI a 100 ≤ 20)
    · obtain ⟨w, w1, w2, w3⟩ := in_1 (n := 20) rfl (by omega) h1
      obtain ⟨d, d1, d2, d3⟩ := in_1 (n := 20) rfl (by omega) h2
      exact ⟨w, d, w1, w2, d1, d2, w3, d3⟩
    · rw [decide_eq_true h1, decide_eq_false h2] at h; cases h
  · rw [decide_eq_false h1] at h; cases h
theorem some_eta (o : Option (Int32 × St)) : o.bind (fun r => some (r.1, r.2)) = o := by cases o <;> rfl
theorem some_eta1 {α : Type} (o : Option α) : o.bind (fun r => some r) = o := by cases o <;> rfl
/-- the reference's cells of numbers: 1 + w -/
theorem w14 {w : Nat} (h : w < 14) : w = 0 ∨ w = 1 ∨ w = 2 ∨ w = 3 ∨ w = 4 ∨ w = 5 ∨ w = 6 ∨ w = 7 ∨ w = 8 ∨ w = 9 ∨ w = 10 ∨ w = 11 ∨ w = 12 ∨ w = 13 := by omega
theorem tb_le {w : Nat} {l m : List Int32} (j : Nat) (h : tb l w ≤ nI j ∧ nI j ≤ tb m w) : tb l w ≤ nI j ∧ nI j ≤ tb m w := h
/-- one more field, fall or cry -/
theorem RLa_new {c c' d d' : St} (h : RLa c d) (lo hi s ds n cap : Nat) (hfam : (lo = 0 ∧ hi = 6 ∧ s = 1 ∧ ds = 1 ∧ cap = 8) ∨ (lo = 6 ∧ hi = 10 ∧ s = 2 ∧ ds = 8 ∧ cap = 10) ∨ (lo = 10 ∧ hi = 14 ∧ s = 3 ∧ ds = 13 ∧ cap = 12)) (hn : gI c 1 s = nI n) (hcap : n < cap) (h1 : gI c' 1 s = nI (n + 1)) (h2 : gI d' 0 ds = nI (n + 1)) (h3 : ∀ i, 1 ≤ i → i ≤ 3 → i ≠ s → gI c' 1 i = gI c 1 i) (h4 : ∀ i, (i = 1 ∨ i = 8 ∨ i = 13) → i ≠ ds → gI d' 0 i = gI d 0 i) (h5 : ∀ w, lo ≤ w → w < hi → gI d' (1 + w) n = gI c' (3 + w) n ∧ tb tLEAST w ≤ gI c' (3 + w) n ∧ gI c' (3 + w) n ≤ tb tMOST w) (h6 : ∀ w j, w < 14 → j < 13 → ¬ (lo ≤ w ∧ w < hi ∧ j = n) → gI c' (3 + w) j = gI c (3 + w) j) (h7 : ∀ w j, w < 14 → j < 13 → ¬ (lo ≤ w ∧ w < hi ∧ j = n) → gI d' (1 + w) j = gI d (1 + w) j) : RLa c' d' := by
  obtain ⟨⟨nf, f1, f2, f3⟩, ⟨nl, l1, l2, l3⟩, ⟨nc, c1, c2, c3⟩, hv⟩ := h
  have main : ∀ w j : Nat, w < 14 → j < 13 → nI j < gI c' 1 (cs w) → gI d' (1 + w) j = gI c' (3 + w) j ∧ tb tLEAST w ≤ gI c' (3 + w) j ∧ gI c' (3 + w) j ≤ tb tMOST w := by
    intro w j hw hj hlt
    by_cases e : lo ≤ w ∧ w < hi ∧ j = n
    · obtain ⟨e1, e2, rfl⟩ := e
      exact h5 w e1 e2
    · rw [h6 w j hw hj e, h7 w j hw hj e]
      refine hv w j hw hj ?_
      by_cases es : cs w = s
      · rw [es, h1, nIlt (by omega) (by omega)] at hlt
        rw [es, hn, nIlt (by omega) (by omega)]
        have : lo ≤ w ∧ w < hi := by
          unfold cs at es
          split at es
          · omega
          · split at es <;> omega
        omega
      · have := cs_in w
        rw [h3 (cs w) (by omega) (by omega) es] at hlt
        exact hlt
  rcases hfam with ⟨rfl, rfl, rfl, rfl, rfl⟩ | ⟨rfl, rfl, rfl, rfl, rfl⟩ | ⟨rfl, rfl, rfl, rfl, rfl⟩
  · exact ⟨⟨n + 1, by omega, h1, h2⟩, ⟨nl, l1, by rw [h3 2 (by omega) (by omega) (by omega), l2], by rw [h4 8 (by omega) (by omega), l3]⟩, ⟨nc, c1, by rw [h3 3 (by omega) (by omega) (by omega), c2], by rw [h4 13 (by omega) (by omega), c3]⟩, main⟩
  · exact ⟨⟨nf, f1, by rw [h3 1 (by omega) (by omega) (by omega), f2], by rw [h4 1 (by omega) (by omega), f3]⟩, ⟨n + 1, by omega, h1, h2⟩, ⟨nc, c1, by rw [h3 3 (by omega) (by omega) (by omega), c2], by rw [h4 13 (by omega) (by omega), c3]⟩, main⟩
  · exact ⟨⟨nf, f1, by rw [h3 1 (by omega) (by omega) (by omega), f2], by rw [h4 1 (by omega) (by omega), f3]⟩, ⟨nl, l1, by rw [h3 2 (by omega) (by omega) (by omega), l2], by rw [h4 8 (by omega) (by omega), l3]⟩, ⟨n + 1, by omega, h1, h2⟩, main⟩
theorem cle_new {c c' : St} (s n : Nat) (hn : gI c 1 s = nI n) (hcap : n < 100) (h1 : gI c' 1 s = nI (n + 1)) (h3 : ∀ i, 1 ≤ i → i ≤ 3 → i ≠ s → gI c' 1 i = gI c 1 i) : cle c c' := fun i a b => by
  by_cases e : i = s
  · rw [e, hn, h1, nIle (by omega) (by omega)]
    omega
  · rw [h3 i a b e]
    exact i32_rf _
set_option maxHeartbeats 4000000 in
theorem s_field (n : Nat) : S_field Rel n := by
  intro c d a1 a2 h
  obtain ⟨hL, hC, hD, hI, hB, hS, hT, hW⟩ := id h
  obtain ⟨⟨nf, f1, f2, f3⟩, hl2, hc2, hv⟩ := id hL
  unfold fX11_field fX12_field
  rw [size_eq, show fX12_in a1 0 399 = fX11_isCell a1 from rfl, f2, f3]
  simp only [if_bI, some_eta]
  cases h1 : fX11_isCell a1 with
  | false => exact ⟨_, _, _, rfl, rfl, h⟩
  | true =>
  cases h2 : fX12_areSides a2 with
  | false => exact ⟨_, _, _, rfl, rfl, h⟩
  | true =>
  simp only [cond_true]
  by_cases h3 : nI nf = (8 : Int32)
  · rw [if_pos h3, if_pos h3]
    exact ⟨_, _, _, rfl, rfl, h⟩
  rw [if_neg h3, if_neg h3]
  have h8 : nf < 8 := by
    have : ¬ nf = 8 := fun e => h3 (by rw [e]; rfl)
    omega
  obtain ⟨k, hk, rfl⟩ := cell_in h1
  obtain ⟨w, de, w1, w2, d1, d2, e1, e2⟩ := size_in h2
  unfold fX3_addField
  rw [e1, e2, show rmI (nI k) 20 = nI (k % 20) from rm_nI (a := k) (d := 20) (by omega) (by omega) (by omega), show nI k / 20 = nI (k / 20) from dv_nI (a := k) (d := 20) (by omega) (by omega) (by omega)]
  simp only [bnd_x, f2, f3, inB_t (show nf < 13 by omega) (by omega), inB_t (show nf < 8 by omega) (by omega), gd_true, nIc (show nf < 100000 by omega), gI_sIx, reduceIte, Nat.reduceEqDiff, upd_x, nI_1, nI_s1, Nat.reduceEqDiff]
  refine ⟨_, _, _, rfl, rfl, ?_⟩
  generalize hc' : sI (sI (sI (sI (sI (sI (sI c 1 1 (nI (nf + 1))) 3 nf (nI (k % 20))) 4 nf (nI (k / 20))) 5 nf (nI w)) 6 nf (nI de)) 7 nf (-1)) 8 nf 10 = c'
  have g1 : gI c' 1 1 = nI (nf + 1) := by rw [← hc']; rfl
  have g3 : ∀ i, 1 ≤ i → i ≤ 3 → i ≠ 1 → gI c' 1 i = gI c 1 i := fun i a b e => by
    rw [← hc']
    simp only [gI_sIx, reduceIte, Nat.reduceEqDiff, upd_x, e]
  have hm : cle c c' := cle_new 1 nf f2 (by omega) g1 g3
  refine ⟨RLa_new hL 0 6 1 1 nf 8 (Or.inl ⟨rfl, rfl, rfl, rfl, rfl⟩) f2 h8 g1 ?_ g3 ?_ ?_ ?_ ?_, RC_fr hC hm ?_ ?_, RD_fr hD hm ?_ ?_, RI_fr hI hm ?_ ?_, RB_fr hB ?_ ?_, RS_fr hS ?_ ?_ ?_ (fun _ _ _ => by rw [← hc']; rfl) rfl, RT_fr hT ?_ ?_, RW_fr hW ?_ ?_⟩
  · rfl
  · intro i hi e
    simp only [gI_sIx, reduceIte, Nat.reduceEqDiff, upd_x, e]
  · intro w' _ hw6
    rw [← hc']
    rcases (show w' = 0 ∨ w' = 1 ∨ w' = 2 ∨ w' = 3 ∨ w' = 4 ∨ w' = 5 by omega) with rfl | rfl | rfl | rfl | rfl | rfl <;> simp only [gI_sIx, reduceIte, Nat.reduceEqDiff, Nat.reduceAdd, upd_x]
    · exact ⟨trivial, nI_pos' (by omega), nI_le (b := 19) (by omega) (by omega)⟩
    · exact ⟨trivial, nI_pos' (by omega), nI_le (b := 19) (by omega) (by omega)⟩
    · exact ⟨trivial, nI_le (a := 1) (by omega) (by omega), nI_le (b := 20) (by omega) (by omega)⟩
    · exact ⟨trivial, nI_le (a := 1) (by omega) (by omega), nI_le (b := 20) (by omega) (by omega)⟩
    · exact ⟨trivial, by decide, by decide⟩
    · exact ⟨trivial, by decide, by decide⟩
  · intro w' j hw' hj e
    rw [← hc']
    rcases w14 hw' with rfl | rfl | rfl | rfl | rfl | rfl | rfl | rfl | rfl | rfl | rfl | rfl | rfl | rfl
    all_goals first
      | rfl
      | (have ej2 : ¬ j = nf := fun q => e ⟨by omega, by omega, q⟩
         simp only [gI_sIx, reduceIte, Nat.reduceEqDiff, Nat.reduceAdd, upd_x, ej2])
  · intro w' j hw' hj e
    rcases w14 hw' with rfl | rfl | rfl | rfl | rfl | rfl | rfl | rfl | rfl | rfl | rfl | rfl | rfl | rfl
    all_goals first
      | rfl
      | (have ej2 : ¬ j = nf := fun q => e ⟨by omega, by omega, q⟩
         simp only [gI_sIx, reduceIte, Nat.reduceEqDiff, Nat.reduceAdd, upd_x, ej2])
  all_goals (try rw [← hc'])
  all_goals (try exact i32_rf _)
  all_goals
    repeat (first | exact alk_rf | refine alk_sI ?_ (by first | (unfold fCc; omega) | (unfold fCd; omega) | (unfold fDc; omega) | (unfold fDd; omega) | (unfold fIc; omega) | (unfold fId; omega) | (unfold fBc; omega) | (unfold fBd; omega) | (unfold fSc; omega) | (unfold fSd; omega) | (unfold fTc; omega) | (unfold fTd; omega) | (unfold fWc; omega) | (unfold fWd; omega)))
