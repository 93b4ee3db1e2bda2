/-- changes are kept: the oldest is forgotten -/
theorem chg_loop (n : Nat) (v1 v2 v3 v4 : Int32) : ∀ (m i k : Nat) (st : St), i + m = 40 → 1 ≤ i → m < k → ∃ st' : St, fX12_changes_34 n k st v1 v2 v3 v4 (nI i) = fX12_changes_121 n st' v1 v2 v3 v4 ∧ (∀ q x, 15 ≤ q → q ≤ 18 → gI st' q x = if i ≤ x + 1 ∧ x + 1 < 40 then gI st q (x + 1) else gI st q x) ∧ gI st' 0 18 = gI st 0 18 - 1 ∧ (∀ q x, ¬ (15 ≤ q ∧ q ≤ 18) → ¬ (q = 0 ∧ x = 18) → gI st' q x = gI st q x) ∧ gL st' = gL st := by
  intro m
  induction m with
  | zero =>
    intro i k st hi h1 hk
    obtain ⟨k, rfl⟩ : ∃ k', k = k' + 1 := ⟨k - 1, by omega⟩
    have e : i = 40 := by omega
    subst e
    rw [fX12_changes_34, if_pos (by decide)]
    refine ⟨_, rfl, fun q x h1 h2 => ?_, rfl, fun q x h1 h2 => ?_, rfl⟩
    · rw [if_neg (by omega), gI_sIx, if_neg (by omega)]
    · rw [gI_sIx]
      by_cases e : q = 0
      · subst e
        rw [if_pos rfl, upd_x, if_neg (fun e => h2 ⟨rfl, e⟩)]
      · rw [if_neg e]
  | succ m ih =>
    intro i k st hi h1 hk
    obtain ⟨k, rfl⟩ : ∃ k', k = k' + 1 := ⟨k - 1, by omega⟩
    obtain ⟨i, rfl⟩ : ∃ i', i = i' + 1 := ⟨i - 1, by omega⟩
    rw [fX12_changes_34, if_neg (by rw [show (40 : Int32) = nI 40 from rfl, nIle (by omega) (by omega)]; omega)]
    simp only [nI_s1, inB_t (show i + 1 < 40 by omega) (by omega), inB_t (show i < 40 by omega) (by omega), gd_true, bnd_x, nIc (show i + 1 < 100000 by omega), nIc (show i < 100000 by omega), nI_1]
    obtain ⟨st', e1, e2, e3, e4, e5⟩ := ih (i + 1 + 1) k (sI (sI (sI (sI st 15 i (gI st 15 (i + 1))) 16 i (gI (sI st 15 i (gI st 15 (i + 1))) 16 (i + 1))) 17 i (gI (sI (sI st 15 i (gI st 15 (i + 1))) 16 i (gI (sI st 15 i (gI st 15 (i + 1))) 16 (i + 1))) 17 (i + 1))) 18 i (gI (sI (sI (sI st 15 i (gI st 15 (i + 1))) 16 i (gI (sI st 15 i (gI st 15 (i + 1))) 16 (i + 1))) 17 i (gI (sI (sI st 15 i (gI st 15 (i + 1))) 16 i (gI (sI st 15 i (gI st 15 (i + 1))) 16 (i + 1))) 17 (i + 1))) 18 (i + 1))) (by omega) (by omega) (by omega)
    refine ⟨st', e1, fun q x h1 h2 => ?_, by rw [e3]; rfl, fun q x h1 h2 => ?_, e5⟩
    · rw [e2 q x h1 h2]
      rcases (show q = 15 ∨ q = 16 ∨ q = 17 ∨ q = 18 by omega) with rfl | rfl | rfl | rfl <;> simp only [gI_sIx, reduceIte, Nat.reduceEqDiff, Nat.reduceAdd, upd_x]
      all_goals
        by_cases c1 : i + 1 ≤ x + 1 ∧ x + 1 < 40
        · rw [if_pos c1]
          by_cases c2 : x = i
          · subst c2
            rw [if_neg (by omega), if_pos rfl]
          · rw [if_pos (by omega), if_neg (by omega)]
        · rw [if_neg c1, if_neg (by omega), if_neg (by omega)]
    · rw [e4 q x h1 h2, gI_sIx, if_neg (by omega), gI_sIx, if_neg (by omega), gI_sIx, if_neg (by omega), gI_sIx, if_neg (by omega)]
/-- a change is added, on both sides, behind nd others -/
theorem add_rel {c d : St} (n : Nat) {nd w j : Nat} (old v : Int32) (hn : nd < 40) (hw : w < 14) (hj : j < capW w) (hc0 : gI c 44 0 = nI nd) (hd0 : gI d 0 18 = nI nd) :
    ∃ c' d' : St, fX1_add_13 c (nI j) (nI w) old v = some c' ∧ fX12_changes_121 n d (nI w) (nI j) v old = some (old, d') ∧ gI c' 44 0 = nI (nd + 1) ∧ gI c' 44 1 = 0 ∧ gI d' 0 18 = nI (nd + 1) ∧ gI d' 0 19 = gI d 0 19 ∧
      (∀ x, gI c' 45 x = if x = nd then nI j else gI c 45 x) ∧ (∀ x, gI c' 46 x = if x = nd then nI w else gI c 46 x) ∧ (∀ x, gI c' 47 x = if x = nd then old else gI c 47 x) ∧ (∀ x, gI c' 48 x = if x = nd then v else gI c 48 x) ∧
      (∀ x, gI d' 15 x = if x = nd then nI w else gI d 15 x) ∧ (∀ x, gI d' 16 x = if x = nd then nI j else gI d 16 x) ∧ (∀ x, gI d' 17 x = if x = nd then old else gI d 17 x) ∧ (∀ x, gI d' 18 x = if x = nd then v else gI d 18 x) ∧
      (∀ q x, ¬ (44 ≤ q ∧ q ≤ 48) → gI c' q x = gI c q x) ∧ gL c' = gL c ∧ (∀ q x, ¬ (15 ≤ q ∧ q ≤ 18) → ¬ (q = 0 ∧ x = 18) → gI d' q x = gI (sI d (1 + w) j v) q x) ∧ gL d' = gL d := by
  unfold fX1_add_13 fX12_changes_121
  have hc : capW w ≤ 13 := by unfold capW; split; omega; split <;> omega
  simp only [bnd_x, hc0, hd0, inB_t hn (by omega), gd_true, nIc (show nd < 100000 by omega), gI_sIx, reduceIte, Nat.reduceEqDiff, Nat.reduceAdd, upd_x, nI_1, lay_x _ v hw hj, Option.bind_some]
  refine ⟨_, _, rfl, rfl, rfl, rfl, ?_, ?_, fun x => rfl, fun x => rfl, fun x => rfl, fun x => rfl, fun x => ?_, fun x => ?_, fun x => ?_, fun x => ?_, fun q x h1 => ?_, rfl, fun q x h1 h2 => ?_, rfl⟩
  · rw [gI_sIx, if_neg (by omega)]; rfl
  · rw [gI_sIx, if_neg (by omega)]; rfl
  · rw [gI_sIx, if_neg (by omega)]; rfl
  · rw [gI_sIx, if_neg (by omega)]; rfl
  · rw [gI_sIx, if_neg (by omega)]; rfl
  · rw [gI_sIx, if_neg (by omega)]; rfl
  · simp only [gI_sIx]
    rw [if_neg (by omega), if_neg (by omega), if_neg (by omega), if_neg (by omega), if_neg (by omega), if_neg (by omega)]
  · by_cases e : q = 1 + w
    · subst e
      rw [gI_sIx, if_pos rfl, gI_sIx, if_pos rfl, upd_x, upd_x]
      by_cases ex : x = j
      · rw [if_pos ex, if_pos ex]
      · rw [if_neg ex, if_neg ex]
        simp only [gI_sIx]
        rw [if_neg (by omega), if_neg (by omega), if_neg (by omega), if_neg (by omega), if_neg (by omega)]
    · by_cases e0 : q = 0
      · subst e0
        simp only [gI_sIx, if_neg e, reduceIte, Nat.reduceEqDiff, upd_x]
        rw [if_neg (fun e => h2 ⟨rfl, e⟩)]
      · simp only [gI_sIx, if_neg e, if_neg e0]
        rw [if_neg (by omega), if_neg (by omega), if_neg (by omega), if_neg (by omega)]
set_option maxHeartbeats 4000000 in
theorem s_mend {n : Nat} (hn : 100 < n) : S_mend Rel n := by
  intro c d a1 a2 a3 h
  obtain ⟨hL, hC, hD, hI, hB, hS, hT, hW⟩ := id h
  obtain ⟨hf2, hl2, hc2, hv⟩ := id hL
  unfold fX11_mend fX12_mend
  simp only [if_bI, some_eta]
  rcases w_or a2 with ⟨w, hw, rfl⟩ | hno
  · rw [has_x c a1 hw, one_x hL a1 hw, isW, may_x a3 hw, nIc (show w < 100000 by omega), inB_t hw (by omega)]
    cases hb : hasB c w a1 with
    | false => exact ⟨_, _, _, rfl, rfl, h⟩
    | true =>
      obtain ⟨j, j1, rfl, j2, j3, j4⟩ := hasB_in hL hw hb
      have hcap := cap_in j3 j4 j1
      by_cases h1 : tb tLEAST w ≤ a3 ∧ a3 ≤ tb tMOST w
      · rw [decide_eq_true h1]
        obtain ⟨v1, v2, v3⟩ := hv w j hw (by omega) j2
        simp only [cond_true, gd_true, inB_t (show j < 13 by omega) (by omega), nIc (show j < 100000 by omega), bnd_x]
        unfold fX12_changes
        rw [val_x d hw hcap, Option.bind_some, v1]
        by_cases h2 : gI c (3 + w) j = a3
        · rw [if_pos h2, if_pos h2]
          exact ⟨_, _, _, rfl, rfl, h⟩
        rw [if_neg h2, if_neg h2]
        obtain ⟨nd, nu, n1, n2, n3, n4, n5, n6⟩ := id hC
        simp only [bnd_x]
        -- the states behind the number's change
        have ec0 : gI (sI c (3 + w) j a3) 44 = gI c 44 := by rw [gI_sIx, if_neg (by omega)]
        have ed0 : gI (sI d 0 19 0) 0 18 = nI nd := n3
        unfold fX1_add
        rw [ec0, n2, ed0]
        -- the rows of changes behind forgetting
        obtain ⟨ce, de, m, hm, hce, hde, k1, k2, k3, k4, k5, k6, k7, k8, k9⟩ : ∃ (ce de : St) (m : Nat), m < 40 ∧
            (if nI nd = 40 then (fX1_forgetOldest (sI c (3 + w) j a3)).bind (fun r2 => fX1_add_13 r2 (nI j) (nI w) (gI c (3 + w) j) a3) else fX1_add_13 (sI c (3 + w) j a3) (nI j) (nI w) (gI c (3 + w) j) a3) = fX1_add_13 ce (nI j) (nI w) (gI c (3 + w) j) a3 ∧
            (if nI nd = 40 then fX12_changes_34 n n (sI d 0 19 0) (nI w) (nI j) a3 (gI c (3 + w) j) 1 else fX12_changes_121 n (sI d 0 19 0) (nI w) (nI j) a3 (gI c (3 + w) j)) = fX12_changes_121 n de (nI w) (nI j) a3 (gI c (3 + w) j) ∧
            gI ce 44 0 = nI m ∧ gI de 0 18 = nI m ∧ gI de 0 19 = 0 ∧ (∃ s : Nat, s ≤ 1 ∧ m + s ≤ nd ∧ (∀ q x, 45 ≤ q → q ≤ 48 → x < m → gI ce q x = gI c q (x + s)) ∧ (∀ q x, 15 ≤ q → q ≤ 18 → x < m → gI de q x = gI d q (x + s))) ∧
            (∀ q x, ¬ (44 ≤ q ∧ q ≤ 48) → gI ce q x = gI (sI c (3 + w) j a3) q x) ∧ gL ce = gL c ∧ (∀ q x, ¬ (15 ≤ q ∧ q ≤ 18) → ¬ (q = 0 ∧ (x = 18 ∨ x = 19)) → gI de q x = gI d q x) ∧ gL de = gL d ∧ m ≤ 39 := by
          by_cases h40 : nd = 40
          · subst h40
            rw [if_pos (by decide), if_pos (by decide)]
            obtain ⟨st', e1, e2, e3, e4, e5⟩ := chg_loop n (nI w) (nI j) a3 (gI c (3 + w) j) 39 1 n (sI d 0 19 0) (by omega) (by omega) (by omega)
            unfold fX1_forgetOldest
            simp only [bnd_x, ec0, n2, gI_sIx, reduceIte, Nat.reduceEqDiff, Nat.reduceAdd, upd_x]
            have hck : cpB 1 0 (nI 40 - 1) 40 40 = true := by decide
            rw [hck]
            simp only [gd_true, Option.bind_some]
            refine ⟨_, st', 39, by omega, rfl, e1, rfl, by rw [e3]; show gI d 0 18 - 1 = _; rw [n3]; rfl, by rw [e4 0 19 (by omega) (by omega)]; rfl, ⟨1, by omega, by omega, fun q x h1 h2 h3 => ?_, fun q x h1 h2 h3 => ?_⟩, fun q x h1 => ?_, rfl, fun q x h1 h2 => ?_, e5, by omega⟩
            · have e39 : (nI 40 - 1).toNatClampNeg = 39 := by decide
              have eq0 : ∀ q, 45 ≤ q → q ≤ 48 → gI (sI c (3 + w) j a3) q = gI c q := fun q a b => by rw [gI_sIx, if_neg (by omega)]
              have ecp : ∀ f : Nat → Int32, va_cpy f f (1 : Int32).toNatClampNeg (0 : Int32).toNatClampNeg (nI 40 - 1).toNatClampNeg x = f (x + 1) := fun f => by
                show (if (0 : Int32).toNatClampNeg ≤ x ∧ x < (0 : Int32).toNatClampNeg + (nI 40 - 1).toNatClampNeg then f ((1 : Int32).toNatClampNeg + (x - (0 : Int32).toNatClampNeg)) else f x) = _
                rw [e39, show (0 : Int32).toNatClampNeg = 0 from rfl, show (1 : Int32).toNatClampNeg = 1 from rfl, if_pos (by omega)]
                congr 1
                omega
              have n44 : ¬ 44 = 3 + w := by omega
              have n45 : ¬ 45 = 3 + w := by omega
              have n46 : ¬ 46 = 3 + w := by omega
              have n47 : ¬ 47 = 3 + w := by omega
              have n48 : ¬ 48 = 3 + w := by omega
              rcases (show q = 45 ∨ q = 46 ∨ q = 47 ∨ q = 48 by omega) with rfl | rfl | rfl | rfl <;> simp only [gI_sIsx, gI_sIx, reduceIte, Nat.reduceEqDiff, upd_x, n44, n45, n46, n47, n48] <;> rw [ecp]
            · rw [e2 q x h1 h2, if_pos (by omega), gI_sIx, if_neg (by omega)]
            · simp only [gI_sIsx]
              rw [if_neg (by omega), if_neg (by omega), if_neg (by omega), if_neg (by omega), gI_sIx (k := 44), if_neg (by omega), gI_sIx]
            · rw [e4 q x h1 (by omega), gI_sIx]
              by_cases e : q = 0
              · subst e
                rw [if_pos rfl, upd_x, if_neg (by omega)]
              · rw [if_neg e]
          · have hne : ¬ nI nd = (40 : Int32) := by
              rw [show (40 : Int32) = nI 40 from rfl, nIeq (by omega) (by omega)]
              exact h40
            rw [if_neg hne, if_neg hne]
            refine ⟨_, _, nd, by omega, rfl, rfl, by rw [ec0, n2], n3, rfl, ⟨0, by omega, by omega, fun q x h1 h2 h3 => ?_, fun q x h1 h2 h3 => ?_⟩, fun q x h1 => rfl, rfl, fun q x h1 h2 => ?_, rfl, by omega⟩
            · rw [gI_sIx, if_neg (by omega)]; rfl
            · rw [gI_sIx, if_neg (by omega)]; rfl
            · rw [gI_sIx]
              by_cases e : q = 0
              · subst e
                rw [if_pos rfl, upd_x, if_neg (by omega)]
              · rw [if_neg e]
        rw [hce, hde]
        obtain ⟨c', d', r1, r2, a1, a2, a3', a4, b1, b2, b3, b4, b5, b6, b7, b8, x1, x2, x3, x4⟩ := add_rel (c := ce) (d := de) n (gI c (3 + w) j) a3 hm hw hcap k1 k2
        rw [r1, r2, Option.bind_some]
        refine ⟨_, _, _, rfl, rfl, ?_⟩
        obtain ⟨s, s1, s2, s3, s4⟩ := k4
        have hcq : ∀ q x, ¬ (44 ≤ q ∧ q ≤ 48) → gI c' q x = gI (sI c (3 + w) j a3) q x := fun q x hq => (x1 q x hq).trans (k5 q x hq)
        have hdq : ∀ q x, ¬ (15 ≤ q ∧ q ≤ 18) → ¬ (q = 0 ∧ (x = 18 ∨ x = 19)) → gI d' q x = gI (sI d (1 + w) j a3) q x := fun q x hq h0 => by
          rw [x3 q x hq (by omega), gI_sIx, gI_sIx]
          by_cases e : q = 1 + w
          · subst e
            rw [if_pos rfl, if_pos rfl, upd_x, upd_x]
            by_cases ex : x = j
            · rw [if_pos ex, if_pos ex]
            · rw [if_neg ex, if_neg ex]
              exact k7 _ x hq (by omega)
          · rw [if_neg e, if_neg e]
            exact k7 q x hq h0
        have hcle : ∀ i, 1 ≤ i → i ≤ 3 → gI c' 1 i = gI c 1 i := fun i _ _ => by rw [hcq 1 i (by omega), gI_sIx, if_neg (by omega)]
        have hLp := RLa_put (w := w) (j := j) (v := a3) hL hw h1.1 h1.2
        have cq : ∀ q x, ¬ (44 ≤ q ∧ q ≤ 48) → ¬ (3 ≤ q ∧ q < 17) → gI c' q x = gI c q x := fun q x h1 h2 => by rw [hcq q x h1, gI_sIx, if_neg (by omega)]
        have dq : ∀ q x, ¬ (1 ≤ q ∧ q < 19) → ¬ (q = 0 ∧ (x = 18 ∨ x = 19)) → gI d' q x = gI d q x := fun q x h1 h2 => by rw [hdq q x (by omega) h2, gI_sIx, if_neg (by omega)]
        refine ⟨RLa_fr hLp (fun q x hq => hcq q x (by unfold fLc fpL at hq; omega)) (fun q x hq => hdq q x (by unfold fLd fpL at hq; omega) (by unfold fLd fpL at hq; omega)), ⟨m + 1, 0, by omega, a1, a3', a2, by rw [a4, k3]; rfl, fun x hx => ?_⟩, RD_fr hD (cle_eq hcle) (fun q x hq => cq q x (by unfold fDc at hq; omega) (by unfold fDc at hq; omega)) (fun q x hq => dq q x (by unfold fDd at hq; omega) (by unfold fDd at hq; omega)), RI_fr hI (cle_eq hcle) (fun q x hq => cq q x (by unfold fIc at hq; omega) (by unfold fIc at hq; omega)) (fun q x hq => dq q x (by unfold fId at hq; omega) (by unfold fId at hq; omega)), RB_fr hB (fun q x hq => cq q x (by unfold fBc at hq; omega) (by unfold fBc at hq; omega)) (fun q x hq => dq q x (by unfold fBd at hq; omega) (by unfold fBd at hq; omega)), RS_fr hS (by rw [cq 49 1 (by omega) (by omega)]; exact i32_rf _) (fun q x hq => cq q x (by unfold fSc at hq; omega) (by unfold fSc at hq; omega)) (fun q x hq => dq q x (by unfold fSd at hq; omega) (by unfold fSd at hq; omega)) (fun q _ _ => by rw [x2, k6]) (by rw [x4, k8]), RT_fr hT (fun q x hq => cq q x (by unfold fTc at hq; omega) (by unfold fTc at hq; omega)) (fun q x hq => dq q x (by unfold fTd at hq; omega) (by unfold fTd at hq; omega)), RW_fr hW (fun q x hq => cq q x (by unfold fWc at hq; omega) (by unfold fWc at hq; omega)) (fun q x hq => dq q x (by unfold fWd at hq; omega) (by unfold fWd at hq; omega))⟩
        rw [b1, b2, b3, b4, b5, b6, b7, b8]
        by_cases ex : x = m
        · simp only [if_pos ex]
          have hcw := cs_in w
          exact ⟨w, j, hw, by omega, by rw [hcle _ (by omega) (by omega)]; exact j2, by simp, by simp, by simp, by simp, by simp, by simp, v2, v3, h1.1, h1.2⟩
        · simp only [if_neg ex]
          rw [s3 45 x (by omega) (by omega) (by omega), s3 46 x (by omega) (by omega) (by omega), s3 47 x (by omega) (by omega) (by omega), s3 48 x (by omega) (by omega) (by omega), s4 15 x (by omega) (by omega) (by omega), s4 16 x (by omega) (by omega) (by omega), s4 17 x (by omega) (by omega) (by omega), s4 18 x (by omega) (by omega) (by omega)]
          obtain ⟨w', m', z1, z2, z3, z4⟩ := n6 (x + s) (by omega)
          have hcw := cs_in w'
          exact ⟨w', m', z1, z2, by rw [hcle _ (by omega) (by omega)]; exact z3, z4⟩
      · rw [decide_eq_false h1]
        exact ⟨_, _, _, rfl, rfl, h⟩
  · rw [has_no hno, one_no hno]
    exact ⟨_, _, _, rfl, rfl, h⟩
