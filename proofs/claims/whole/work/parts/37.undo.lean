theorem cnt_cap {c d : St} (h : RLa c d) {w m : Nat} (hm : m < 13) (hlt : nI m < gI c 1 (cs w)) : m < capW w := by
  obtain ⟨⟨nf, f1, f2, f3⟩, ⟨nl, l1, l2, l3⟩, ⟨nc, c1, c2, c3⟩, hv⟩ := h
  unfold cs at hlt
  unfold capW
  by_cases h6 : w < 6
  · rw [if_pos h6, f2, nIlt (by omega) (by omega)] at hlt
    rw [if_pos h6]
    omega
  · rw [if_neg h6] at hlt
    rw [if_neg h6]
    by_cases h10 : w < 10
    · rw [if_pos h10, l2, nIlt (by omega) (by omega)] at hlt
      rw [if_pos h10]
      omega
    · rw [if_neg h10]
      omega
/-- one change back or again: what the tie needs -/
theorem step_rel {c d c' d' : St} (h : Rel c d) {w m nd nu : Nat} {v : Int32} (hw : w < 14) (hv1 : tb tLEAST w ≤ v) (hv2 : v ≤ tb tMOST w)
    (hc : ∀ q x, ¬ (q = 44 ∧ x ≤ 1) → gI c' q x = gI (sI c (3 + w) m v) q x) (hd : ∀ q x, ¬ (q = 0 ∧ (x = 18 ∨ x = 19)) → gI d' q x = gI (sI d (1 + w) m v) q x) (hcl : gL c' = gL c) (hdl : gL d' = gL d)
    (n1 : gI c' 44 0 = nI nd) (n2 : gI d' 0 18 = nI nd) (n3 : gI c' 44 1 = nI nu) (n4 : gI d' 0 19 = nI nu) {nd0 nu0 : Nat} (o1 : gI c 44 0 = nI nd0) (o2 : gI c 44 1 = nI nu0) (h40 : nd0 + nu0 ≤ 40) (hs : nd + nu = nd0 + nu0) : Rel c' d' := by
  obtain ⟨hL, hC, hD, hI, hB, hS, hT, hW⟩ := id h
  have cq : ∀ q x, ¬ (q = 44 ∧ x ≤ 1) → ¬ (3 ≤ q ∧ q < 17) → gI c' q x = gI c q x := fun q x h1 h2 => by rw [hc q x h1, gI_sIx, if_neg (by omega)]
  have dq : ∀ q x, ¬ (q = 0 ∧ (x = 18 ∨ x = 19)) → ¬ (1 ≤ q ∧ q < 15) → gI d' q x = gI d q x := fun q x h1 h2 => by rw [hd q x h1, gI_sIx, if_neg (by omega)]
  have hcle : ∀ i, 1 ≤ i → i ≤ 3 → gI c' 1 i = gI c 1 i := fun i _ _ => cq 1 i (by omega) (by omega)
  have hLp := RLa_put (w := w) (j := m) (v := v) hL hw hv1 hv2
  obtain ⟨nd1, nu1, m1, m2, m3, m4, m5, m6⟩ := id hC
  have e1 : nd1 = nd0 := by
    have q : nI nd1 = nI nd0 := m2.symm.trans o1
    rw [nIeq (by omega) (by omega)] at q
    exact q
  have e2 : nu1 = nu0 := by
    have q : nI nu1 = nI nu0 := m4.symm.trans o2
    rw [nIeq (by omega) (by omega)] at q
    exact q
  subst e1
  subst e2
  refine ⟨RLa_fr hLp (fun q x hq => hc q x (by unfold fLc fpL at hq; omega)) (fun q x hq => hd q x (by unfold fLd fpL at hq; omega)), ⟨nd, nu, by omega, n1, n2, n3, n4, fun x hx => ?_⟩, RD_fr hD (cle_eq hcle) (fun q x hq => cq q x (by unfold fDc at hq; omega) (by unfold fDc at hq; omega)) (fun q x hq => dq q x (by unfold fDd at hq; omega) (by unfold fDd at hq; omega)), RI_fr hI (cle_eq hcle) (fun q x hq => cq q x (by unfold fIc at hq; omega) (by unfold fIc at hq; omega)) (fun q x hq => dq q x (by unfold fId at hq; omega) (by unfold fId at hq; omega)), RB_fr hB (fun q x hq => cq q x (by unfold fBc at hq; omega) (by unfold fBc at hq; omega)) (fun q x hq => dq q x (by unfold fBd at hq; omega) (by unfold fBd at hq; omega)), RS_fr hS (by rw [cq 49 1 (by omega) (by omega)]; exact i32_rf _) (fun q x hq => cq q x (by unfold fSc at hq; omega) (by unfold fSc at hq; omega)) (fun q x hq => dq q x (by unfold fSd at hq; omega) (by unfold fSd at hq; omega)) (fun q _ _ => by rw [hcl]) (by rw [hdl]), RT_fr hT (fun q x hq => cq q x (by unfold fTc at hq; omega) (by unfold fTc at hq; omega)) (fun q x hq => dq q x (by unfold fTd at hq; omega) (by unfold fTd at hq; omega)), RW_fr hW (fun q x hq => cq q x (by unfold fWc at hq; omega) (by unfold fWc at hq; omega)) (fun q x hq => dq q x (by unfold fWd at hq; omega) (by unfold fWd at hq; omega))⟩
  rw [cq 45 x (by omega) (by omega), cq 46 x (by omega) (by omega), cq 47 x (by omega) (by omega), cq 48 x (by omega) (by omega), dq 15 x (by omega) (by omega), dq 16 x (by omega) (by omega), dq 17 x (by omega) (by omega), dq 18 x (by omega) (by omega)]
  obtain ⟨w', m', z1, z2, z3, z4⟩ := m6 x (by omega)
  have hcw := cs_in w'
  exact ⟨w', m', z1, z2, by rw [hcle _ (by omega) (by omega)]; exact z3, z4⟩
set_option maxHeartbeats 4000000 in
theorem s_undo (n : Nat) : S_undo Rel n := by
  intro c d h
  obtain ⟨hL, hC, hD, hI, hB, hS, hT, hW⟩ := id h
  obtain ⟨nd, nu, n1, n2, n3, n4, n5, n6⟩ := id hC
  unfold fX11_undo fX12_undo
  rw [n2, n3, some_eta]
  by_cases h0 : nd = 0
  · subst h0
    rw [if_pos (show nI 0 = (0 : Int32) from rfl), if_pos (show nI 0 = (0 : Int32) from rfl)]
    exact ⟨_, _, _, rfl, rfl, h⟩
  rw [if_neg (nI_ne0 (by omega) (by omega)), if_neg (nI_ne0 (by omega) (by omega))]
  obtain ⟨x, rfl⟩ : ∃ x, nd = x + 1 := ⟨nd - 1, by omega⟩
  obtain ⟨w, m, a1, a2, a3, a4, a5, a6, a7, a8, a9, b1, b2, b3, b4⟩ := n6 x (by omega)
  have hcap := cnt_cap hL a2 a3
  unfold fX1_takeBack
  simp only [bnd_x, n2, n3, n4, n5, nI_s1, nI_1, gI_sIx, reduceIte, Nat.reduceEqDiff, Nat.reduceAdd, upd_x, inB_t (show x < 40 by omega) (by omega), gd_true, nIc (show x < 100000 by omega), a4, a5, a6, a7, inB_t a1 (by omega), inB_t a2 (by omega), nIc (show w < 100000 by omega), nIc (show m < 100000 by omega), lay_x _ _ a1 hcap, Option.bind_some, a8]
  have f3w : ¬ 44 = 3 + w := by omega
  have f1w : ¬ 0 = 1 + w := by omega
  simp only [gI_sIx, f3w, f1w, gI_sIx, reduceIte, Nat.reduceEqDiff, Nat.reduceAdd, upd_x]
  refine ⟨_, _, _, rfl, rfl, ?_⟩
  refine step_rel (w := w) (m := m) (nd := x) (nu := nu + 1) (v := gI c 47 x) h a1 b1 b2 (fun q y hq => ?_) (fun q y hq => ?_) rfl rfl ?_ ?_ ?_ ?_ n2 n4 n1 (by omega)
  · by_cases e : q = 44
    · subst e
      rw [gI_sIx, if_neg f3w, gI_sIx, if_pos rfl, upd_x, if_neg (by omega), gI_sIx, if_pos rfl, upd_x, if_neg (by omega), gI_sIx, if_neg f3w]
    · by_cases e2 : q = 3 + w
      · subst e2
        rw [gI_sIx, if_pos rfl, gI_sIx (k := 3 + w), if_pos rfl, gI_sIx, if_neg e, gI_sIx, if_neg e]
      · rw [gI_sIx, if_neg e2, gI_sIx, if_neg e, gI_sIx, if_neg e, gI_sIx, if_neg e2]
  · by_cases e : q = 0
    · subst e
      rw [gI_sIx, if_neg f1w, gI_sIx, if_pos rfl, upd_x, if_neg (by omega), gI_sIx, if_pos rfl, upd_x, if_neg (by omega), gI_sIx, if_neg f1w]
    · by_cases e2 : q = 1 + w
      · subst e2
        rw [gI_sIx, if_pos rfl, gI_sIx (k := 1 + w), if_pos rfl, gI_sIx, if_neg e, gI_sIx, if_neg e]
      · rw [gI_sIx, if_neg e2, gI_sIx, if_neg e, gI_sIx, if_neg e, gI_sIx, if_neg e2]
  · rw [gI_sIx, if_neg f3w]; rfl
  · rw [gI_sIx, if_neg f1w]; rfl
  · rw [gI_sIx, if_neg f3w]; rfl
  · rw [gI_sIx, if_neg f1w]; rfl
set_option maxHeartbeats 4000000 in
theorem s_redo (n : Nat) : S_redo Rel n := by
  intro c d h
  obtain ⟨hL, hC, hD, hI, hB, hS, hT, hW⟩ := id h
  obtain ⟨nd, nu, n1, n2, n3, n4, n5, n6⟩ := id hC
  unfold fX11_redo fX12_redo
  rw [n4, n5, some_eta]
  by_cases h0 : nu = 0
  · subst h0
    rw [if_pos (show nI 0 = (0 : Int32) from rfl), if_pos (show nI 0 = (0 : Int32) from rfl)]
    exact ⟨_, _, _, rfl, rfl, h⟩
  rw [if_neg (nI_ne0 (by omega) (by omega)), if_neg (nI_ne0 (by omega) (by omega))]
  obtain ⟨y, rfl⟩ : ∃ y, nu = y + 1 := ⟨nu - 1, by omega⟩
  obtain ⟨w, m, a1, a2, a3, a4, a5, a6, a7, a8, a9, b1, b2, b3, b4⟩ := n6 nd (by omega)
  have hcap := cnt_cap hL a2 a3
  have f3w : ¬ 44 = 3 + w := by omega
  have f1w : ¬ 0 = 1 + w := by omega
  unfold fX1_doAgain
  simp only [bnd_x, n2, n3, n4, n5, nI_s1, nI_1, gI_sIx, reduceIte, Nat.reduceEqDiff, Nat.reduceAdd, upd_x, inB_t (show nd < 40 by omega) (by omega), gd_true, nIc (show nd < 100000 by omega), a4, a5, a6, a7, inB_t a1 (by omega), inB_t a2 (by omega), nIc (show w < 100000 by omega), nIc (show m < 100000 by omega), lay_x _ _ a1 hcap, Option.bind_some, a9, f3w, f1w]
  refine ⟨_, _, _, rfl, rfl, ?_⟩
  refine step_rel (w := w) (m := m) (nd := nd + 1) (nu := y) (v := gI c 48 nd) h a1 b3 b4 (fun q y hq => ?_) (fun q y hq => ?_) rfl rfl rfl rfl rfl rfl n2 n4 n1 (by omega)
  · by_cases e : q = 44
    · subst e
      rw [gI_sIx, if_pos rfl, upd_x, if_neg (by omega), gI_sIx, if_pos rfl, upd_x, if_neg (by omega)]
    · rw [gI_sIx, if_neg e, gI_sIx, if_neg e]
  · by_cases e : q = 0
    · subst e
      rw [gI_sIx, if_pos rfl, upd_x, if_neg (by omega), gI_sIx, if_pos rfl, upd_x, if_neg (by omega)]
    · rw [gI_sIx, if_neg e, gI_sIx, if_neg e]
