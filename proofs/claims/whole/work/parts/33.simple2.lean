theorem min_in {a : Int32} (h : fX12_isMinute a = true) : ∃ k : Nat, k < 1000 ∧ a = nI k := by
  unfold fX12_isMinute at h
  rw [isI, decide_eq_true_eq] at h
  obtain ⟨j, hj, e⟩ := (in_nat (n := 999) rfl (by omega)).mp h
  exact ⟨j, by omega, e⟩
theorem per_in {a : Int32} (h : fX12_isPerson a = true) : ∃ k : Nat, k < 6 ∧ a = nI k := by
  unfold fX12_isPerson at h
  rw [isI, decide_eq_true_eq] at h
  obtain ⟨j, hj, e⟩ := (in_nat (n := 5) rfl (by omega)).mp h
  exact ⟨j, by omega, e⟩
set_option maxHeartbeats 4000000 in
theorem addFall_rel {c d : St} (h : Rel c d) {nl : Nat} (hn : gI c 1 2 = nI nl) (h10 : nl < 10) {x y m : Nat} (hx : x < 20) (hy : y < 20) (hmm : m < 1000) {xy : Int32} (e1 : rmI xy 20 = nI x) (e2 : xy / 20 = nI y) :
    ∃ c' d' : St, fX3_addFall c xy (nI m) = some (nI nl, c') ∧ fX12_addFall d (nI x) (nI y) (nI m) = some (nI nl, d') ∧ Rel c' d' ∧ gI c' 1 2 = nI (nl + 1) ∧ (∀ k, 53 ≤ k → gI c' k = gI c k) ∧ gL c' = gL c ∧ gI d' 39 = gI d 39 ∧ gI d' 40 = gI d 40 ∧ gL d' = gL d ∧ gI d' 0 8 = nI (nl + 1) := by
  obtain ⟨hL, hC, hD, hI, hB, hS, hT, hW⟩ := id h
  obtain ⟨hf2, ⟨nl', l1, l2, l3⟩, hc2, hv⟩ := id hL
  have el : nl' = nl := by
    have : nI nl' = nI nl := l2.symm.trans hn
    rw [nIeq (by omega) (by omega)] at this
    exact this
  subst el
  unfold fX3_addFall fX3_placeFall fX12_addFall
  rw [e1, e2]
  simp only [bnd_x, l2, l3, inB_t (show nl' < 13 by omega) (by omega), inB_t (show nl' < 11 by omega) (by omega), gd_true, nIc (show nl' < 100000 by omega), gI_sIx, reduceIte, Nat.reduceEqDiff, Nat.reduceAdd, upd_x, nI_1, nI_s1, Option.bind_some]
  refine ⟨_, _, rfl, rfl, ?_, rfl, fun k hk => ?_, rfl, rfl, rfl, rfl, rfl⟩
  · generalize hc' : sI (sI (sI (sI (sI c 1 2 (nI (nl' + 1))) 9 nl' (nI x)) 10 nl' (nI y)) 11 nl' (nI m)) 12 nl' 0 = c'
    have g1 : gI c' 1 2 = nI (nl' + 1) := by rw [← hc']; rfl
    have g3 : ∀ i, 1 ≤ i → i ≤ 3 → i ≠ 2 → gI c' 1 i = gI c 1 i := fun i a b e => by
      rw [← hc']
      simp only [gI_sIx, reduceIte, Nat.reduceEqDiff, Nat.reduceAdd, upd_x, e]
    have hm : cle c c' := cle_new 2 nl' l2 (by omega) g1 g3
    refine ⟨RLa_new hL 6 10 2 8 nl' 10 (Or.inr (Or.inl ⟨rfl, rfl, rfl, rfl, rfl⟩)) l2 h10 g1 ?_ g3 ?_ ?_ ?_ ?_, RC_fr hC hm ?_ ?_, ?_, RI_fr hI hm ?_ ?_, RB_fr hB ?_ ?_, RS_fr hS ?_ ?_ ?_ (fun _ _ _ => by rw [← hc']; rfl) rfl, RT_fr hT ?_ ?_, RW_fr hW ?_ ?_⟩
    · rfl
    · intro i hi e
      simp only [gI_sIx, reduceIte, Nat.reduceEqDiff, Nat.reduceAdd, upd_x, e]
    · intro w' hw6 hw10
      rw [← hc']
      rcases (show w' = 6 ∨ w' = 7 ∨ w' = 8 ∨ w' = 9 by omega) with rfl | rfl | rfl | rfl <;> simp only [gI_sIx, reduceIte, Nat.reduceEqDiff, Nat.reduceAdd, upd_x]
      · exact ⟨trivial, nI_pos' (by omega), nI_le (b := 19) (by omega) (by omega)⟩
      · exact ⟨trivial, nI_pos' (by omega), nI_le (b := 19) (by omega) (by omega)⟩
      · exact ⟨trivial, nI_pos' (by omega), nI_le (b := 999) (by omega) (by omega)⟩
      · exact ⟨trivial, by decide, by decide⟩
    · intro w' j hw hj e
      rw [← hc']
      rcases w14 hw with rfl | rfl | rfl | rfl | rfl | rfl | rfl | rfl | rfl | rfl | rfl | rfl | rfl | rfl
      all_goals first
        | rfl
        | (have ej2 : ¬ j = nl' := fun q => e ⟨by omega, by omega, q⟩
           simp only [gI_sIx, reduceIte, Nat.reduceEqDiff, Nat.reduceAdd, upd_x, ej2])
    · intro w' j hw hj e
      rcases w14 hw with rfl | rfl | rfl | rfl | rfl | rfl | rfl | rfl | rfl | rfl | rfl | rfl | rfl | rfl
      all_goals first
        | rfl
        | (have ej2 : ¬ j = nl' := fun q => e ⟨by omega, by omega, q⟩
           simp only [gI_sIx, reduceIte, Nat.reduceEqDiff, Nat.reduceAdd, upd_x, ej2])
    rotate_left 2
    · obtain ⟨⟨F, a1, a2, a3, a4, a5⟩, b1, b2, b3, b4⟩ := hD
      refine ⟨⟨F, a1, by rw [← hc']; exact a2, fun j hj => ?_, fun j hj q => a4 j hj (by rw [g1] at q; rw [l2]; exact i32_lele (nI_le (by omega) (by omega)) q), a5⟩, fun j hj => by rw [← hc']; exact b1 j hj, by rw [← hc']; exact b2, by rw [← hc']; exact b3, by rw [← hc']; exact b4⟩
      simp only [gI_sIx, reduceIte, Nat.reduceEqDiff, Nat.reduceAdd, upd_x]
      by_cases e : j = nl'
      · subst e
        rw [if_pos rfl]
        have := a4 j (by omega) (by rw [l2]; exact i32_rf _)
        unfold bit
        rw [this]
        rfl
      · rw [if_neg e]
        exact a3 j hj
    all_goals (try rw [← hc'])
    all_goals (try exact i32_rf _)
    all_goals repeat (first | exact alk_rf | refine alk_sI ?_ (by first | (unfold fLc fpL; omega) | (unfold fLd fpL; omega) | (unfold fCc; omega) | (unfold fCd; omega) | (unfold fDc; omega) | (unfold fDd; omega) | (unfold fIc; omega) | (unfold fId; omega) | (unfold fBc; omega) | (unfold fBd; omega) | (unfold fSc; omega) | (unfold fSd; omega) | (unfold fTc; omega) | (unfold fTd; omega) | (unfold fWc; omega) | (unfold fWd; omega)) | refine alk_sL ?_ | refine alk_sLs ?_)
  · simp only [gI_sIx]
    rw [if_neg (by omega), if_neg (by omega), if_neg (by omega), if_neg (by omega), if_neg (by omega)]
set_option maxHeartbeats 4000000 in
theorem s_fall (n : Nat) : S_fall Rel n := by
  intro c d a1 a2 h
  obtain ⟨hL, hC, hD, hI, hB, hS, hT, hW⟩ := id h
  obtain ⟨hf2, ⟨nl, l1, l2, l3⟩, hc2, hv⟩ := id hL
  unfold fX11_fall fX12_fall
  rw [show fX12_in a1 0 399 = fX11_isCell a1 from rfl, show fX11_isWithin a2 0 999 = fX12_isMinute a2 from rfl, l2, l3]
  simp only [if_bI, some_eta]
  cases h1 : fX11_isCell a1 with
  | false => exact ⟨_, _, _, rfl, rfl, h⟩
  | true =>
  cases h2 : fX12_isMinute a2 with
  | false => exact ⟨_, _, _, rfl, rfl, h⟩
  | true =>
  simp only [cond_true]
  by_cases h3 : nI nl = (10 : Int32)
  · rw [if_pos h3, if_pos h3]
    exact ⟨_, _, _, rfl, rfl, h⟩
  rw [if_neg h3, if_neg h3]
  have h10 : nl < 10 := by
    have : ¬ nl = 10 := fun e => h3 (by rw [e]; rfl)
    omega
  obtain ⟨k, hk, rfl⟩ := cell_in h1
  obtain ⟨m, hm, rfl⟩ := min_in h2
  have e1 : rmI (nI k) 20 = nI (k % 20) := rm_nI (a := k) (d := 20) (by omega) (by omega) (by omega)
  have e2 : nI k / 20 = nI (k / 20) := dv_nI (a := k) (d := 20) (by omega) (by omega) (by omega)
  obtain ⟨c', d', x1, x2, x3, -⟩ := addFall_rel h l2 h10 (x := k % 20) (y := k / 20) (by omega) (by omega) hm e1 e2
  rw [e1, e2]
  exact ⟨_, _, _, x1, x2, x3⟩
set_option maxHeartbeats 4000000 in
theorem s_cry (n : Nat) : S_cry Rel n := by
  intro c d a1 a2 h
  obtain ⟨hL, hC, hD, hI, hB, hS, hT, hW⟩ := id h
  obtain ⟨hf2, hl2, ⟨nc, c1, c2, c3⟩, hv⟩ := id hL
  unfold fX11_cry fX12_cry
  rw [show fX11_isPerson a1 = fX12_isPerson a1 from rfl, show fX11_isWithin a2 0 999 = fX12_isMinute a2 from rfl, c2, c3]
  simp only [if_bI, some_eta]
  cases h1 : fX12_isPerson a1 with
  | false => exact ⟨_, _, _, rfl, rfl, h⟩
  | true =>
  cases h2 : fX12_isMinute a2 with
  | false => exact ⟨_, _, _, rfl, rfl, h⟩
  | true =>
  simp only [cond_true]
  by_cases h3 : nI nc = (12 : Int32)
  · rw [if_pos h3, if_pos h3]
    exact ⟨_, _, _, rfl, rfl, h⟩
  rw [if_neg h3, if_neg h3]
  have h12 : nc < 12 := by
    have : ¬ nc = 12 := fun e => h3 (by rw [e]; rfl)
    omega
  obtain ⟨p, hp, rfl⟩ := per_in h1
  obtain ⟨m, hm, rfl⟩ := min_in h2
  unfold fX3_addCry fX3_placeCry fX12_addCry
  simp only [bnd_x, c2, c3, inB_t (show nc < 13 by omega) (by omega), gd_true, nIc (show nc < 100000 by omega), gI_sIx, reduceIte, Nat.reduceEqDiff, Nat.reduceAdd, upd_x, nI_1, nI_s1, Option.bind_some]
  refine ⟨_, _, _, rfl, rfl, ?_⟩
  generalize hc' : sI (sI (sI (sI (sI c 1 3 (nI (nc + 1))) 13 nc (nI p)) 14 nc (nI m)) 15 nc 0) 16 nc 5 = c'
  have g1 : gI c' 1 3 = nI (nc + 1) := by rw [← hc']; rfl
  have g3 : ∀ i, 1 ≤ i → i ≤ 3 → i ≠ 3 → gI c' 1 i = gI c 1 i := fun i a b e => by
    rw [← hc']
    simp only [gI_sIx, reduceIte, Nat.reduceEqDiff, Nat.reduceAdd, upd_x, e]
  have hm : cle c c' := cle_new 3 nc c2 (by omega) g1 g3
  refine ⟨RLa_new hL 10 14 3 13 nc 12 (Or.inr (Or.inr ⟨rfl, rfl, rfl, rfl, rfl⟩)) c2 h12 g1 ?_ g3 ?_ ?_ ?_ ?_, RC_fr hC hm ?_ ?_, RD_fr hD hm ?_ ?_, RI_fr hI hm ?_ ?_, RB_fr hB ?_ ?_, RS_fr hS ?_ ?_ ?_ (fun _ _ _ => by rw [← hc']; rfl) rfl, RT_fr hT ?_ ?_, RW_fr hW ?_ ?_⟩
  · rfl
  · intro i hi e
    simp only [gI_sIx, reduceIte, Nat.reduceEqDiff, Nat.reduceAdd, upd_x, e]
  · intro w' hw6 hw10
    rw [← hc']
    rcases (show w' = 10 ∨ w' = 11 ∨ w' = 12 ∨ w' = 13 by omega) with rfl | rfl | rfl | rfl <;> simp only [gI_sIx, reduceIte, Nat.reduceEqDiff, Nat.reduceAdd, upd_x]
    · exact ⟨trivial, nI_pos' (by omega), nI_le (b := 5) (by omega) (by omega)⟩
    · exact ⟨trivial, nI_pos' (by omega), nI_le (b := 999) (by omega) (by omega)⟩
    · exact ⟨trivial, by decide, by decide⟩
    · exact ⟨trivial, by decide, by decide⟩
  · intro w' j hw hj e
    rw [← hc']
    rcases w14 hw with rfl | rfl | rfl | rfl | rfl | rfl | rfl | rfl | rfl | rfl | rfl | rfl | rfl | rfl
    all_goals first
      | rfl
      | (have ej2 : ¬ j = nc := fun q => e ⟨by omega, by omega, q⟩
         simp only [gI_sIx, reduceIte, Nat.reduceEqDiff, Nat.reduceAdd, upd_x, ej2])
  · intro w' j hw hj e
    rcases w14 hw with rfl | rfl | rfl | rfl | rfl | rfl | rfl | rfl | rfl | rfl | rfl | rfl | rfl | rfl
    all_goals first
      | rfl
      | (have ej2 : ¬ j = nc := fun q => e ⟨by omega, by omega, q⟩
         simp only [gI_sIx, reduceIte, Nat.reduceEqDiff, Nat.reduceAdd, upd_x, ej2])
  all_goals (try rw [← hc'])
  all_goals (try exact i32_rf _)
  all_goals repeat (first | exact alk_rf | refine alk_sI ?_ (by first | (unfold fLc fpL; omega) | (unfold fLd fpL; omega) | (unfold fCc; omega) | (unfold fCd; omega) | (unfold fDc; omega) | (unfold fDd; omega) | (unfold fIc; omega) | (unfold fId; omega) | (unfold fBc; omega) | (unfold fBd; omega) | (unfold fSc; omega) | (unfold fSd; omega) | (unfold fTc; omega) | (unfold fTd; omega) | (unfold fWc; omega) | (unfold fWd; omega)) | refine alk_sL ?_ | refine alk_sLs ?_)
theorem cle_eq {c c' : St} (h : ∀ i, 1 ≤ i → i ≤ 3 → gI c' 1 i = gI c 1 i) : cle c c' := fun i a b => by rw [h i a b]; exact i32_rf _
set_option maxHeartbeats 4000000 in
theorem s_feed (n : Nat) : S_feed Rel n := by
  intro c d a1 h
  obtain ⟨hL, hC, hD, hI, hB, hS, hT, hW⟩ := id h
  obtain ⟨nt, t1, t2, t3, t4⟩ := id hT
  unfold fX11_feed fX12_feed
  rw [isW, isI, t2, t3]
  simp only [if_bI, some_eta]
  by_cases h1 : 0 ≤ a1 ∧ a1 ≤ 255
  · rw [decide_eq_true h1]
    simp only [cond_true]
    by_cases h3 : nI nt = (120 : Int32)
    · rw [if_pos h3, if_pos h3]
      exact ⟨_, _, _, rfl, rfl, h⟩
    rw [if_neg h3, if_neg h3]
    have h120 : nt < 120 := by
      have : ¬ nt = 120 := fun e => h3 (by rw [e]; rfl)
      omega
    obtain ⟨b, hb, rfl⟩ := (in_nat (n := 255) rfl (by omega)).mp h1
    unfold fX5_take
    simp only [bnd_x, t2, t3, inB_t (show nt < 120 by omega) (by omega), gd_true, nIc (show nt < 100000 by omega), gI_sIx, reduceIte, Nat.reduceEqDiff, Nat.reduceAdd, upd_x, nI_1]
    refine ⟨_, _, _, rfl, rfl, ?_⟩
    refine ⟨RLa_fr hL ?_ ?_, RC_fr hC (cle_eq fun _ _ _ => rfl) ?_ ?_, RD_fr hD (cle_eq fun _ _ _ => rfl) ?_ ?_, RI_fr hI (cle_eq fun _ _ _ => rfl) ?_ ?_, RB_fr hB ?_ ?_, RS_fr hS (i32_rf _) ?_ ?_ (fun _ _ _ => rfl) rfl, ⟨nt + 1, by omega, rfl, rfl, fun j hj => ?_⟩, RW_fr hW ?_ ?_⟩
    rotate_left 12
    · simp only [gI_sIx, reduceIte, Nat.reduceEqDiff, Nat.reduceAdd, upd_x]
      by_cases e : j = nt
      · subst e
        exact ⟨b, by omega, if_pos rfl, by rw [if_pos rfl]; exact pk_vb _⟩
      · obtain ⟨b', x1, x2, x3⟩ := t4 j (by omega)
        exact ⟨b', x1, by rw [if_neg e]; exact x2, by rw [if_neg e]; exact x3⟩
    all_goals repeat (first | exact alk_rf | refine alk_sI ?_ (by first | (unfold fLc fpL; omega) | (unfold fLd fpL; omega) | (unfold fCc; omega) | (unfold fCd; omega) | (unfold fDc; omega) | (unfold fDd; omega) | (unfold fIc; omega) | (unfold fId; omega) | (unfold fBc; omega) | (unfold fBd; omega) | (unfold fSc; omega) | (unfold fSd; omega) | (unfold fTc; omega) | (unfold fTd; omega) | (unfold fWc; omega) | (unfold fWd; omega)) | refine alk_sL ?_ | refine alk_sLs ?_)
  · rw [decide_eq_false h1]
    exact ⟨_, _, _, rfl, rfl, h⟩
set_option maxHeartbeats 4000000 in
theorem s_body (n : Nat) : S_body Rel n := by
  intro c d a1 h
  obtain ⟨hL, hC, hD, hI, hB, hS, hT, hW⟩ := id h
  obtain ⟨⟨nb, b1, b2, b3, b4⟩, nr, r1, r2, r3, r4⟩ := id hB
  unfold fX11_body fX12_body fX11_isKind
  rw [isW, isI, b2, b3]
  simp only [if_bI, some_eta]
  by_cases h1 : 0 ≤ a1 ∧ a1 ≤ 7
  · rw [decide_eq_true h1]
    simp only [cond_true]
    by_cases h3 : nI nb = (50 : Int32)
    · rw [if_pos h3, if_pos h3]
      exact ⟨_, _, _, rfl, rfl, h⟩
    rw [if_neg h3, if_neg h3]
    have h50 : nb < 50 := by
      have : ¬ nb = 50 := fun e => h3 (by rw [e]; rfl)
      omega
    obtain ⟨k, hk, rfl⟩ := (in_nat (n := 7) rfl (by omega)).mp h1
    unfold fX0_add
    simp only [bnd_x, b2, b3, inB_t (show nb < 50 by omega) (by omega), gd_true, nIc (show nb < 100000 by omega), gI_sIx, reduceIte, Nat.reduceEqDiff, Nat.reduceAdd, upd_x, nI_1, nI_s1]
    refine ⟨_, _, _, rfl, rfl, ?_⟩
    refine ⟨RLa_fr hL ?_ ?_, RC_fr hC (cle_eq fun _ _ _ => rfl) ?_ ?_, RD_fr hD (cle_eq fun _ _ _ => rfl) ?_ ?_, RI_fr hI (cle_eq fun _ _ _ => rfl) ?_ ?_, ⟨⟨nb + 1, by omega, rfl, rfl, fun j hj => ?_⟩, nr, r1, r2, r3, r4⟩, RS_fr hS ?_ ?_ ?_ (fun _ _ _ => rfl) rfl, RT_fr hT ?_ ?_, RW_fr hW ?_ ?_⟩
    rotate_left 8
    · simp only [gI_sIx, reduceIte, Nat.reduceEqDiff, Nat.reduceAdd, upd_x]
      by_cases e : j = nb
      · subst e
        exact ⟨k, by omega, if_pos rfl, if_pos rfl⟩
      · obtain ⟨k', x1, x2, x3⟩ := b4 j (by omega)
        exact ⟨k', x1, by rw [if_neg e]; exact x2, by rw [if_neg e]; exact x3⟩
    · simp only [gI_sIx, reduceIte, Nat.reduceEqDiff, Nat.reduceAdd, upd_x, b2]
      exact nI_le (by omega) (by omega)
    all_goals repeat (first | exact alk_rf | refine alk_sI ?_ (by first | (unfold fLc fpL; omega) | (unfold fLd fpL; omega) | (unfold fCc; omega) | (unfold fCd; omega) | (unfold fDc; omega) | (unfold fDd; omega) | (unfold fIc; omega) | (unfold fId; omega) | (unfold fBc; omega) | (unfold fBd; omega) | (unfold fSc; omega) | (unfold fSd; omega) | (unfold fTc; omega) | (unfold fTd; omega) | (unfold fWc; omega) | (unfold fWd; omega)) | refine alk_sL ?_ | refine alk_sLs ?_)
  · rw [decide_eq_false h1]
    exact ⟨_, _, _, rfl, rfl, h⟩
