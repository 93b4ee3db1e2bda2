theorem sh_in {a : Int32} (h : fX12_isShelf a = true) : ∃ k : Nat, k < 6 ∧ a = nI k := by
  unfold fX12_isShelf at h
  rw [isI, decide_eq_true_eq] at h
  obtain ⟨j, hj, e⟩ := (in_nat (n := 5) rfl (by omega)).mp h
  exact ⟨j, by omega, e⟩
theorem sh_eq (a : Int32) : fX11_isShelf a = fX12_isShelf a := rfl
/-- one shelf changes -/
theorem RS_one {c c' d d' : St} (h : RS c d) (i : Nat) (hb : gI c 49 1 ≤ gI c' 49 1) (h1 : ∀ i', i' < 6 → i' ≠ i → (∀ j, j < 4 → gI c' (53 + 2 * i') j = gI c (53 + 2 * i') j) ∧ gI d' 39 i' = gI d 39 i' ∧ gI d' 40 i' = gI d 40 i' ∧ (∀ j, j < 60 → gL c' (54 + 2 * i') j = gL c (54 + 2 * i') j) ∧ (∀ j, j < 60 → gL d' 41 (60 * i' + j) = gL d 41 (60 * i' + j))) (h2 : RSi c' d' i) (h3 : ∀ j, j < 60 → gL d' 41 (60 * i + j) = gL c' (54 + 2 * i) j) : RS c' d' := by
  intro i' hi'
  by_cases e : i' = i
  · subst e
    exact ⟨h2, h3⟩
  · obtain ⟨a1, a2, a3, a4, a5⟩ := h1 i' hi' e
    exact ⟨RSi_fr hi' (h i' hi').1 a1 hb a2 a3 a4, fun j hj => by rw [a5 j hj, a4 j hj]; exact (h i' hi').2 j hj⟩
/-- the rest of the tie, when only shelves change -/
theorem Rel_sh {c c' d d' : St} (h : Rel c d) (hc : ∀ q x, q < 53 → gI c' q x = gI c q x) (hd : ∀ q x, q ≠ 39 → q ≠ 40 → gI d' q x = gI d q x) (hS : RS c' d') : Rel c' d' := by
  obtain ⟨hL, hC, hD, hI, hB, -, hT, hW⟩ := h
  have hcle : cle c c' := cle_eq fun i _ _ => hc 1 i (by omega)
  exact ⟨RLa_fr hL (fun q x hq => hc q x (by unfold fLc fpL at hq; omega)) (fun q x hq => hd q x (by unfold fLd fpL at hq; omega) (by unfold fLd fpL at hq; omega)), RC_fr hC hcle (fun q x hq => hc q x (by unfold fCc at hq; omega)) (fun q x hq => hd q x (by unfold fCd at hq; omega) (by unfold fCd at hq; omega)), RD_fr hD hcle (fun q x hq => hc q x (by unfold fDc at hq; omega)) (fun q x hq => hd q x (by unfold fDd at hq; omega) (by unfold fDd at hq; omega)), RI_fr hI hcle (fun q x hq => hc q x (by unfold fIc at hq; omega)) (fun q x hq => hd q x (by unfold fId at hq; omega) (by unfold fId at hq; omega)), RB_fr hB (fun q x hq => hc q x (by unfold fBc at hq; omega)) (fun q x hq => hd q x (by unfold fBd at hq; omega) (by unfold fBd at hq; omega)), hS, RT_fr hT (fun q x hq => hc q x (by unfold fTc at hq; omega)) (fun q x hq => hd q x (by unfold fTd at hq; omega) (by unfold fTd at hq; omega)), RW_fr hW (fun q x hq => hc q x (by unfold fWc at hq; omega)) (fun q x hq => hd q x (by unfold fWd at hq; omega) (by unfold fWd at hq; omega))⟩
/-- a shelf holds nothing or a body -/
theorem keep_rel {c d : St} (h : Rel c d) {i : Nat} (hi : i < 6) {a : Int32} (ha : a = -1 ∨ ∃ b : Nat, b < 50 ∧ nI b < gI c 49 1 ∧ a = nI b) : Rel (fX7_hold c i a) (sI d 39 i a) := by
  have hold : ∃ x : Int32, fX7_hold c i a = sI (sI c (53 + 2 * i) 0 x) (53 + 2 * i) 1 a ∧ ((a = -1 ∧ x = 0) ∨ ((∃ b : Nat, b < 50 ∧ nI b < gI c 49 1 ∧ a = nI b) ∧ x = 1)) := by
    unfold fX7_hold
    rcases ha with e | ⟨b, b1, b2, e⟩
    · rw [e, if_neg (by decide)]
      exact ⟨0, rfl, Or.inl ⟨rfl, rfl⟩⟩
    · rw [e, if_pos (nI_pos' (by omega))]
      exact ⟨1, rfl, Or.inr ⟨⟨b, b1, b2, rfl⟩, rfl⟩⟩
  obtain ⟨x, e, hx⟩ := hold
  rw [e]
  refine Rel_sh h (fun q y hq => ?_) (fun q y h1 h2 => ?_) ?_
  · rw [gI_sIx, if_neg (by omega), gI_sIx, if_neg (by omega)]
  · rw [gI_sIx, if_neg h1]
  · refine RS_one h.2.2.2.2.2.1 i ?_ (fun i' h1 h2 => ⟨fun j hj => ?_, ?_, rfl, fun j hj => rfl, fun j hj => rfl⟩) ?_ (fun j hj => (h.2.2.2.2.2.1 i hi).2 j hj)
    · rw [gI_sIx, if_neg (by omega), gI_sIx, if_neg (by omega)]
      exact i32_rf _
    · rw [gI_sIx, if_neg (by omega), gI_sIx, if_neg (by omega)]
    · rw [gI_sIx, if_pos rfl, upd_x, if_neg h2]
    · have e0 : gI (sI (sI c (53 + 2 * i) 0 x) (53 + 2 * i) 1 a) (53 + 2 * i) 0 = x := by
        rw [gI_sIx, if_pos rfl, upd_x, if_neg (by omega), gI_sIx, if_pos rfl, upd_x, if_pos rfl]
      have e1 : gI (sI (sI c (53 + 2 * i) 0 x) (53 + 2 * i) 1 a) (53 + 2 * i) 1 = a := by
        rw [gI_sIx, if_pos rfl, upd_x, if_pos rfl]
      have e2 : gI (sI d 39 i a) 39 i = a := by
        rw [gI_sIx, if_pos rfl, upd_x, if_pos rfl]
      unfold RSi
      rw [e0, e1, e2]
      rcases hx with ⟨q1, q2⟩ | ⟨⟨b, q1, q2, q3⟩, q4⟩
      · exact Or.inl ⟨q2, q1⟩
      · exact Or.inr (Or.inl ⟨q4, b, q1, by rw [gI_sIx, if_neg (by omega), gI_sIx, if_neg (by omega)]; exact q2, q3, q3⟩)
set_option maxHeartbeats 4000000 in
theorem s_keep (n : Nat) : S_keep Rel n := by
  intro c d a1 a2 h
  obtain ⟨hL, hC, hD, hI, hB, hS, hT, hW⟩ := id h
  obtain ⟨⟨nb, b1, b2, b3, b4⟩, hr⟩ := id hB
  unfold fX11_keep fX12_keep
  rw [sh_eq]
  simp only [if_bI]
  cases h1 : fX12_isShelf a1 with
  | false => exact ⟨_, _, _, rfl, rfl, h⟩
  | true =>
  obtain ⟨i, hi, rfl⟩ := sh_in h1
  simp only [cond_true, inB_t hi (by omega), gd_true, bnd_x, nIc (show i < 100000 by omega)]
  by_cases h2 : a2 = -1
  · rw [if_pos h2, if_pos h2]
    exact ⟨_, _, _, rfl, rfl, keep_rel h hi (Or.inl h2)⟩
  rw [if_neg h2, if_neg h2]
  unfold fX11_isBody fX12_isBody
  rw [b2, b3, isW, isI]
  by_cases h3 : 0 ≤ a2 ∧ a2 ≤ nI nb - 1
  · rw [decide_eq_true h3]
    obtain ⟨b, hb, rfl⟩ := (cnt_in a2 (by omega)).mp h3
    exact ⟨_, _, _, rfl, rfl, keep_rel h hi (Or.inr ⟨b, by omega, by rw [b2, nIlt (by omega) (by omega)]; exact hb, rfl⟩)⟩
  · rw [decide_eq_false h3]
    exact ⟨_, _, _, rfl, rfl, h⟩
/-- places a to b are 0 -/
def zr (f : Nat → Int64) (a b : Nat) : Nat → Int64 := fun x => if a ≤ x ∧ x < b then 0 else f x
theorem row_loop (n i : Nat) (hi : i < 6) : ∀ (m j k : Nat) (st : St), j + m = 60 → m < k → ∃ st' : St, fX12_row_54 n k st (nI i) (nI (60 * i + j)) = some (1, st') ∧ (∀ q x, gI st' q x = gI st q x) ∧ (∀ x, gL st' 41 x = zr (gL st 41) (60 * i + j) (60 * i + 60) x) ∧ (∀ q, q ≠ 41 → gL st' q = gL st q) := by
  intro m
  induction m with
  | zero =>
    intro j k st hj hk
    obtain ⟨k, rfl⟩ : ∃ k', k = k' + 1 := ⟨k - 1, by omega⟩
    have e : (60 : Int32) * nI i + 60 = nI (60 * i + 60) := by rw [show (60 : Int32) = nI 60 from rfl, pk_mul, nI_add]
    rw [fX12_row_54, e, if_pos (by rw [nIle (by omega) (by omega)]; omega)]
    refine ⟨st, rfl, fun _ _ => rfl, fun x => ?_, fun _ _ => rfl⟩
    unfold zr
    rw [if_neg (by omega)]
  | succ m ih =>
    intro j k st hj hk
    obtain ⟨k, rfl⟩ : ∃ k', k = k' + 1 := ⟨k - 1, by omega⟩
    have e : (60 : Int32) * nI i + 60 = nI (60 * i + 60) := by rw [show (60 : Int32) = nI 60 from rfl, pk_mul, nI_add]
    rw [fX12_row_54, e, if_neg (by rw [nIle (by omega) (by omega)]; omega)]
    simp only [inB_t (show 60 * i + j < 360 by omega) (by omega), gd_true, bnd_x, nIc (show 60 * i + j < 100000 by omega), nI_1]
    obtain ⟨st', e1, e2, e3, e4⟩ := ih (j + 1) k (sL st 41 (60 * i + j) 0) (by omega) (by omega)
    refine ⟨st', e1, fun q x => (e2 q x).trans rfl, fun x => ?_, fun q hq => ?_⟩
    · rw [e3 x]
      unfold zr
      rw [gL_sLx, if_pos rfl, updL_x]
      by_cases c1 : x = 60 * i + j
      · rw [if_pos c1, if_neg (by omega), if_pos (by omega)]
      · rw [if_neg c1]
        by_cases c2 : 60 * i + (j + 1) ≤ x ∧ x < 60 * i + 60
        · rw [if_pos c2, if_pos (by omega)]
        · rw [if_neg c2, if_neg (by omega)]
    · rw [e4 q hq, gL_sLx, if_neg hq]
set_option maxHeartbeats 4000000 in
theorem s_row {n : Nat} (hn : 100 < n) : S_row Rel n := by
  intro c d a1 a2 a3 h
  obtain ⟨hL, hC, hD, hI, hB, hS, hT, hW⟩ := id h
  unfold fX11_row fX12_row
  rw [sh_eq, isW, isI]
  simp only [if_bI]
  cases h1 : fX12_isShelf a1 with
  | false => exact ⟨_, _, _, rfl, rfl, h⟩
  | true =>
  obtain ⟨i, hi, rfl⟩ := sh_in h1
  by_cases h2 : 0 ≤ a2 ∧ a2 ≤ 4
  · rw [decide_eq_true h2]
    obtain ⟨so, hso, rfl⟩ := (in_nat (n := 4) rfl (by omega)).mp h2
    simp only [cond_true]
    by_cases h3 : a3 ≤ 60
    · rw [if_pos h3, if_pos h3]
      by_cases h4 : 0 ≤ a3
      · rw [if_pos h4, if_pos h4]
        obtain ⟨ln, hln, rfl⟩ := (in_nat (n := 60) rfl (by omega)).mp ⟨h4, h3⟩
        simp only [inB_t hi (by omega), gd_true, bnd_x, nIc (show i < 100000 by omega)]
        have e60 : (60 : Int32) * nI i = nI (60 * i + 0) := by rw [show (60 : Int32) = nI 60 from rfl, pk_mul, Nat.add_zero]
        obtain ⟨st', r1, r2, r3, r4⟩ := row_loop n i hi 60 0 n (sI (sI d 39 i (-2 - nI so)) 40 i (nI ln)) (by omega) (by omega)
        rw [e60, r1]
        unfold fX7_holdRow
        simp only [bnd_x]
        refine ⟨_, _, _, rfl, rfl, ?_⟩
        have k53 : ∀ q, q ≠ 53 + 2 * i → ∀ y, gI (sLs (sI (sI (sI c (53 + 2 * i) 0 2) (53 + 2 * i) 2 (nI so)) (53 + 2 * i) 3 (nI ln)) (54 + 2 * i) (flL (gL (sI (sI (sI c (53 + 2 * i) 0 2) (53 + 2 * i) 2 (nI so)) (53 + 2 * i) 3 (nI ln)) (54 + 2 * i)) 60 0)) q y = gI c q y := fun q hq y => by
          rw [gI_sLs, gI_sIx, if_neg hq, gI_sIx, if_neg hq, gI_sIx, if_neg hq]
        refine Rel_sh h (fun q y hq => k53 q (by omega) y) (fun q y h1 h2 => ?_) ?_
        · rw [r2, gI_sIx, if_neg h2, gI_sIx, if_neg h1]
        · refine RS_one hS i ?_ (fun i' h1 h2 => ⟨fun j hj => k53 _ (by omega) j, ?_, ?_, fun j hj => ?_, fun j hj => ?_⟩) ?_ (fun j hj => ?_)
          · rw [k53 49 (by omega) 1]
            exact i32_rf _
          · rw [r2, gI_sIx, if_neg (by omega), gI_sIx, if_pos rfl, upd_x, if_neg h2]
          · rw [r2, gI_sIx, if_pos rfl, upd_x, if_neg h2]; rfl
          · rw [gL_sLsx, if_neg (by omega)]; rfl
          · rw [r3]
            unfold zr
            rw [if_neg (by omega)]
            rfl
          · refine Or.inr (Or.inr ⟨?_, so, ln, by omega, hln, ?_, ?_, ?_, ?_, fun _ j hj => ?_, fun _ j hj => ?_⟩)
            · simp only [gI_sLs, gI_sIx, reduceIte, upd_x, Nat.reduceEqDiff]
            · simp only [gI_sLs, gI_sIx, reduceIte, upd_x, Nat.reduceEqDiff]
            · rw [r2]
              simp only [gI_sIx, reduceIte, upd_x, Nat.reduceEqDiff]
            · simp only [gI_sLs, gI_sIx, reduceIte, upd_x, Nat.reduceEqDiff]
            · rw [r2]
              simp only [gI_sIx, reduceIte, upd_x, Nat.reduceEqDiff]
            · rw [gL_sLsx, if_pos rfl]
              unfold flL
              rw [if_pos hj]
              decide
            · rw [gL_sLsx, if_pos rfl]
              unfold flL
              rw [if_pos hj]
              decide
          · rw [r3, gL_sLsx, if_pos rfl]
            unfold zr flL
            rw [if_pos (by omega), if_pos hj]
      · rw [if_neg h4, if_neg h4]
        exact ⟨_, _, _, rfl, rfl, h⟩
    · rw [if_neg h3, if_neg h3]
      exact ⟨_, _, _, rfl, rfl, h⟩
  · rw [decide_eq_false h2]
    exact ⟨_, _, _, rfl, rfl, h⟩
