/-! copies of rows -/
def cpI (st : St) (a b j N : Nat) : St := sIs st a (fun x => if j ≤ x ∧ x < N then gI st b x else gI st a x)
theorem st_ext {s t : St} (h : ∀ a x, gI s a x = gI t a x) (h2 : ∀ a, gL s a = gL t a) : s = t := Prod.ext (funext fun a => funext fun x => h a x) (funext fun a => h2 a)
theorem gI_cp (st : St) (a b j N q : Nat) : gI (cpI st a b j N) q = if q = a then (fun x => if j ≤ x ∧ x < N then gI st b x else gI st a x) else gI st q := gI_sIsx st a _ q
theorem cp_end (st : St) (a b : Nat) {j N : Nat} (h : N ≤ j) : cpI st a b j N = st := by
  refine st_ext (fun q x => ?_) (fun _ => rfl)
  rw [gI_cp]
  by_cases e : q = a
  · rw [if_pos e, e]
    show (if j ≤ x ∧ x < N then gI st b x else gI st a x) = gI st a x
    rw [if_neg (by omega)]
  · rw [if_neg e]
theorem cp_step (st : St) {a b j N : Nat} (hab : b ≠ a) (h : j < N) : cpI (sI st a j (gI st b j)) a b (j + 1) N = cpI st a b j N := by
  refine st_ext (fun q x => ?_) (fun _ => rfl)
  rw [gI_cp, gI_cp]
  by_cases e : q = a
  · rw [if_pos e, if_pos e]
    show (if j + 1 ≤ x ∧ x < N then gI (sI st a j (gI st b j)) b x else gI (sI st a j (gI st b j)) a x) = (if j ≤ x ∧ x < N then gI st b x else gI st a x)
    rw [gI_sIx, if_neg hab, gI_sIx, if_pos rfl, upd_x]
    by_cases c1 : x = j
    · rw [if_neg (by omega), if_pos c1, if_pos (by omega), c1]
    · rw [if_neg c1]
      by_cases c2 : j ≤ x ∧ x < N
      · rw [if_pos c2, if_pos (by omega)]
      · rw [if_neg c2, if_neg (by omega)]
  · rw [if_neg e, if_neg e, gI_sIx, if_neg e]
theorem im_4 (n : Nat) : ∀ (m j k : Nat) (st : St), j + m = 4 → m < k → fX12_image_111 n k st (nI j) = some (gI st 32 0, cpI st 36 32 j 4) := by
  intro m
  induction m with
  | zero =>
    intro j k st hj hk
    obtain ⟨k, rfl⟩ : ∃ k', k = k' + 1 := ⟨k - 1, by omega⟩
    rw [fX12_image_111, if_pos (show (4 : Int32) ≤ nI j from nI_le (a := 4) (by omega) (by omega)), cp_end _ _ _ (by omega)]
  | succ m ih =>
    intro j k st hj hk
    obtain ⟨k, rfl⟩ : ∃ k', k = k' + 1 := ⟨k - 1, by omega⟩
    rw [fX12_image_111, if_neg (show ¬ (4 : Int32) ≤ nI j from nI_ge (b := 4) (by omega) (by omega))]
    simp only [inB_t (show j < 4 by omega) (by omega), gd_true, bnd_x, nIc (show j < 100000 by omega), nI_1]
    rw [ih (j + 1) k _ (by omega) (by omega), cp_step _ (by omega) (by omega)]
    rfl
theorem im_3 {n nf : Nat} (hn : 5000 < n) (hf : nf ≤ 8) : ∀ (m j k : Nat) (st : St), j + m = nf → m < k → gI st 0 1 = nI nf → fX12_image_83 n k st (nI j) = some (gI st 32 0, cpI (cpI st 35 5 j nf) 36 32 0 4) := by
  intro m
  induction m with
  | zero =>
    intro j k st hj hk h0
    obtain ⟨k, rfl⟩ : ∃ k', k = k' + 1 := ⟨k - 1, by omega⟩
    rw [fX12_image_83, h0, if_pos (nI_le (by omega) (by omega)), cp_end st 35 5 (j := j) (N := nf) (by omega)]
    exact im_4 n 4 0 n st rfl (by omega)
  | succ m ih =>
    intro j k st hj hk h0
    obtain ⟨k, rfl⟩ : ∃ k', k = k' + 1 := ⟨k - 1, by omega⟩
    rw [fX12_image_83, h0, if_neg (nI_ge (by omega) (by omega))]
    simp only [inB_t (show j < 8 by omega) (by omega), gd_true, bnd_x, nIc (show j < 100000 by omega), nI_1]
    rw [ih (j + 1) k (sI st 35 j (gI st 5 j)) (by omega) (by omega) h0, cp_step _ (by omega) (by omega)]
    rfl
theorem im_2 {n nf : Nat} (hn : 5000 < n) (hf : nf ≤ 8) : ∀ (m j k : Nat) (st : St), j + m = 36 → m < k → gI st 0 1 = nI nf → fX12_image_57 n k st (nI j) = some (gI st 32 0, cpI (cpI (cpI st 34 31 j 36) 35 5 0 nf) 36 32 0 4) := by
  intro m
  induction m with
  | zero =>
    intro j k st hj hk h0
    obtain ⟨k, rfl⟩ : ∃ k', k = k' + 1 := ⟨k - 1, by omega⟩
    rw [fX12_image_57, if_pos (show (36 : Int32) ≤ nI j from nI_le (a := 36) (by omega) (by omega)), cp_end st 34 31 (j := j) (N := 36) (by omega)]
    exact im_3 hn hf nf 0 n st (by omega) (by omega) h0
  | succ m ih =>
    intro j k st hj hk h0
    obtain ⟨k, rfl⟩ : ∃ k', k = k' + 1 := ⟨k - 1, by omega⟩
    rw [fX12_image_57, if_neg (show ¬ (36 : Int32) ≤ nI j from nI_ge (b := 36) (by omega) (by omega))]
    simp only [inB_t (show j < 36 by omega) (by omega), gd_true, bnd_x, nIc (show j < 100000 by omega), nI_1]
    rw [ih (j + 1) k (sI st 34 j (gI st 31 j)) (by omega) (by omega) h0, cp_step _ (by omega) (by omega)]
    rfl
theorem bit_nar (F j : Nat) : vp_nar .boolean (bit F j) = bit F j := by
  unfold bit
  split <;> rfl
theorem im_1 {n nf nl F : Nat} (hn : 5000 < n) (hf : nf ≤ 8) (hl : nl ≤ 10) (h4 : ∀ j, j < 10 → nl ≤ j → F.testBit j = false) : ∀ (m j k : Nat) (st : St), j + m = 10 → m < k → gI st 0 1 = nI nf → gI st 0 8 = nI nl → (∀ j, j < 10 → gI st 30 j = bit F j) → fX12_image_15 n k st (nI j) = some (gI st 32 0, cpI (cpI (cpI (cpI st 33 30 j 10) 34 31 0 36) 35 5 0 nf) 36 32 0 4) := by
  intro m
  induction m with
  | zero =>
    intro j k st hj hk h0 h8 h30
    obtain ⟨k, rfl⟩ : ∃ k', k = k' + 1 := ⟨k - 1, by omega⟩
    rw [fX12_image_15, if_pos (show (10 : Int32) ≤ nI j from nI_le (a := 10) (by omega) (by omega)), cp_end st 33 30 (j := j) (N := 10) (by omega)]
    exact im_2 hn hf 36 0 n st (by omega) (by omega) h0
  | succ m ih =>
    intro j k st hj hk h0 h8 h30
    obtain ⟨k, rfl⟩ : ∃ k', k = k' + 1 := ⟨k - 1, by omega⟩
    rw [fX12_image_15, if_neg (show ¬ (10 : Int32) ≤ nI j from nI_ge (b := 10) (by omega) (by omega)), h8]
    simp only [inB_t (show j < 11 by omega) (by omega), gd_true, bnd_x, nIc (show j < 100000 by omega), nI_1]
    have hs : ∀ v : Int32, v = gI st 30 j → fX12_image_15 n k (sI st 33 j v) (nI (j + 1)) = some (gI st 32 0, cpI (cpI (cpI (cpI st 33 30 j 10) 34 31 0 36) 35 5 0 nf) 36 32 0 4) := fun v hv => by
      rw [hv, ih (j + 1) k (sI st 33 j (gI st 30 j)) (by omega) (by omega) h0 h8 h30, cp_step _ (by omega) (by omega)]
      rfl
    have hb := h30 j (by omega)
    by_cases c1 : nl ≤ j
    · rw [if_pos (nI_le c1 (by omega))]
      refine hs _ ?_
      rw [hb]
      unfold bit
      rw [h4 j (by omega) c1]
      rfl
    · rw [if_neg (nI_ge (by omega) (by omega))]
      by_cases c2 : gI st 30 j = 0
      · rw [if_pos c2]
        exact hs _ c2.symm
      · rw [if_neg c2]
        refine hs _ ?_
        rw [hb] at c2 ⊢
        unfold bit at c2 ⊢
        cases hF : F.testBit j with
        | true => rfl
        | false => rw [hF] at c2; exact absurd rfl c2
theorem va36 : cpB (0 : Int32) (0 : Int32) (36 : Int32) 36 36 = true := by decide
theorem cp0 {k a b : Nat} (h1 : k ≤ a) (h2 : k ≤ b) (hk : k < 100000) : cpB (0 : Int32) (0 : Int32) (nI k) a b = true := by
  unfold cpB
  rw [nIc hk]
  exact decide_eq_true ⟨by decide, by decide, nI_pos (by omega), by show 0 + k ≤ a; omega, by show 0 + k ≤ b; omega⟩
theorem cpy0 (f g : Nat → Int32) (N x : Nat) : va_cpy f g (0 : Int32).toNatClampNeg (0 : Int32).toNatClampNeg N x = if x < N then f x else g x := by
  rw [show (0 : Int32).toNatClampNeg = 0 from rfl]
  by_cases h : x < N
  · rw [if_pos h, pk_cpy_in (by omega) (by omega)]
    congr 1
    omega
  · rw [if_neg h, pk_cpy_out (by omega)]
set_option maxHeartbeats 4000000 in
theorem s_image {n : Nat} (hn : 5000 < n) : S_image Rel n := by
  intro c d h
  obtain ⟨hL, hC, hD, hI, hB, hS, hT, hW⟩ := id h
  obtain ⟨⟨nf, f1, f2, f3⟩, ⟨nl, l1, l2, l3⟩, ⟨nc, c1, c2, c3⟩, hv⟩ := id hL
  obtain ⟨⟨F, F1, F2, F3, F4, F5⟩, D1, D2, D3, D4⟩ := id hD
  have F4' : ∀ j, j < 10 → nl ≤ j → F.testBit j = false := fun j hj q => F4 j hj (by rw [l2, nIle (by omega) (by omega)]; exact q)
  have eM : fX12_image n d = some (gI d 32 0, cpI (cpI (cpI (cpI (sI (sI d 0 44 1) 0 45 (nI nf)) 33 30 0 10) 34 31 0 36) 35 5 0 nf) 36 32 0 4) := by
    unfold fX12_image
    simp only [bnd_x]
    rw [show gI (sI d 0 44 1) 0 1 = nI nf from f3]
    exact im_1 hn f1 l1 F4' 10 0 n _ rfl (by omega) f3 l3 F3
  have eC : ∃ c', fX11_image c = some (nI (pop F 10), c') ∧ (∀ q x, ¬ (q = 0 ∧ x = 10) → q ≠ 41 → q ≠ 42 → q ≠ 43 → gI c' q x = gI c q x) ∧ gI c' 0 10 = nI nf ∧ (∀ i, 1 ≤ i → i ≤ 4 → gI c' 41 i = gI c 39 i) ∧ (∀ j, j < 36 → gI c' 42 j = gI c 40 j) ∧ (∀ j, j < nf → gI c' 43 j = gI c 7 j) ∧ (∀ k, gL c' k = gL c k) := by
    unfold fX11_image fX2_copyOf_1
    rw [va36]
    simp only [bnd_x, gd_true, Option.bind_some, gI_sIx, gI_sIsx, reduceIte, Nat.reduceEqDiff, upd_x, f2, cp0 (show nf ≤ 13 by omega) f1 (by omega), nIc (show nf < 100000 by omega), F2, bc_all F F1]
    refine ⟨_, rfl, fun q x h1 h2 h3 h4 => ?_, ?_, fun i hi hi2 => ?_, fun j hj => ?_, fun j hj => ?_, fun k => rfl⟩
    · rw [gI_sIsx, if_neg h4, gI_sIx]
      by_cases e : q = 0
      · subst e
        rw [if_pos rfl, upd_x, if_neg (fun e => h1 ⟨rfl, e⟩)]
        simp only [gI_sIx, gI_sIsx, reduceIte, Nat.reduceEqDiff]
      · rw [if_neg e]
        simp only [gI_sIx, gI_sIsx, if_neg h2, if_neg h3]
    · simp only [gI_sIx, gI_sIsx, reduceIte, Nat.reduceEqDiff, upd_x]
    · rcases (show i = 1 ∨ i = 2 ∨ i = 3 ∨ i = 4 by omega) with rfl | rfl | rfl | rfl <;> simp only [gI_sIx, gI_sIsx, reduceIte, Nat.reduceEqDiff, upd_x, F2]
    · simp only [gI_sIx, gI_sIsx, reduceIte, Nat.reduceEqDiff]
      rw [cpy0, if_pos (show j < (36 : Int32).toNatClampNeg from hj)]
    · simp only [gI_sIx, gI_sIsx, reduceIte, Nat.reduceEqDiff]
      rw [cpy0, if_pos hj]
  obtain ⟨c', e1, e2, e3, e4, e5, e6, e7⟩ := eC
  rw [eM, e1, F5]
  refine ⟨_, _, _, rfl, rfl, ?_⟩
  generalize hd' : cpI (cpI (cpI (cpI (sI (sI d 0 44 1) 0 45 (nI nf)) 33 30 0 10) 34 31 0 36) 35 5 0 nf) 36 32 0 4 = d'
  have g0 : ∀ q x, ¬ (q = 0 ∧ (x = 44 ∨ x = 45)) → ¬ (33 ≤ q ∧ q ≤ 36) → gI d' q x = gI d q x := fun q x h1 h2 => by
    rw [← hd', gI_cp, if_neg (by omega), gI_cp, if_neg (by omega), gI_cp, if_neg (by omega), gI_cp, if_neg (by omega), gI_sIx]
    by_cases e : q = 0
    · subst e
      rw [if_pos rfl, upd_x, if_neg (by omega), gI_sIx, if_pos rfl, upd_x, if_neg (by omega)]
    · rw [if_neg e, gI_sIx, if_neg e]
  have g44 : gI d' 0 44 = 1 := by rw [← hd']; rfl
  have g45 : gI d' 0 45 = nI nf := by rw [← hd']; rfl
  have g33 : ∀ x, x < 10 → gI d' 33 x = gI d 30 x := fun x hx => by
    rw [← hd', gI_cp, if_neg (by omega), gI_cp, if_neg (by omega), gI_cp, if_neg (by omega), gI_cp, if_pos rfl]
    show (if 0 ≤ x ∧ x < 10 then _ else _) = _
    rw [if_pos (by omega)]; rfl
  have g34 : ∀ x, x < 36 → gI d' 34 x = gI d 31 x := fun x hx => by
    rw [← hd', gI_cp, if_neg (by omega), gI_cp, if_neg (by omega), gI_cp, if_pos rfl]
    show (if 0 ≤ x ∧ x < 36 then _ else _) = _
    rw [if_pos (by omega)]; rfl
  have g35 : ∀ x, x < nf → gI d' 35 x = gI d 5 x := fun x hx => by
    rw [← hd', gI_cp, if_neg (by omega), gI_cp, if_pos rfl]
    show (if 0 ≤ x ∧ x < nf then _ else _) = _
    rw [if_pos (by omega)]; rfl
  have g36 : ∀ x, x < 4 → gI d' 36 x = gI d 32 x := fun x hx => by
    rw [← hd', gI_cp, if_pos rfl]
    show (if 0 ≤ x ∧ x < 4 then _ else _) = _
    rw [if_pos (by omega)]; rfl
  have g41 : gL d' 41 = gL d 41 := by rw [← hd']; rfl
  have h11 : ∀ x, gI c' 1 x = gI c 1 x := fun x => e2 1 x (by omega) (by omega) (by omega) (by omega)
  have hm : cle c c' := cle_eq fun i _ _ => h11 i
  refine ⟨RLa_fr hL (fun k i q => e2 k i ?_ ?_ ?_ ?_) (fun k i q => g0 k i ?_ ?_), RC_fr hC hm (fun k i q => e2 k i ?_ ?_ ?_ ?_) (fun k i q => g0 k i ?_ ?_), RD_fr hD hm (fun k i q => e2 k i ?_ ?_ ?_ ?_) (fun k i q => g0 k i ?_ ?_), ?_, RB_fr hB (fun k i q => e2 k i ?_ ?_ ?_ ?_) (fun k i q => g0 k i ?_ ?_), RS_fr hS ?_ (fun k i q => e2 k i ?_ ?_ ?_ ?_) (fun k i q => g0 k i ?_ ?_) (fun k _ _ => e7 k) g41, RT_fr hT (fun k i q => e2 k i ?_ ?_ ?_ ?_) (fun k i q => g0 k i ?_ ?_), RW_fr hW (fun k i q => e2 k i ?_ ?_ ?_ ?_) (fun k i q => g0 k i ?_ ?_)⟩
  case refine_19 =>
    refine Or.inr ⟨g44, ⟨⟨F, F1, by rw [e4 1 (by omega) (by omega), F2], fun j hj => by rw [g33 j hj]; exact F3 j hj, fun j hj q => by rw [h11] at q; exact F4 j hj q, by rw [g36 0 (by omega)]; exact F5⟩, fun j hj => by rw [g34 j hj, e5 j hj]; exact D1 j hj, by rw [g36 1 (by omega), e4 2 (by omega) (by omega)]; exact D2, by rw [g36 2 (by omega), e4 3 (by omega) (by omega)]; exact D3, by rw [g36 3 (by omega), e4 4 (by omega) (by omega)]; exact D4⟩, nf, f1, by rw [h11, f2]; exact i32_rf _, e3, g45, fun j hj => ?_⟩
    rw [g35 j hj, e6 j hj]
    exact hv 4 j (by omega) (by omega) (by show nI j < gI c 1 1; rw [f2, nIlt (by omega) (by omega)]; exact hj)
  all_goals first
    | (unfold fLc fpL at q; omega)
    | (unfold fLd fpL at q; omega)
    | (unfold fCc at q; omega)
    | (unfold fCd at q; omega)
    | (unfold fDc at q; omega)
    | (unfold fDd at q; omega)
    | (unfold fBc at q; omega)
    | (unfold fBd at q; omega)
    | (unfold fSc at q; omega)
    | (unfold fSd at q; omega)
    | (unfold fTc at q; omega)
    | (unfold fTd at q; omega)
    | (unfold fWc at q; omega)
    | (unfold fWd at q; omega)
    | (rw [e2 49 1 (by omega) (by omega) (by omega) (by omega)]; exact i32_rf _)
