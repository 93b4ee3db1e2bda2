theorem bk_4 (n : Nat) : ∀ (m j k : Nat) (st : St), j + m = 4 → m < k → ∃ r, fX12_back_92 n k st (nI j) = some (r, cpI st 32 36 j 4) ∧ r = gI (cpI st 32 36 j 4) 32 0 := by
  intro m
  induction m with
  | zero =>
    intro j k st hj hk
    obtain ⟨k, rfl⟩ : ∃ k', k = k' + 1 := ⟨k - 1, by omega⟩
    rw [fX12_back_92, if_pos (show (4 : Int32) ≤ nI j from nI_le (a := 4) (by omega) (by omega)), cp_end _ _ _ (by omega)]
    exact ⟨_, rfl, rfl⟩
  | succ m ih =>
    intro j k st hj hk
    obtain ⟨k, rfl⟩ : ∃ k', k = k' + 1 := ⟨k - 1, by omega⟩
    rw [fX12_back_92, if_neg (show ¬ (4 : Int32) ≤ nI j from nI_ge (b := 4) (by omega) (by omega))]
    simp only [inB_t (show j < 4 by omega) (by omega), gd_true, bnd_x, nIc (show j < 100000 by omega), nI_1]
    obtain ⟨r, e1, e2⟩ := ih (j + 1) k (sI st 32 j (gI st 36 j)) (by omega) (by omega)
    rw [cp_step _ (by omega) (by omega)] at e1 e2
    exact ⟨r, e1, e2⟩
theorem bk_3 {n nf : Nat} (hn : 5000 < n) (hf : nf ≤ 8) : ∀ (m j k : Nat) (st : St), j + m = nf → m < k → gI st 0 45 = nI nf → ∃ r, fX12_back_64 n k st (nI j) = some (r, cpI (cpI st 5 35 j nf) 32 36 0 4) ∧ r = gI (cpI (cpI st 5 35 j nf) 32 36 0 4) 32 0 := by
  intro m
  induction m with
  | zero =>
    intro j k st hj hk h0
    obtain ⟨k, rfl⟩ : ∃ k', k = k' + 1 := ⟨k - 1, by omega⟩
    rw [fX12_back_64, h0, if_pos (nI_le (by omega) (by omega)), cp_end st 5 35 (j := j) (N := nf) (by omega)]
    exact bk_4 n 4 0 n st rfl (by omega)
  | succ m ih =>
    intro j k st hj hk h0
    obtain ⟨k, rfl⟩ : ∃ k', k = k' + 1 := ⟨k - 1, by omega⟩
    rw [fX12_back_64, h0, if_neg (nI_ge (by omega) (by omega))]
    simp only [inB_t (show j < 8 by omega) (by omega), gd_true, bnd_x, nIc (show j < 100000 by omega), nI_1]
    obtain ⟨r, e1, e2⟩ := ih (j + 1) k (sI st 5 j (gI st 35 j)) (by omega) (by omega) h0
    rw [cp_step _ (by omega) (by omega)] at e1 e2
    exact ⟨r, e1, e2⟩
theorem bk_2 {n nf : Nat} (hn : 5000 < n) (hf : nf ≤ 8) : ∀ (m j k : Nat) (st : St), j + m = 36 → m < k → gI st 0 45 = nI nf → ∃ r, fX12_back_38 n k st (nI j) = some (r, cpI (cpI (cpI st 31 34 j 36) 5 35 0 nf) 32 36 0 4) ∧ r = gI (cpI (cpI (cpI st 31 34 j 36) 5 35 0 nf) 32 36 0 4) 32 0 := by
  intro m
  induction m with
  | zero =>
    intro j k st hj hk h0
    obtain ⟨k, rfl⟩ : ∃ k', k = k' + 1 := ⟨k - 1, by omega⟩
    rw [fX12_back_38, if_pos (show (36 : Int32) ≤ nI j from nI_le (a := 36) (by omega) (by omega)), cp_end st 31 34 (j := j) (N := 36) (by omega)]
    exact bk_3 hn hf nf 0 n st (by omega) (by omega) h0
  | succ m ih =>
    intro j k st hj hk h0
    obtain ⟨k, rfl⟩ : ∃ k', k = k' + 1 := ⟨k - 1, by omega⟩
    rw [fX12_back_38, if_neg (show ¬ (36 : Int32) ≤ nI j from nI_ge (b := 36) (by omega) (by omega))]
    simp only [inB_t (show j < 36 by omega) (by omega), gd_true, bnd_x, nIc (show j < 100000 by omega), nI_1]
    obtain ⟨r, e1, e2⟩ := ih (j + 1) k (sI st 31 j (gI st 34 j)) (by omega) (by omega) h0
    rw [cp_step _ (by omega) (by omega)] at e1 e2
    exact ⟨r, e1, e2⟩
theorem bk_1 {n nf F : Nat} (hn : 5000 < n) (hf : nf ≤ 8) : ∀ (m j k : Nat) (st : St), j + m = 10 → m < k → gI st 0 45 = nI nf → (∀ j, j < 10 → gI st 33 j = bit F j) → ∃ r, fX12_back_12 n k st (nI j) = some (r, cpI (cpI (cpI (cpI st 30 33 j 10) 31 34 0 36) 5 35 0 nf) 32 36 0 4) ∧ r = gI (cpI (cpI (cpI (cpI st 30 33 j 10) 31 34 0 36) 5 35 0 nf) 32 36 0 4) 32 0 := by
  intro m
  induction m with
  | zero =>
    intro j k st hj hk h0 h33
    obtain ⟨k, rfl⟩ : ∃ k', k = k' + 1 := ⟨k - 1, by omega⟩
    rw [fX12_back_12, if_pos (show (10 : Int32) ≤ nI j from nI_le (a := 10) (by omega) (by omega)), cp_end st 30 33 (j := j) (N := 10) (by omega)]
    exact bk_2 hn hf 36 0 n st (by omega) (by omega) h0
  | succ m ih =>
    intro j k st hj hk h0 h33
    obtain ⟨k, rfl⟩ : ∃ k', k = k' + 1 := ⟨k - 1, by omega⟩
    rw [fX12_back_12, if_neg (show ¬ (10 : Int32) ≤ nI j from nI_ge (b := 10) (by omega) (by omega))]
    simp only [inB_t (show j < 11 by omega) (by omega), gd_true, bnd_x, nIc (show j < 100000 by omega), nI_1]
    rw [show vp_nar .boolean (gI st 33 j) = gI st 33 j by rw [h33 j (by omega)]; exact bit_nar F j]
    obtain ⟨r, e1, e2⟩ := ih (j + 1) k (sI st 30 j (gI st 33 j)) (by omega) (by omega) h0 h33
    rw [cp_step _ (by omega) (by omega)] at e1 e2
    exact ⟨r, e1, e2⟩
set_option maxHeartbeats 4000000 in
theorem s_back {n : Nat} (hn : 5000 < n) : S_back Rel n := by
  intro c d h
  obtain ⟨hL, hC, hD, hI, hB, hS, hT, hW⟩ := id h
  obtain ⟨⟨nf, f1, f2, f3⟩, ⟨nl, l1, l2, l3⟩, ⟨nc, c1, c2, c3⟩, hv⟩ := id hL
  unfold fX11_back fX12_back
  rcases id hI with ⟨i1, i2⟩ | ⟨i1, ⟨⟨F, F1, F2, F3, F4, F5⟩, D1, D2, D3, D4⟩, k, k1, k2, k3, k4, k5⟩
  · rw [i1, i2, if_neg (by decide), if_pos rfl]
    exact ⟨_, _, _, rfl, rfl, h⟩
  rw [k3, if_pos (nI_pos' (by omega)), i1, if_neg (show ¬ (1 : Int32) = 0 by decide)]
  obtain ⟨r, eM, er⟩ := bk_1 (n := n) (F := F) hn k1 10 0 n d rfl (by omega) k4 F3
  rw [show (0 : Int32) = nI 0 from rfl, eM, ← show (0 : Int32) = nI 0 from rfl]
  have eC : ∃ c', ((fX2_copyOf_2 c).bind (fun r2 => gd (cpB (0 : Int32) (0 : Int32) (gI r2 0 10) 8 13) (bnd (sIs r2 7 (va_cpy (gI r2 43) (gI r2 7) (0 : Int32).toNatClampNeg (0 : Int32).toNatClampNeg (gI r2 0 10).toNatClampNeg)) (fun st5 => some ((fJ6_bitCount_0f7a4 (gI st5 39 1)), st5))))) = some (nI (pop F 10), c') ∧ (∀ q x, q ≠ 39 → q ≠ 40 → q ≠ 7 → gI c' q x = gI c q x) ∧ (∀ i, 1 ≤ i → i ≤ 4 → gI c' 39 i = gI c 41 i) ∧ (∀ j, j < 36 → gI c' 40 j = gI c 42 j) ∧ (∀ j, gI c' 7 j = if j < k then gI c 43 j else gI c 7 j) ∧ (∀ k, gL c' k = gL c k) := by
    unfold fX2_copyOf_2
    rw [va36]
    simp only [bnd_x, gd_true, Option.bind_some, gI_sIx, gI_sIsx, reduceIte, Nat.reduceEqDiff, upd_x, k3, cp0 k1 (show k ≤ 13 by omega) (by omega), nIc (show k < 100000 by omega), F2, bc_all F F1]
    refine ⟨_, rfl, fun q x h1 h2 h3 => ?_, fun i hi hi2 => ?_, fun j hj => ?_, fun j => ?_, fun k => rfl⟩
    · simp only [gI_sIx, gI_sIsx, if_neg h1, if_neg h2, if_neg h3]
    · rcases (show i = 1 ∨ i = 2 ∨ i = 3 ∨ i = 4 by omega) with rfl | rfl | rfl | rfl <;> simp only [gI_sIx, gI_sIsx, reduceIte, Nat.reduceEqDiff, upd_x, F2]
    · simp only [gI_sIx, gI_sIsx, reduceIte, Nat.reduceEqDiff]
      rw [cpy0, if_pos (show j < (36 : Int32).toNatClampNeg from hj)]
    · simp only [gI_sIx, gI_sIsx, reduceIte, Nat.reduceEqDiff]
      rw [cpy0]
  obtain ⟨c', e1, e2, e4, e5, e6, e7⟩ := eC
  generalize hd' : cpI (cpI (cpI (cpI d 30 33 0 10) 31 34 0 36) 5 35 0 k) 32 36 0 4 = d' at eM er ⊢
  have g0 : ∀ q x, q ≠ 5 → ¬ (30 ≤ q ∧ q ≤ 32) → gI d' q x = gI d q x := fun q x h1 h2 => by
    rw [← hd', gI_cp, if_neg (by omega), gI_cp, if_neg (by omega), gI_cp, if_neg (by omega), gI_cp, if_neg (by omega)]
  have g30 : ∀ x, x < 10 → gI d' 30 x = gI d 33 x := fun x hx => by
    rw [← hd', gI_cp, if_neg (by omega), gI_cp, if_neg (by omega), gI_cp, if_neg (by omega), gI_cp, if_pos rfl]
    show (if 0 ≤ x ∧ x < 10 then _ else _) = _
    rw [if_pos (by omega)]
  have g31 : ∀ x, x < 36 → gI d' 31 x = gI d 34 x := fun x hx => by
    rw [← hd', gI_cp, if_neg (by omega), gI_cp, if_neg (by omega), gI_cp, if_pos rfl]
    show (if 0 ≤ x ∧ x < 36 then _ else _) = _
    rw [if_pos (by omega)]; rfl
  have g5 : ∀ x, gI d' 5 x = if x < k then gI d 35 x else gI d 5 x := fun x => by
    rw [← hd', gI_cp, if_neg (by omega), gI_cp, if_pos rfl]
    show (if 0 ≤ x ∧ x < k then _ else _) = _
    by_cases q : x < k
    · rw [if_pos (by omega), if_pos q]; rfl
    · rw [if_neg (by omega), if_neg q]; rfl
  have g32 : ∀ x, x < 4 → gI d' 32 x = gI d 36 x := fun x hx => by
    rw [← hd', gI_cp, if_pos rfl]
    show (if 0 ≤ x ∧ x < 4 then _ else _) = _
    rw [if_pos (by omega)]; rfl
  have g41 : gL d' 41 = gL d 41 := by rw [← hd']; rfl
  have h11 : ∀ x, gI c' 1 x = gI c 1 x := fun x => e2 1 x (by omega) (by omega) (by omega)
  have hm : cle c c' := cle_eq fun i _ _ => h11 i
  rw [g32 0 (by omega), F5] at er
  rw [er]
  refine ⟨_, c', d', e1, rfl, ?_⟩
  refine ⟨⟨⟨nf, f1, by rw [h11, f2], by rw [g0 0 1 (by omega) (by omega), f3]⟩, ⟨nl, l1, by rw [h11, l2], by rw [g0 0 8 (by omega) (by omega), l3]⟩, ⟨nc, c1, by rw [h11, c2], by rw [g0 0 13 (by omega) (by omega), c3]⟩, fun w j hw hj hlt => ?_⟩, RC_fr hC hm (fun k i q => e2 k i ?_ ?_ ?_) (fun k i q => g0 k i ?_ ?_), ⟨⟨F, F1, by rw [e4 1 (by omega) (by omega), F2], fun j hj => by rw [g30 j hj]; exact F3 j hj, fun j hj q => by rw [h11] at q; exact F4 j hj q, by rw [g32 0 (by omega)]; exact F5⟩, fun j hj => by rw [g31 j hj, e5 j hj]; exact D1 j hj, by rw [g32 1 (by omega), e4 2 (by omega) (by omega)]; exact D2, by rw [g32 2 (by omega), e4 3 (by omega) (by omega)]; exact D3, by rw [g32 3 (by omega), e4 4 (by omega) (by omega)]; exact D4⟩, RI_fr hI hm (fun k i q => e2 k i ?_ ?_ ?_) (fun k i q => g0 k i ?_ ?_), RB_fr hB (fun k i q => e2 k i ?_ ?_ ?_) (fun k i q => g0 k i ?_ ?_), RS_fr hS ?_ (fun k i q => e2 k i ?_ ?_ ?_) (fun k i q => g0 k i ?_ ?_) (fun k _ _ => e7 k) g41, RT_fr hT (fun k i q => e2 k i ?_ ?_ ?_) (fun k i q => g0 k i ?_ ?_), RW_fr hW (fun k i q => e2 k i ?_ ?_ ?_) (fun k i q => g0 k i ?_ ?_)⟩
  case refine_1 =>
    rw [h11] at hlt
    by_cases e4' : w = 4
    · subst e4'
      rw [show gI c' (3 + 4) j = if j < k then gI c 43 j else gI c 7 j from e6 j, show gI d' (1 + 4) j = if j < k then gI d 35 j else gI d 5 j from g5 j]
      by_cases q : j < k
      · rw [if_pos q, if_pos q]
        exact k5 j q
      · rw [if_neg q, if_neg q]
        exact hv 4 j hw hj hlt
    · rw [e2 (3 + w) j (by omega) (by omega) (by omega), g0 (1 + w) j (by omega) (by omega)]
      exact hv w j hw hj hlt
  all_goals first
    | (unfold fCc at q; omega)
    | (unfold fCd at q; omega)
    | (unfold fIc at q; omega)
    | (unfold fId at q; omega)
    | (unfold fBc at q; omega)
    | (unfold fBd at q; omega)
    | (unfold fSc at q; omega)
    | (unfold fSd at q; omega)
    | (unfold fTc at q; omega)
    | (unfold fTd at q; omega)
    | (unfold fWc at q; omega)
    | (unfold fWd at q; omega)
    | (rw [e2 49 1 (by omega) (by omega) (by omega)]; exact i32_rf _)
