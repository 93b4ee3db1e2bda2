theorem c_erl {n : Nat} (hn : 5000 < n) {c0 d0 : St} {s ln R : Nat} (hR : rwE c0 d0 s ln) (hl : ln = 3 * R) (hR1 : 0 < R) : ∀ (r x k many : Nat) (c : St), x + r = 400 → r < k → many ≤ x → gI c 36 0 = nI many → gI c (53 + 2 * s) = gI c0 (53 + 2 * s) → gL c (54 + 2 * s) = gL c0 (54 + 2 * s) → ∃ c', fX8_listen_68 n k c s (nI x) = some c' ∧ gI c' 36 0 = nI (erl (fun y => mcr (hB (eR c0 s) y) R 0 0) r x many (gI c 36 1) (gI c 36 3)).1 ∧ gI c' 36 1 = (erl (fun y => mcr (hB (eR c0 s) y) R 0 0) r x many (gI c 36 1) (gI c 36 3)).2.1 ∧ gI c' 36 3 = (erl (fun y => mcr (hB (eR c0 s) y) R 0 0) r x many (gI c 36 1) (gI c 36 3)).2.2 ∧ Qn c c' := by
  have hl60 := hR.1
  intro r
  induction r with
  | zero =>
    intro x k many c hx hk hm h0 h53 h54
    obtain ⟨k, rfl⟩ : ∃ k', k = k' + 1 := ⟨k - 1, by omega⟩
    rw [fX8_listen_68, if_pos (show (400 : Int32) ≤ nI x from nI_le (a := 400) (by omega) (by omega))]
    exact ⟨c, rfl, h0, rfl, rfl, Qn_rf c⟩
  | succ r ih =>
    intro x k many c hx hk hm h0 h53 h54
    obtain ⟨k, rfl⟩ : ∃ k', k = k' + 1 := ⟨k - 1, by omega⟩
    have e1 : fX8_minuteCried n c s (nI x) = some (mcr (hB (eR c0 s) x) R 0 0) := c_mcr (n := n) hR hl (show x < 400 by omega) h53 h54 hR1 R 0 n 0 (by omega) (by omega)
    rw [fX8_listen_68, if_neg (show ¬ (400 : Int32) ≤ nI x from nI_ge (b := 400) (by omega) (by omega)), e1, Option.bind_some, erl]
    simp only [bnd_x, nI_1]
    by_cases z : mcr (hB (eR c0 s) x) R 0 0 < 0
    · rw [if_pos z, if_pos z]
      exact ih (x + 1) k many c (by omega) (by omega) (by omega) h0 h53 h54
    · rw [if_neg z, if_neg z, h0]
      unfold fX8_listen_102
      simp only [bnd_x, nI_1]
      have go : ∀ (v1 v3 : Int32), ∃ c', fX8_listen_68 n k (sI (sI (sI c 36 3 v3) 36 1 v1) 36 0 (nI (many + 1))) s (nI (x + 1)) = some c' ∧ gI c' 36 0 = nI (erl (fun y => mcr (hB (eR c0 s) y) R 0 0) r (x + 1) (many + 1) v1 v3).1 ∧ gI c' 36 1 = (erl (fun y => mcr (hB (eR c0 s) y) R 0 0) r (x + 1) (many + 1) v1 v3).2.1 ∧ gI c' 36 3 = (erl (fun y => mcr (hB (eR c0 s) y) R 0 0) r (x + 1) (many + 1) v1 v3).2.2 ∧ Qn c c' := by
        intro v1 v3
        have qs : Qn c (sI (sI (sI c 36 3 v3) 36 1 v1) 36 0 (nI (many + 1))) := Qn_tr (Qn_tr (Qn_sI _ _ _ _ (by omega)) (Qn_sI _ _ _ _ (by omega))) (Qn_sI _ _ _ _ (by omega))
        obtain ⟨c', u1, u2, u3, u4, u5⟩ := ih (x + 1) k (many + 1) (sI (sI (sI c 36 3 v3) 36 1 v1) 36 0 (nI (many + 1))) (by omega) (by omega) (by omega) (by rw [gIp, if_pos ⟨rfl, rfl⟩]) (by rw [qs.1 _ (by omega) (by omega) (by omega), h53]) (by rw [qs.2, h54])
        rw [show gI (sI (sI (sI c 36 3 v3) 36 1 v1) 36 0 (nI (many + 1))) 36 1 = v1 by rw [gIp, if_neg (by omega), gIp, if_pos ⟨rfl, rfl⟩], show gI (sI (sI (sI c 36 3 v3) 36 1 v1) 36 0 (nI (many + 1))) 36 3 = v3 by rw [gIp, if_neg (by omega), gIp, if_neg (by omega), gIp, if_pos ⟨rfl, rfl⟩]] at u2 u3 u4
        exact ⟨c', u1, u2, u3, u4, Qn_tr qs u5⟩
      have g0 : ∀ v3, gI (sI c 36 3 v3) 36 0 = nI many := fun v3 => by rw [gIp, if_neg (by omega)]; exact h0
      have g00 : ∀ v3 v1, gI (sI (sI c 36 3 v3) 36 1 v1) 36 0 = nI many := fun v3 v1 => by rw [gIp, if_neg (by omega)]; exact g0 v3
      have g1 : ∀ v3, gI (sI c 36 3 v3) 36 1 = gI c 36 1 := fun v3 => by rw [gIp, if_neg (by omega)]
      simp only [g0, g00, g1, nI_1]
      by_cases z0 : many = 0
      · rw [if_pos (show nI many = 0 by rw [z0]; rfl), if_pos (show nI many = 0 by rw [z0]; rfl), if_pos z0, if_pos z0]
        exact go _ _
      · rw [if_neg (nI_ne0 (n := many) (by omega) (by omega)), if_neg (nI_ne0 (n := many) (by omega) (by omega)), if_neg z0, if_neg z0]
        exact go _ _
theorem c_l23 {n : Nat} {c c0 d0 : St} {s ln R : Nat} (hR : rwE c0 d0 s ln) (hl : ln = 3 * R) (hR1 : 0 < R) (h53 : gI c (53 + 2 * s) = gI c0 (53 + 2 * s)) (h54 : gL c (54 + 2 * s) = gL c0 (54 + 2 * s)) : ∀ (r j k : Nat), j + r = R → r < k → fX8_listen_23 n k c s (nI (3 * j)) = if hrd (eR c0 s) r j = true then fX8_listen_68 n n c s 0 else some c := by
  have hl60 := hR.1
  intro r
  induction r with
  | zero =>
    intro j k hj hk
    obtain ⟨k, rfl⟩ : ∃ k', k = k' + 1 := ⟨k - 1, by omega⟩
    rw [fX8_listen_23, h53, hR.2.1, show nI ln - 3 = nI (ln - 3) from pk_sub (b := 3) (by omega), if_pos (nI_lt (by omega) (by omega)), hrd, if_pos rfl]
  | succ r ih =>
    intro j k hj hk
    obtain ⟨k, rfl⟩ : ∃ k', k = k' + 1 := ⟨k - 1, by omega⟩
    rw [fX8_listen_23, h53, hR.2.1, h54, show nI ln - 3 = nI (ln - 3) from pk_sub (b := 3) (by omega), if_neg (nI_nlt (by omega) (by omega))]
    simp only [nk3, nI_1, bnd_x]
    rw [inB_t (show 3 * j < 60 by omega) (by omega), inB_t (show 3 * j + 1 < 60 by omega) (by omega), gd_true, gd_true, nIc (by omega), nIc (by omega), sm_side (hR.2.2.2 (3 * j) (by omega)).1, sm_side (hR.2.2.2 (3 * j + 1) (by omega)).1, if_bI, if_bI, show 3 * j + 3 = 3 * (j + 1) by omega, ih (j + 1) k (by omega) (by omega), hrd]
    show cond (in19 (eR c0 s (3 * j))) (cond (in19 (eR c0 s (3 * j + 1))) _ _) _ = _
    cases in19 (eR c0 s (3 * j)) <;> cases in19 (eR c0 s (3 * j + 1)) <;> rfl
theorem d_erl {n : Nat} (hn : 5000 < n) {c d : St} {s ln R : Nat} (hs : s < 6) (hR : rwE c d s ln) (hl : ln = 3 * R) (hR1 : 0 < R) (hH : hrd (eR c s) R 0 = true) (a2 : Int32) : ∀ (r x k many : Nat) (f i : Int32), x + r = 400 → r < k → many ≤ x → fX12_ears_41 n d k (nI s) a2 (nI many) f (nI x) = fX12_ears_88 n d (nI s) a2 (nI (erl (fun y => mcr (hB (eR c s) y) R 0 0) r x many f i).1) (erl (fun y => mcr (hB (eR c s) y) R 0 0) r x many f i).2.1 := by
  have hl60 := hR.1
  have eh : fX12_areHeard n d (nI s) = some true := by
    have := d_heard (n := n) hs hR hl R 0 n (by omega) (by omega)
    rw [if_pos hR1, hH] at this
    exact this
  intro r
  induction r with
  | zero =>
    intro x k many f i hx hk hm
    obtain ⟨k, rfl⟩ : ∃ k', k = k' + 1 := ⟨k - 1, by omega⟩
    rw [fX12_ears_41, if_pos (show (400 : Int32) ≤ nI x from nI_le (a := 400) (by omega) (by omega))]
    rfl
  | succ r ih =>
    intro x k many f i hx hk hm
    obtain ⟨k, rfl⟩ : ∃ k', k = k' + 1 := ⟨k - 1, by omega⟩
    have e1 : fX12_criedBy n d (nI s) (nI x) = some (mcr (hB (eR c s) x) R 0 0) := d_mcr (n := n) hs hR hl (show x < 400 by omega) hH R 0 n 0 (by omega) (by omega)
    rw [fX12_ears_41, if_neg (show ¬ (400 : Int32) ≤ nI x from nI_ge (b := 400) (by omega) (by omega)), eh, Option.bind_some, if_bI, cond_true, e1, Option.bind_some, erl]
    simp only [bnd_x, nI_1]
    by_cases z : mcr (hB (eR c s) x) R 0 0 < 0
    · rw [if_pos z, if_neg (fun q => fa_nle z q)]
      exact ih (x + 1) k many f i (by omega) (by omega) (by omega)
    · rw [if_neg z, if_pos (fa_nlt z)]
      by_cases z0 : many = 0
      · rw [if_pos (show nI many = 0 by rw [z0]; rfl), if_pos z0]
        exact ih (x + 1) k (many + 1) _ _ (by omega) (by omega) (by omega)
      · rw [if_neg (nI_ne0 (by omega) (by omega)), if_neg z0]
        exact ih (x + 1) k (many + 1) _ _ (by omega) (by omega) (by omega)
theorem ears_rel {n : Nat} (hn : 5000 < n) {c d : St} {s ln : Nat} (hs : s < 6) (hR : rwE c d s ln) {a2 : Int32} : ∃ r c', ((fX8_listen n c s).bind (fun r6 => if a2 = 0 then (some ((gI r6 36 0), r6)) else (if a2 = (1 : Int32) then (some ((gI r6 36 1), r6)) else (some ((gI r6 36 3), r6))))) = some (r, c') ∧ fX12_ears_41 n d n (nI s) a2 0 (-2) 0 = some r ∧ Qn c c' := by
  have hl60 := hR.1
  obtain ⟨f0, f1, f2, f3, f4, f5⟩ := forget_q c
  have g53 : gI (fX8_forget c) (53 + 2 * s) = gI c (53 + 2 * s) := f0.1 _ (by omega) (by omega) (by omega)
  have none_ : fX12_areHeard n d (nI s) = some false → fX8_listen n c s = some (fX8_forget c) → ∃ r c', ((fX8_listen n c s).bind (fun r6 => if a2 = 0 then (some ((gI r6 36 0), r6)) else (if a2 = (1 : Int32) then (some ((gI r6 36 1), r6)) else (some ((gI r6 36 3), r6))))) = some (r, c') ∧ fX12_ears_41 n d n (nI s) a2 0 (-2) 0 = some r ∧ Qn c c' := by
    intro e1 e2
    obtain ⟨n', rfl⟩ : ∃ n', n = n' + 1 := ⟨n - 1, by omega⟩
    rw [e2, Option.bind_some, fX12_ears_41, if_neg (show ¬ (400 : Int32) ≤ 0 by decide), e1, Option.bind_some, if_bI, cond_false, f1, f2, f4]
    unfold fX12_ears_88
    refine ⟨if a2 = 0 then 0 else -2, fX8_forget c, ?_, ?_, f0⟩
    · by_cases z : a2 = 0
      · rw [if_pos z, if_pos z]
      · rw [if_neg z, if_neg z, ite_self]
    · by_cases z : a2 = 0
      · rw [if_pos z, if_pos z]
      · rw [if_neg z, if_neg z, if_pos (by decide)]
  by_cases z0 : ln = 0
  · refine none_ ?_ ?_
    · have := d_heard (n := n) hs hR (R := 0) (by omega) 0 0 n (by omega) (by omega)
      rw [if_neg (Nat.lt_irrefl 0)] at this
      exact this
    · unfold fX8_listen
      rw [bnd_x, g53, hR.2.1, if_pos (by rw [z0]; rfl)]
  · have hz : ¬ nI ln = 0 := nI_ne0 (by omega) (by omega)
    have e3 : rmI (nI ln) 3 = nI (ln % 3) := rm_nI (d := 3) (by omega) (by omega) (by omega)
    by_cases z3 : ln % 3 = 0
    · obtain ⟨R, hRR⟩ : ∃ R, ln = 3 * R := ⟨ln / 3, by omega⟩
      have hR1 : 0 < R := by omega
      have l23 := c_l23 (n := n) (c := fX8_forget c) hR hRR hR1 g53 (f0.2 _) R 0 n (by omega) (by omega)
      have el : fX8_listen n c s = if hrd (eR c s) R 0 = true then fX8_listen_68 n n (fX8_forget c) s 0 else some (fX8_forget c) := by
        unfold fX8_listen
        rw [bnd_x, g53, hR.2.1, if_neg hz, e3, z3, if_pos (show nI 0 = 0 from rfl)]
        exact l23
      by_cases hH : hrd (eR c s) R 0 = true
      · rw [if_pos hH] at el
        obtain ⟨c', u1, u2, u3, u4, u5⟩ := c_erl hn hR hRR hR1 400 0 n 0 (fX8_forget c) (by omega) (by omega) (by omega) f1 g53 (f0.2 _)
        have u1' : fX8_listen_68 n n (fX8_forget c) s 0 = some c' := u1
        rw [f2, f4] at u2 u3 u4
        have d1 := d_erl hn hs hR hRR hR1 hH a2 400 0 n 0 (-2) (-2) (by omega) (by omega) (by omega)
        have d1' : fX12_ears_41 n d n (nI s) a2 0 (-2) 0 = _ := d1
        have iv := erl_iv (C := fun y => mcr (hB (eR c s) y) R 0 0) 400 0 0 (-2) (-2) rfl (Or.inl ⟨rfl, rfl, rfl⟩)
        rw [el, u1', Option.bind_some, d1', u2, u3, u4]
        generalize erl (fun y => mcr (hB (eR c s) y) R 0 0) 400 0 0 (-2) (-2) = q at iv
        obtain ⟨M, F, I⟩ := q
        refine ⟨if a2 = 0 then nI M else if a2 = 1 then F else I, c', ?_, ?_, Qn_tr f0 u5⟩
        · by_cases z : a2 = 0
          · rw [if_pos z, if_pos z]
          · rw [if_neg z, if_neg z]
            by_cases z1 : a2 = 1
            · rw [if_pos z1, if_pos z1]
            · rw [if_neg z1, if_neg z1]
        · unfold fX12_ears_88
          by_cases z : a2 = 0
          · rw [if_pos z, if_pos z]
          · rw [if_neg z, if_neg z]
            rcases iv with ⟨i1, i2, i3⟩ | ⟨i1, j, i2, i3, i4⟩
            · have i2' : F = -2 := i2
              have i3' : I = -2 := i3
              rw [i2', i3', if_pos (show ((M, (-2 : Int32), (-2 : Int32)).2.1) < 0 from (by decide : (-2 : Int32) < 0)), ite_self]
            · have i3' : F = nI j := i3
              have i4' : I = mcr (hB (eR c s) j) R 0 0 := i4
              rw [i3', i4', if_neg (show ¬ ((M, nI j, mcr (hB (eR c s) j) R 0 0).2.1) < 0 from nI_pos (n := j) (by omega))]
              by_cases z1 : a2 = 1
              · rw [if_pos z1, if_pos z1]
              · have e1 : fX12_criedBy n d (nI s) (nI j) = some (mcr (hB (eR c s) j) R 0 0) := d_mcr (n := n) hs hR hRR i2 hH R 0 n 0 (by omega) (by omega)
                rw [if_neg z1, if_neg z1, e1, Option.bind_some]
      · rw [if_neg hH] at el
        refine none_ ?_ el
        have := d_heard (n := n) hs hR hRR R 0 n (by omega) (by omega)
        rw [if_pos hR1, Bool.eq_false_iff.mpr hH] at this
        exact this
    · refine none_ (d_heard_n (n := n) hs hR z3 20 0 n (by omega) (by omega) (by omega)) ?_
      unfold fX8_listen
      rw [bnd_x, g53, hR.2.1, if_neg hz, e3, if_neg (nI_ne0 (by omega) (by omega))]
theorem s_ears {n : Nat} (hn : 5000 < n) : S_ears Rel n := by
  intro c d a1 a2 h
  unfold fX11_ears fX12_ears fX11_ears_19
  rw [isW, isI]
  simp only [if_bI]
  rw [if_neg (show ¬ (-1 : Int32) = 0 by decide)]
  by_cases h2 : 0 ≤ a2 ∧ a2 ≤ 2
  · rw [decide_eq_true h2]
    simp only [cond_true]
    cases hsh : fX12_isShelf a1 with
    | false =>
      unfold fX11_refusalOfRow
      rw [sh_eq, hsh]
      exact ⟨-1, c, d, rfl, ⟨rfl, rfl⟩, h⟩
    | true =>
      obtain ⟨s, hs, rfl⟩ := sh_in hsh
      simp only [cond_true]
      rcases row_ask h hs (so := 1) (by omega) with ⟨r, r1, r2, r3, r4⟩ | ⟨r3, r4, ln, hR⟩
      · have r3' : fX11_refusalOfRow c (nI s) 1 = some r := r3
        have r4' : fX12_rowFault d (nI s) 1 = some r := r4
        rw [r3', r4', Option.bind_some, Option.bind_some, if_neg r1, if_neg r2]
        exact ⟨r, c, d, rfl, ⟨rfl, rfl⟩, h⟩
      · have r3' : fX11_refusalOfRow c (nI s) 1 = some 0 := r3
        have r4' : fX12_rowFault d (nI s) 1 = some 0 := r4
        rw [r3', r4', Option.bind_some, Option.bind_some, if_pos rfl, if_pos (i32_rf _), inB_t hs (by omega), gd_true, nIc (by omega)]
        obtain ⟨r, c', e1, e2, e3⟩ := ears_rel hn hs hR (a2 := a2)
        exact ⟨r, c', d, e1, ⟨e2, rfl⟩, Rel_Q h (Qn_q e3) (Qd_rf d)⟩
  · rw [decide_eq_false h2]
    refine ⟨-1, c, d, rfl, ⟨?_, rfl⟩, h⟩
    cases fX12_isShelf a1 <;> rfl
