theorem d_mts_l {n : Nat} (hn : 5000 < n) {nf nl nc : Nat} {V : Nat → Nat → Int32} {P : LwP} (hb : VB nf nl nc V) (hnc : nc < 12) {c0 d0 : St} {s ln w e l : Nat} (hs : s < 6) (hR : rwE c0 d0 s ln) (hw : w < 6) (he : e < 4) (hl : l < 10) (hv : VD d0 nf nl (nc + 1) (nV V nc (nI w) (nI 0) (nI e) (nI l)) P) (a3 : Int32) : ∀ (r mt k many : Nat) (d : St) (fst : Int32), mt + r = 1000 → r < k → many ≤ mt → QM 11 nc d0 d → ∃ d', fX12_whoseCry_103 n k d (nI s) a3 (nI nc) (nI many) fst (nI mt) = some (if a3 = 0 then nI (mts (fun x => decide (wry (pdF P (nV V nc (nI w) (nI x) (nI e) (nI l)) nf (nc + 1)) (eR c0 s) nl ln 0 = -2)) r mt many fst).1 else (mts (fun x => decide (wry (pdF P (nV V nc (nI w) (nI x) (nI e) (nI l)) nf (nc + 1)) (eR c0 s) nl ln 0 = -2)) r mt many fst).2, sI d' 0 13 (nI nc)) ∧ QM 11 nc d0 d' := by
  have h10 := hb.2.1
  have hl60 := hR.1
  intro r
  induction r with
  | zero =>
    intro mt k many d fst hm hk hmm hq
    obtain ⟨k, rfl⟩ : ∃ k', k = k' + 1 := ⟨k - 1, by omega⟩
    rw [fX12_whoseCry_103, if_pos (show (999 : Int32) < nI mt from nI_lt (a := 999) (by omega) (by omega)), bnd_x, hq.1 0 13 (by omega) (by omega), hv.2.2.1, nI_s1]
    refine ⟨d, ?_, hq⟩
    by_cases z : a3 = 0
    · rw [if_pos z, if_pos z]; rfl
    · rw [if_neg z, if_neg z]; rfl
  | succ r ih =>
    intro mt k many d fst hm hk hmm hq
    obtain ⟨k, rfl⟩ : ∃ k', k = k' + 1 := ⟨k - 1, by omega⟩
    have hv' : VD (sI d 12 nc (nI mt)) nf nl (nc + 1) (nV V nc (nI w) (nI mt) (nI e) (nI l)) P := by
      have := QM_VD hv hq (w := 11) (by omega) (nI mt)
      unfold nV at this
      rw [mod_mod] at this
      exact this
    have hb' := nV_VB hb hnc hw (show mt < 1000 by omega) he hl
    have q1 : QM 11 nc d0 (sI d 12 nc (nI mt)) := QM_tr hq (QM_sI 11 nc d _)
    obtain ⟨d1, y1, y2⟩ := d_wry hn hb' hs hR ln 0 n (sI d 12 nc (nI mt)) (by omega) (by omega) hv' (by funext i; exact q1.1 40 i (by omega) (by omega)) (q1.2 41)
    have y1' : fX12_wrongYear_2 n n (sI d 12 nc (nI mt)) (nI s) 0 = _ := y1
    unfold fX12_whoseCry_103 fX12_wrongYear
    rw [if_neg (show ¬ (999 : Int32) < nI mt from nI_nlt (b := mt) (a := 999) (by omega) (by omega)), inB_t (show nc < 13 by omega) (by omega), gd_true, bnd_x, nIc (by omega), y1', Option.bind_some, mts]
    simp only [bnd_x, nI_1]
    have q2 : QM 11 nc d0 d1 := QM_tr q1 (QM_q (Q2d_q y2))
    have hlt := wry_lt0 (G := pdF P (nV V nc (nI w) (nI mt) (nI e) (nI l)) nf (nc + 1)) (E := eR c0 s) h10 (r := ln) (f := 0) (by omega)
    by_cases z : wry (pdF P (nV V nc (nI w) (nI mt) (nI e) (nI l)) nf (nc + 1)) (eR c0 s) nl ln 0 = -2
    · rw [if_pos (hlt.mpr z), decide_eq_true z, if_pos rfl]
      by_cases z0 : many = 0
      · rw [z0, if_pos (show nI 0 = 0 from rfl), if_pos rfl]
        exact ih (mt + 1) k (0 + 1) d1 _ (by omega) (by omega) (by omega) q2
      · rw [if_neg (nI_ne0 (by omega) (by omega)), if_neg z0]
        exact ih (mt + 1) k (many + 1) d1 _ (by omega) (by omega) (by omega) q2
    · rw [if_neg (fun q => z (hlt.mp q)), decide_eq_false z, if_neg (show ¬ false = true by decide)]
      exact ih (mt + 1) k many d1 _ (by omega) (by omega) (by omega) q2
theorem d_add {d : St} {nf nl nc : Nat} {V : Nat → Nat → Int32} {P : LwP} (hv : VD d nf nl nc V P) (hnc : nc < 12) (a b e l : Int32) : ∃ d', fX12_addCry d a b e l = some (nI nc, d') ∧ VD d' nf nl (nc + 1) (nV V nc a b e l) P ∧ (∀ k i, ¬ (11 ≤ k ∧ k ≤ 14 ∧ i = nc) → ¬ (k = 0 ∧ i = 13) → gI d' k i = gI d k i) ∧ (∀ k, gL d' k = gL d k) := by
  unfold fX12_addCry
  simp only [gI_sIx, Nat.reduceEqDiff, reduceIte, hv.2.2.1, inB_t (show nc < 13 by omega) (by omega), gd_true, bnd_x, nIc (show nc < 100000 by omega), upd_x, nI_1, nI_s1]
  generalize hd1 : sI (sI (sI (sI (sI d 11 nc a) 12 nc b) 13 nc e) 14 nc l) 0 13 (nI (nc + 1)) = d1
  have hg : ∀ k i, gI d1 k i = if k = 0 ∧ i = 13 then nI (nc + 1) else if k = 14 ∧ i = nc then l else if k = 13 ∧ i = nc then e else if k = 12 ∧ i = nc then b else if k = 11 ∧ i = nc then a else gI d k i := fun k i => by
    rw [← hd1, gIp, gIp, gIp, gIp, gIp]
  have hno : ∀ k i, ¬ (11 ≤ k ∧ k ≤ 14 ∧ i = nc) → ¬ (k = 0 ∧ i = 13) → gI d1 k i = gI d k i := fun k i h1 h2 => by
    rw [hg, if_neg h2, if_neg (by omega), if_neg (by omega), if_neg (by omega), if_neg (by omega)]
  have hrow : ∀ k, 20 ≤ k → k ≤ 24 → gI d1 k = gI d k := fun k h1 h2 => by
    funext i
    exact hno k i (by omega) (by omega)
  refine ⟨d1, rfl, ⟨?_, ?_, ?_, fun x j hx hj => ?_, ?_⟩, hno, fun k => by rw [← hd1]; rfl⟩
  · rw [hno 0 1 (by omega) (by omega)]; exact hv.1
  · rw [hno 0 8 (by omega) (by omega)]; exact hv.2.1
  · rw [hg, if_pos ⟨rfl, rfl⟩]
  · by_cases z : 10 ≤ x ∧ x ≤ 13 ∧ j = nc
    · obtain ⟨z1, z2, rfl⟩ := z
      rcases (show x = 10 ∨ x = 11 ∨ x = 12 ∨ x = 13 by omega) with rfl | rfl | rfl | rfl
      · rw [nV_10, hg, if_neg (by omega), if_neg (by omega), if_neg (by omega), if_neg (by omega), if_pos ⟨rfl, rfl⟩]
      · rw [nV_11, hg, if_neg (by omega), if_neg (by omega), if_neg (by omega), if_pos ⟨rfl, rfl⟩]
      · rw [nV_12, hg, if_neg (by omega), if_neg (by omega), if_pos ⟨rfl, rfl⟩]
      · rw [nV_13, hg, if_neg (by omega), if_pos ⟨rfl, rfl⟩]
    · rw [nV_n z, hno _ _ (by omega) (by omega)]
      refine hv.2.2.2.1 x j hx ?_
      unfold ct at hj ⊢
      by_cases h6 : x < 6
      · rw [if_pos h6] at hj ⊢; exact hj
      · rw [if_neg h6] at hj ⊢
        by_cases h10 : x < 10
        · rw [if_pos h10] at hj ⊢; exact hj
        · rw [if_neg h10] at hj ⊢; omega
  · cases P with
    | none => show gI d1 0 37 = 0; rw [hno 0 37 (by omega) (by omega)]; exact hv.2.2.2.2
    | some P => exact ⟨by rw [hno 0 37 (by omega) (by omega)]; exact hv.2.2.2.2.1, hv.2.2.2.2.2.1, LM_eq (hrow 20 (by omega) (by omega)) (hrow 21 (by omega) (by omega)) (hrow 22 (by omega) (by omega)) (hrow 23 (by omega) (by omega)) (hrow 24 (by omega) (by omega)) P 0 0 hv.2.2.2.2.2.2⟩
theorem wc_big {n : Nat} (hn : 5000 < n) {c d : St} (h : Rel c d) {s : Nat} (hs : s < 6) {ln w e l : Nat} (hR : rwE c d s ln) (hw : w < 6) (he : e < 4) (hl : l < 10) (hne : ¬ gI c 1 3 = 12) (a3 : Int32) : ∃ r c' d', ((fX10_seekMinutes n c s (nI w) (nI e) (nI l)).bind (fun r11 => if a3 = 0 then (some ((gI r11 32 0), r11)) else (some ((gI r11 32 1), r11)))) = some (r, c') ∧ ((fX12_addCry d (nI w) 0 (nI e) (nI l)).bind (fun r10 => fX12_whoseCry_103 n n r10.2 (nI s) a3 r10.1 0 (-2) 0)) = some (r, d') ∧ Rel c' d' := by
  obtain ⟨nf, nl, nc, P, hc, hd, hb⟩ := views h
  generalize hV : (fun w j => gI c (3 + w) j) = V at hc hd hb
  have h10 := hb.2.1
  have h12 := hb.2.2.1
  have hl60 := hR.1
  have hnc : nc < 12 := by
    have : nc ≠ 12 := fun q => hne (by rw [hc.2.2.1, q]; rfl)
    omega
  obtain ⟨d1, a1, a2, a4, a5⟩ := d_add hd hnc (nI w) (nI 0) (nI e) (nI l)
  have hR1 : rwE c d1 s ln := by
    obtain ⟨l1, l2, l3, l4⟩ := hR
    refine ⟨l1, l2, by rw [a4 40 s (by omega) (by omega)]; exact l3, fun j hj => ?_⟩
    rw [a5]
    exact l4 j hj
  obtain ⟨d2, b1, b2⟩ := d_mts_l hn hb hnc hs hR1 hw he hl a2 a3 1000 0 n 0 d1 (-2) (by omega) (by omega) (by omega) (QM_q (Qd_rf d1))
  have b1' : fX12_whoseCry_103 n n d1 (nI s) a3 (nI nc) 0 (-2) 0 = _ := b1
  have a1' : fX12_addCry d (nI w) 0 (nI e) (nI l) = some (nI nc, d1) := a1
  rw [a1', Option.bind_some, b1']
  have hrel : ∀ c', QC c c' → Rel c' (sI d2 0 13 (nI nc)) := fun c' q => by
    refine Rel_X h hd.2.1 hd.2.2.1 h10 h12 q ⟨fun k i p1 p2 p3 => ?_, fun k => ?_⟩
    · rw [gIp]
      by_cases z : k = 0 ∧ i = 13
      · rw [if_pos z, z.1, z.2, hd.2.2.1]
      · rw [if_neg z, b2.1 k i p1 (by omega), a4 k i p3 z]
    · rw [show gL (sI d2 0 13 (nI nc)) k = gL d2 k from rfl, b2.2, a5]
  unfold fX10_seekMinutes
  simp only [bnd_x]
  generalize hc1 : sI (sI c 32 0 0) 32 1 (-2) = c1
  have qs : Qc c c1 := by rw [← hc1]; exact Qc_tr (Qc_sI _ _ _ _ (by omega)) (Qc_sI _ _ _ _ (by omega))
  have g0 : gI c1 32 0 = nI 0 := by rw [← hc1, gIp, if_neg (by omega), gIp, if_pos ⟨rfl, rfl⟩]; rfl
  have g1 : gI c1 32 1 = -2 := by rw [← hc1, gIp, if_pos ⟨rfl, rfl⟩]
  rw [qs.1 _ (by omega), qs.1 1 (by omega), hR.2.1, hc.2.1]
  by_cases z : ln ≤ nl
  · rw [if_pos (nI_le z (by omega))]
    obtain ⟨c2, e1, e2, e3, e4⟩ := c_wf hn hb (VC_Q hc qs)
    obtain ⟨c3, u1, u2, u3, u4⟩ := c_mts_l hn hb hs hR z hw (nI e) (nI l) 1000 0 n 0 c2 V (by omega) (by omega) (by omega) (VC_Q (VC_Q hc qs) e3) (fun _ _ => ⟨rfl, rfl⟩) e2 (by rw [e3.1 _ (by omega), qs.1 _ (by omega)]) (by rw [e3.2, qs.2]) (by rw [e4]; exact g0)
    have u1' : fX10_seekMinutes_33 n n c2 s (nI w) (nI e) (nI l) 0 = _ := u1
    rw [e1, Option.bind_some, u1', Option.bind_some]
    rw [e4, g1] at u2 u3
    refine ⟨_, c3, _, ?_, rfl, hrel c3 (QC_tr (QC_q (Qc_tr qs e3)) u4)⟩
    rw [u2, u3]
    by_cases y : a3 = 0
    · rw [if_pos y, if_pos y]
    · rw [if_neg y, if_neg y]
  · rw [if_neg (nI_ge (by omega) (by omega)), Option.bind_some]
    rw [mts_f (fun x => decide_eq_false (wry_over h10 ln 0 (by omega) (by omega)))]
    refine ⟨_, c1, _, ?_, rfl, hrel c1 (QC_q qs)⟩
    rw [g0, g1]
    by_cases y : a3 = 0
    · rw [if_pos y, if_pos y]
    · rw [if_neg y, if_neg y]
set_option maxHeartbeats 1000000 in
theorem s_whoseCry {n : Nat} (hn : 5000 < n) : S_whoseCry Rel n := by
  intro c d a1 a2 a3 h
  have ec : gI d 0 13 = gI c 1 3 := by
    obtain ⟨⟨-, -, ⟨nc, c1, c2, c3⟩, -⟩, -⟩ := h
    rw [c2, c3]
  unfold fX11_whoseCry fX12_whoseCry fX11_whoseCry_34 fX11_whoseCry_35 fX11_whoseCry_60 fX11_whoseCry_61 fX11_isPerson fX12_isPerson
  rw [isW, isW, isI, isI, show tb tMOST 12 = (3 : Int32) from rfl]
  simp only [if_bI, reduceIte]
  rw [if_neg (show ¬ (-1 : Int32) = 0 by decide)]
  by_cases h0 : a2 < 0
  · rw [if_pos h0, if_pos h0]
    refine ⟨-1, c, d, rfl, ?_, h⟩
    cases fX12_isShelf a1 <;> rfl
  rw [if_neg h0, if_neg h0]
  obtain ⟨k, hk, rfl⟩ := nI_of h0
  rw [show nI k / 100 = nI (k / 100) from pk_div (d := 100) hk (by omega) (by omega), show nI k / 10 = nI (k / 10) from pk_div (d := 10) hk (by omega) (by omega), show rmI (nI (k / 10)) 10 = nI (k / 10 % 10) from pk_rem (d := 10) (by omega) (by omega) (by omega), show rmI (nI k) 10 = nI (k % 10) from pk_rem (d := 10) hk (by omega) (by omega)]
  by_cases h1 : 0 ≤ nI (k / 100) ∧ nI (k / 100) ≤ 5
  · rw [decide_eq_true h1]
    have hw : k / 100 ≤ 5 := by
      have := h1.2
      rw [show (5 : Int32) = nI 5 from rfl, nI_leI (by omega) (by omega)] at this
      exact this
    by_cases h2 : 3 < k / 10 % 10
    · have h2' : (3 : Int32) < nI (k / 10 % 10) := nI_lt (a := 3) h2 (by omega)
      rw [if_pos h2', if_pos h2']
      refine ⟨-1, c, d, rfl, ?_, h⟩
      cases fX12_isShelf a1 <;> rfl
    · have h2' : ¬ (3 : Int32) < nI (k / 10 % 10) := nI_nlt (a := 3) (by omega) (by omega)
      rw [if_neg h2', if_neg h2']
      by_cases h3 : 0 ≤ a3 ∧ a3 ≤ 1
      · rw [decide_eq_true h3]
        simp only [cond_true]
        cases hsh : fX12_isShelf a1 with
        | false =>
          unfold fX11_refusalOfRow
          rw [sh_eq, hsh]
          exact ⟨-1, c, d, rfl, rfl, h⟩
        | true =>
          obtain ⟨s, hs, rfl⟩ := sh_in hsh
          simp only [cond_true]
          rw [if_neg (show ¬ (1 : Int32) = 0 by decide)]
          rcases row_ask h hs (so := 0) (by omega) with ⟨r, r1, r2, r3, r4⟩ | ⟨r3, r4, ln, hR⟩
          · have r3' : fX11_refusalOfRow c (nI s) 0 = some r := r3
            have r4' : fX12_rowFault d (nI s) 0 = some r := r4
            rw [r3', r4', Option.bind_some, Option.bind_some, if_neg r1, if_neg r2]
            exact ⟨r, c, d, rfl, rfl, h⟩
          · have r3' : fX11_refusalOfRow c (nI s) 0 = some 0 := r3
            have r4' : fX12_rowFault d (nI s) 0 = some 0 := r4
            rw [r3', r4', Option.bind_some, Option.bind_some, if_pos rfl, if_pos (i32_rf _), ec]
            by_cases h4 : gI c 1 3 = 12
            · rw [if_pos h4, if_pos h4]
              exact ⟨-5, c, d, rfl, rfl, h⟩
            · rw [if_neg h4, if_neg h4, inB_t hs (by omega), gd_true, nIc (by omega)]
              exact wc_big hn h hs hR (by omega) (by omega) (by omega) h4 a3
      · rw [decide_eq_false h3]
        refine ⟨-1, c, d, rfl, ?_, h⟩
        cases fX12_isShelf a1 <;> rfl
  · rw [decide_eq_false h1]
    refine ⟨-1, c, d, rfl, ?_, h⟩
    cases fX12_isShelf a1 <;> rfl
