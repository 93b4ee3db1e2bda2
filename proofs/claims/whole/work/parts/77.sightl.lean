/-- what is written of a cell that may be it -/
theorem rwE_d {c d d' : St} {s ln : Nat} (h : rwE c d s ln) (h1 : gI d' 40 = gI d 40) (h2 : gL d' 41 = gL d 41) : rwE c d' s ln := by
  obtain ⟨l1, l2, l3, l4⟩ := h
  exact ⟨l1, l2, by rw [h1]; exact l3, fun j hj => ⟨(l4 j hj).1, by rw [h2]; exact (l4 j hj).2⟩⟩
set_option maxHeartbeats 2000000 in
theorem sg_l {n : Nat} (hn : 5000 < n) {nf nl nc : Nat} {V : Nat → Nat → Int32} {P : LwP} (hb : VB nf nl nc V) {c0 : St} {s ln R : Nat} (hs : s < 6) (hl : ln = 4 * R) (hln : gI c0 (53 + 2 * s) 3 = nI ln) (hA : allV (eR c0 s) R 0 = true) (a2 : Int32) : ∀ (r xy k many bits : Nat) (col : Nat → Nat) (c d : St) (fst : Int32), xy + r = 400 → r < k → many ≤ xy → (∀ x, col x ≤ many) → VC c nf nl nc V P → VD d nf nl nc V P → rwE c0 d s ln → gI c (53 + 2 * s) = gI c0 (53 + 2 * s) → gI c 36 0 = nI many → gI c 36 1 = fst → gI c 36 2 = nI bits → (∀ x, x < 20 → gI c 38 x = nI (col x)) → (∀ x, x < 20 → gI d 29 x = nI (col x)) → (∀ y, y < 400 → gI c 37 y = nI (cntO (eR c0 s) y R 0)) → ∃ (c' d' : St) (many' bits' : Nat) (fst' : Int32) (col' : Nat → Nat), fX8_look_84 n k c s (nI xy) = some c' ∧ fX12_sight_68 n k d (nI s) a2 (nI many) fst (nI bits) (nI xy) = fX12_sight_159 n d' a2 (nI many') fst' (nI bits') ∧ gI c' 36 0 = nI many' ∧ gI c' 36 1 = fst' ∧ gI c' 36 2 = nI bits' ∧ (∀ x, x < 20 → gI c' 38 x = nI (col' x)) ∧ (∀ x, x < 20 → gI d' 29 x = nI (col' x)) ∧ many' ≤ 400 ∧ (∀ x, col' x ≤ many') ∧ Qn c c' ∧ Qd d d' := by
  have h8 := hb.1
  intro r
  induction r with
  | zero =>
    intro xy k many bits col c d fst hx hk hm hcl hc hd hR h53 q0 q1 q2 q38 q29 q37
    obtain ⟨k, rfl⟩ : ∃ k', k = k' + 1 := ⟨k - 1, by omega⟩
    rw [fX8_look_84, fX12_sight_68, if_pos (show (400 : Int32) ≤ nI xy from nI_le (a := 400) (by omega) (by omega)), if_pos (show (400 : Int32) ≤ nI xy from nI_le (a := 400) (by omega) (by omega))]
    exact ⟨c, d, many, bits, fst, col, rfl, rfl, q0, q1, q2, q38, q29, by omega, hcl, Qn_rf c, Qd_rf d⟩
  | succ r ih =>
    intro xy k many bits col c d fst hx hk hm hcl hc hd hR h53 q0 q1 q2 q38 q29 q37
    obtain ⟨k, rfl⟩ : ∃ k', k = k' + 1 := ⟨k - 1, by omega⟩
    have hl60 := hR.1
    have e20 : rmI (nI xy) 20 = nI (xy % 20) := rm_nI (d := 20) (by omega) (by omega) (by omega)
    have e21 : nI xy / 20 = nI (xy / 20) := dv_nI (d := 20) (by omega) (by omega) (by omega)
    have e4 : nI ln / 4 = nI R := by
      rw [show nI ln / 4 = nI (ln / 4) from dv_nI (d := 4) (by omega) (by omega) (by omega), show ln / 4 = R by omega]
    have hcn := cntO_le (eR c0 s) xy R 0
    have hce := cntO_eq (eR c0 s) xy R 0
    have eS : fX12_areSights n d (nI s) = some true := by
      have := d_sights (n := n) hs hR hl R 0 n (by omega) (by omega)
      rw [hA] at this
      exact this
    have eM : fX12_mayBeAt n d (nI s) (nI xy) = some (allO (eR c0 s) xy R 0) := d_maybe hn hs hR hl (show xy < 400 by omega) R 0 n (by omega) (by omega)
    rw [fX8_look_84, fX12_sight_68, if_neg (show ¬ (400 : Int32) ≤ nI xy from nI_ge (b := 400) (by omega) (by omega)), if_neg (show ¬ (400 : Int32) ≤ nI xy from nI_ge (b := 400) (by omega) (by omega)), inB_t (show xy < 400 by omega) (by omega), gd_true, nIc (by omega), q37 xy (by omega), h53, hln, e4, eS, Option.bind_some, if_bI, cond_true, eM, Option.bind_some, if_bI]
    simp only [bnd_x, nI_1]
    cases z : allO (eR c0 s) xy R 0 with
    | false =>
      rw [z] at hce
      rw [if_neg (fun q => by
        rw [nIeq (by omega) (by omega)] at q
        exact absurd (hce.mp q) (by decide)), cond_false]
      exact ih (xy + 1) k many bits col c d fst (by omega) (by omega) (by omega) hcl hc hd hR h53 q0 q1 q2 q38 q29 q37
    | true =>
      rw [z] at hce
      rw [if_pos (show nI (cntO (eR c0 s) xy R 0) = nI R by rw [hce.mpr rfl]), cond_true]
      have go : ∀ (c1 : St) (f1 : Int32), Qn c c1 → gI c1 36 0 = nI many → gI c1 36 1 = f1 → gI c1 36 2 = nI bits → (∀ j, gI c1 38 j = gI c 38 j) → (∀ j, gI c1 37 j = gI c 37 j) → ∃ (c' d' : St) (many' bits' : Nat) (fst' : Int32) (col' : Nat → Nat), ((fX8_addSeen_12 n c1 (nI xy)).bind (fun r21 => fX8_look_84 n k r21 s (nI (xy + 1)))) = some c' ∧ fX12_sight_106 (fX12_sight_68 n k) n d (nI s) a2 (nI many) f1 (nI bits) (nI xy) = fX12_sight_159 n d' a2 (nI many') fst' (nI bits') ∧ gI c' 36 0 = nI many' ∧ gI c' 36 1 = fst' ∧ gI c' 36 2 = nI bits' ∧ (∀ x, x < 20 → gI c' 38 x = nI (col' x)) ∧ (∀ x, x < 20 → gI d' 29 x = nI (col' x)) ∧ many' ≤ 400 ∧ (∀ x, col' x ≤ many') ∧ Qn c c' ∧ Qd d d' := by
        intro c1 f1 k0 k1 k2 k3 k4 k5
        unfold fX8_addSeen_12 fX12_sight_106
        rw [e20, e21, inB_t (show xy % 20 < 20 by omega) (by omega)]
        simp only [bnd_x, gd_true, nIc (show xy % 20 < 100000 by omega), nI_1, k1]
        have g38 : gI (sI c1 36 0 (nI (many + 1))) 38 (xy % 20) = nI (col (xy % 20)) := by rw [gIp, if_neg (by omega), k4, q38 _ (by omega)]
        rw [g38, q29 _ (show xy % 20 < 20 by omega), nI_1]
        generalize hc2 : sI (sI c1 36 0 (nI (many + 1))) 38 (xy % 20) (nI (col (xy % 20) + 1)) = c2
        generalize hd2 : sI d 29 (xy % 20) (nI (col (xy % 20) + 1)) = d2
        have n2 : Qn c c2 := by rw [← hc2]; exact Qn_tr k0 (Qn_tr (Qn_sI _ _ _ _ (by omega)) (Qn_sI _ _ _ _ (by omega)))
        have m2 : Qd d d2 := by rw [← hd2]; exact Qd_sI _ _ _ _ (by omega)
        rw [c_fieldAt hn (VC_Q hc (Qn_q n2)) hb (by omega) (by omega), d_fieldAt hn (VD_Q hd m2) hb (by omega) (by omega), Option.bind_some, Option.bind_some]
        have p0 : gI c2 36 0 = nI (many + 1) := by rw [← hc2, gIp, if_neg (by omega), gIp, if_pos ⟨rfl, rfl⟩]
        have p1 : gI c2 36 1 = f1 := by rw [← hc2, gIp, if_neg (by omega), gIp, if_neg (by omega)]; exact k2
        have p2 : gI c2 36 2 = nI bits := by rw [← hc2, gIp, if_neg (by omega), gIp, if_neg (by omega)]; exact k3
        have p37 : ∀ y, y < 400 → gI c2 37 y = nI (cntO (eR c0 s) y R 0) := fun y hy => by rw [← hc2, gIp, if_neg (by omega), gIp, if_neg (by omega), k5]; exact q37 y hy
        have p38 : ∀ x, x < 20 → gI c2 38 x = nI (if x = xy % 20 then col x + 1 else col x) := fun x hx => by
          rw [← hc2, gIp]
          by_cases w : x = xy % 20
          · rw [if_pos ⟨rfl, w⟩, if_pos w, w]
          · rw [if_neg (fun q => w q.2), if_neg w, gIp, if_neg (by omega), k4]; exact q38 x hx
        have p29 : ∀ x, x < 20 → gI d2 29 x = nI (if x = xy % 20 then col x + 1 else col x) := fun x hx => by
          rw [← hd2, gIp]
          by_cases w : x = xy % 20
          · rw [if_pos ⟨rfl, w⟩, if_pos w, w]
          · rw [if_neg (fun q => w q.2), if_neg w]; exact q29 x hx
        have hcl2 : ∀ x, (if x = xy % 20 then col x + 1 else col x) ≤ many + 1 := fun x => by
          have := hcl x
          split <;> omega
        have h532 : gI c2 (53 + 2 * s) = gI c0 (53 + 2 * s) := by rw [n2.1 _ (by omega) (by omega) (by omega), h53]
        cases hf : fldV V (xy % 20) (xy / 20) nf 0 with
        | none =>
          show ∃ (c' d' : St) (many' bits' : Nat) (fst' : Int32) (col' : Nat → Nat), ((if (-1 : Int32) < 0 then some c2 else _).bind _) = some c' ∧ (if (-2 : Int32) < 0 then _ else _) = _ ∧ _
          rw [if_pos (show (-1 : Int32) < 0 by decide), if_pos (show (-2 : Int32) < 0 by decide), Option.bind_some]
          obtain ⟨c', d', m', b', f', col', u1, u2, u3, u4, u5, u6, u7, u8, u9, u10, u11⟩ := ih (xy + 1) k (many + 1) bits (fun x => if x = xy % 20 then col x + 1 else col x) c2 d2 f1 (by omega) (by omega) (by omega) hcl2 (VC_Q hc (Qn_q n2)) (VD_Q hd m2) (rwE_d hR (m2.1 40 (by omega)) (m2.2 41)) h532 p0 p1 p2 p38 p29 p37
          exact ⟨c', d', m', b', f', col', u1, u2, u3, u4, u5, u6, u7, u8, u9, Qn_tr n2 u10, Qd_tr m2 u11⟩
        | some g =>
          have hg := fldV_lt nf 0 g hf
          simp only [show ∀ z : Int32, fR z (some g) = nI g from fun z => rfl]
          rw [if_neg (nI_pos (by omega)), if_neg (nI_pos (by omega)), Option.bind_some, shl_1b (by omega), p2, or_nI]
          have n3 : Qn c (sI c2 36 2 (nI (bits ||| 2 ^ g))) := Qn_tr n2 (Qn_sI _ _ _ _ (by omega))
          obtain ⟨c', d', m', b', f', col', u1, u2, u3, u4, u5, u6, u7, u8, u9, u10, u11⟩ := ih (xy + 1) k (many + 1) (bits ||| 2 ^ g) (fun x => if x = xy % 20 then col x + 1 else col x) (sI c2 36 2 (nI (bits ||| 2 ^ g))) d2 f1 (by omega) (by omega) (by omega) hcl2 (VC_Q hc (Qn_q n3)) (VD_Q hd m2) (rwE_d hR (m2.1 40 (by omega)) (m2.2 41)) (by rw [n3.1 _ (by omega) (by omega) (by omega), h53]) (by rw [gIp, if_neg (by omega)]; exact p0) (by rw [gIp, if_neg (by omega)]; exact p1) (by rw [gIp, if_pos ⟨rfl, rfl⟩]) (fun x hx => by rw [gIp, if_neg (by omega)]; exact p38 x hx) p29 (fun y hy => by rw [gIp, if_neg (by omega)]; exact p37 y hy)
          exact ⟨c', d', m', b', f', col', u1, u2, u3, u4, u5, u6, u7, u8, u9, Qn_tr n3 u10, Qd_tr m2 u11⟩
      unfold fX8_addSeen
      rw [q0, bnd_x]
      by_cases z0 : many = 0
      · rw [if_pos (show nI many = 0 by rw [z0]; rfl), if_pos (show nI many = 0 by rw [z0]; rfl)]
        exact go (sI c 36 1 (nI xy)) (nI xy) (Qn_sI _ _ _ _ (by omega)) (by rw [gIp, if_neg (by omega)]; exact q0) (by rw [gIp, if_pos ⟨rfl, rfl⟩]) (by rw [gIp, if_neg (by omega)]; exact q2) (fun j => by rw [gIp, if_neg (by omega)]) (fun j => by rw [gIp, if_neg (by omega)])
      · rw [if_neg (nI_ne0 (n := many) (by omega) (by omega)), if_neg (nI_ne0 (n := many) (by omega) (by omega))]
        exact go c fst (Qn_rf c) q0 q1 q2 (fun _ => rfl) (fun _ => rfl)
