/-! one number of the reference's told anew for a while -/
def QM (w ci : Nat) (d d' : St) : Prop := (∀ k i, ¬ (25 ≤ k ∧ k ≤ 29) → ¬ (k = 1 + w ∧ i = ci) → gI d' k i = gI d k i) ∧ ∀ k, gL d' k = gL d k
theorem QM_q {w ci : Nat} {d d' : St} (h : Qd d d') : QM w ci d d' := ⟨fun k i p _ => by rw [h.1 k p], h.2⟩
theorem QM_tr {w ci : Nat} {a b c : St} (h1 : QM w ci a b) (h2 : QM w ci b c) : QM w ci a c := ⟨fun k i p q => (h2.1 k i p q).trans (h1.1 k i p q), fun k => (h2.2 k).trans (h1.2 k)⟩
theorem QM_sI (w ci : Nat) (d : St) (v : Int32) : QM w ci d (sI d (1 + w) ci v) := ⟨fun k i _ q => by rw [gIp, if_neg q], fun _ => rfl⟩
theorem QM_VD {d0 d : St} {nf nl nc w ci : Nat} {V : Nat → Nat → Int32} {P : LwP} (hv : VD d0 nf nl nc V P) (q : QM w ci d0 d) (hw : w < 14) (v : Int32) : VD (sI d (1 + w) ci v) nf nl nc (modV V w ci v) P := by
  have hs : ∀ k, (k = 0 ∨ (20 ≤ k ∧ k ≤ 24)) → gI (sI d (1 + w) ci v) k = gI d0 k := fun k hk => by
    funext i
    rw [gIp, if_neg (by omega)]
    exact q.1 k i (by omega) (by omega)
  refine VD_fr hv (hs 0 (by omega)) (hs 20 (by omega)) (hs 21 (by omega)) (hs 22 (by omega)) (hs 23 (by omega)) (hs 24 (by omega)) (fun a j ha hj => ?_)
  rw [gIp]
  by_cases z : a = w ∧ j = ci
  · rw [if_pos (by omega), z.1, z.2, mod_y]
  · rw [if_neg (by omega), mod_n z, q.1 _ _ (by omega) (by omega)]
    exact hv.2.2.2.1 a j ha hj
theorem QM_end {d0 d : St} {w ci : Nat} {v : Int32} (q : QM w ci d0 d) (he : gI d0 (1 + w) ci = v) : Qd d0 (sI d (1 + w) ci v) := ⟨fun k hk => by
  funext i
  rw [gIp]
  by_cases z : k = 1 + w ∧ i = ci
  · rw [if_pos z, z.1, z.2, he]
  · rw [if_neg z]
    exact q.1 k i hk z, fun k => q.2 k⟩
def hasW (P : LwP) (o m wh M a b c d : Int32) : Bool := decide (0 < wtV P o m wh a b c d ∧ M ≤ wtV P o m wh a b c d)
def ltr (H : Nat → Bool) : Nat → Nat → Int32 → Int32
  | 0, _, b => b
  | r + 1, x, b => if H x = true then ltr H r (x + 1) (nI x) else b
def lst (H : Nat → Bool) : Nat → Nat → Int32
  | 0, _ => -2
  | r + 1, x => if H x = true then nI x else lst H r (x + 1)
theorem c_later_l {n : Nat} (hn : 5000 < n) {nf nl nc : Nat} {P : LwP} {f m a L : Nat} (hf : f < 10) (hm2 : m < 1000) (ha2 : a < 1000) (hL : L < 100) (o wh M A C D : Int32) : ∀ (r x k : Nat) (c : St) (W : Nat → Nat → Int32) (b : Int32), x + r = L + 1 → r < k → VC c nf nl nc W P → W 8 f = nI m → W 9 f = wh → W 10 12 = A → W 12 12 = C → W 13 12 = D → gI c 24 1 = M → ∃ c', fX9_minutesLater_68 n k c (nI f) (nI a) o (nI L) b (nI x) = some (ltr (fun x => hasW P o (nI m) wh M A (nI (a + x)) C D) r x b, c') ∧ QC c c' := by
  intro r
  induction r with
  | zero =>
    intro x k c W b hx hk hv h8 h9 hA hC hD hM
    obtain ⟨k, rfl⟩ : ∃ k', k = k' + 1 := ⟨k - 1, by omega⟩
    rw [fX9_minutesLater_68, if_pos (nI_lt (by omega) (by omega))]
    exact ⟨c, rfl, QC_q (Qc_rf c)⟩
  | succ r ih =>
    intro x k c W b hx hk hv h8 h9 hA hC hD hM
    obtain ⟨k, rfl⟩ : ∃ k', k = k' + 1 := ⟨k - 1, by omega⟩
    rw [fX9_minutesLater_68, if_neg (nI_nlt (by omega) (by omega)), bnd_x, nI_add]
    have hv' : VC (sI c 14 12 (nI (a + x))) nf nl nc (modV W 11 12 (nI (a + x))) P := mod_VC hv (w := 11) (by omega)
    have p8 : modV W 11 12 (nI (a + x)) 8 f = nI m := (mod_n (by omega)).trans h8
    have p9 : modV W 11 12 (nI (a + x)) 9 f = wh := (mod_n (by omega)).trans h9
    have p10 : modV W 11 12 (nI (a + x)) 10 12 = A := (mod_n (by omega)).trans hA
    have p12 : modV W 11 12 (nI (a + x)) 12 12 = C := (mod_n (by omega)).trans hC
    have p13 : modV W 11 12 (nI (a + x)) 13 12 = D := (mod_n (by omega)).trans hD
    obtain ⟨c1, e1, e2⟩ := c_thas hn hv' (show f < 13 by omega) p8 (by omega) (mod_y (V := W) (w := 11) (ci := 12) (v := nI (a + x))) (by omega) o M (show gI (sI c 14 12 (nI (a + x))) 24 1 = M by rw [gI_sIx, if_neg (by omega)]; exact hM)
    rw [p8, p9, p10, mod_y, p12, p13] at e1
    rw [e1, Option.bind_some, if_bI, ltr]
    have q1 : QC c c1 := QC_tr (QC_sI _ 14 12 _ (by omega)) (QC_q (Q2c_q e2))
    by_cases z : hasW P o (nI m) wh M A (nI (a + x)) C D = true
    · rw [if_pos z]
      have z' := z
      unfold hasW at z'
      rw [z', cond_true, bnd_x, nI_1]
      obtain ⟨c', e3, e4⟩ := ih (x + 1) k c1 (modV W 11 12 (nI (a + x))) (nI x) (by omega) (by omega) (VC_Q hv' (Q2c_q e2)) p8 p9 p10 p12 p13 (by rw [e2.1 24 (by omega) (by omega), gI_sIx, if_neg (by omega)]; exact hM)
      exact ⟨c', e3, QC_tr q1 e4⟩
    · rw [if_neg z]
      have z' := Bool.eq_false_iff.mpr z
      unfold hasW at z'
      rw [z', cond_false]
      exact ⟨c1, rfl, q1⟩
theorem d_later_l {n : Nat} (hn : 5000 < n) {d0 : St} {nf nl nc : Nat} {V : Nat → Nat → Int32} {P : LwP} (hv : VD d0 nf nl nc V P) (hb : VB nf nl nc V) {f x y a L ci : Nat} {a1 : Int32} (ha1 : a1 / 100 = nI f) (hf : f < nl) (hci : ci < nc) (hx : x < 20) (hy : y < 20) (v6 : V 6 f = nI x) (v7 : V 7 f = nI y) (v11 : V 11 ci = nI a) (ha : a < 1000) (hL : L = min 99 (999 - a)) : ∀ (r z k : Nat) (d : St) (b : Int32), z + r = L + 1 → r + 1 < k → QM 11 ci d0 d → ∃ d', fX12_later_29 n k d a1 (nI ci) (nI a) b (nI z) = some (ltr (fun z => hasW P (ownV V nf x y) (V 8 f) (V 9 f) (mx (gW P V (ownV V nf x y) (V 8 f) (V 9 f) (nI ci)) nc) (V 10 ci) (nI (a + z)) (V 12 ci) (V 13 ci)) r z b, d') ∧ Qd d0 d' := by
  have h12 := hb.2.2.1
  have g12 : gI d0 (1 + 11) ci = nI a := (hv.2.2.2.1 11 ci (by omega) (by unfold ct; rw [if_neg (by omega), if_neg (by omega)]; exact hci)).trans v11
  intro r
  induction r with
  | zero =>
    intro z k d b hz hk hq
    obtain ⟨k, rfl⟩ : ∃ k', k = k' + 1 := ⟨k - 1, by omega⟩
    rw [fX12_later_29, inB_t (show ci < 13 by omega) (by omega)]
    simp only [gd_true, bnd_x, nIc (show ci < 100000 by omega), nI_add]
    by_cases q : 99 < z
    · rw [if_pos (show (99 : Int32) < nI z from nI_lt (a := 99) q (by omega))]
      exact ⟨_, rfl, QM_end hq g12⟩
    · rw [if_neg (show ¬ (99 : Int32) < nI z from nI_nlt (b := z) (a := 99) (by omega) (by omega)), if_pos (show (999 : Int32) < nI (a + z) from nI_lt (a := 999) (by omega) (by omega))]
      exact ⟨_, rfl, QM_end hq g12⟩
  | succ r ih =>
    intro z k d b hz hk hq
    obtain ⟨k, rfl⟩ : ∃ k', k = k' + 1 + 1 := ⟨k - 2, by omega⟩
    rw [fX12_later_29, inB_t (show ci < 13 by omega) (by omega)]
    simp only [gd_true, bnd_x, nIc (show ci < 100000 by omega), nI_add]
    rw [if_neg (show ¬ (99 : Int32) < nI z from nI_nlt (b := z) (a := 99) (by omega) (by omega)), if_neg (show ¬ (999 : Int32) < nI (a + z) from nI_nlt (b := a + z) (a := 999) (by omega) (by omega)), ha1]
    have hv' : VD (sI d 12 ci (nI (a + z))) nf nl nc (modV V 11 ci (nI (a + z))) P := QM_VD hv hq (w := 11) (by omega) _
    have hb' : VB nf nl nc (modV V 11 ci (nI (a + z))) := mod_VB hb ⟨nI_pos' (by omega), nI_le (b := 999) (by omega) (by omega)⟩
    obtain ⟨d1, e1, e2⟩ := d_hasIt hn (w := 11) (by omega) hv' hb' hf hci hx hy v6 v7
    rw [mod_y, mod_n (a := 10) (by omega), mod_n (a := 12) (by omega), mod_n (a := 13) (by omega)] at e1
    rw [e1, Option.bind_some, if_bI, ltr]
    have q1 : QM 11 ci d0 d1 := QM_tr (QM_tr hq (QM_sI 11 ci d _)) (QM_q (Q2d_q e2))
    by_cases w : hasW P (ownV V nf x y) (V 8 f) (V 9 f) (mx (gW P V (ownV V nf x y) (V 8 f) (V 9 f) (nI ci)) nc) (V 10 ci) (nI (a + z)) (V 12 ci) (V 13 ci) = true
    · rw [if_pos w]
      have w' := w
      unfold hasW at w'
      rw [w', cond_true, nI_1]
      exact ih (z + 1) (k + 1) d1 (nI z) (by omega) (by omega) q1
    · rw [if_neg w]
      have w' := Bool.eq_false_iff.mpr w
      unfold hasW at w'
      rw [w', cond_false, fX12_later_29, if_pos (by decide), inB_t (show ci < 13 by omega) (by omega), gd_true, bnd_x, nIc (by omega)]
      exact ⟨_, rfl, QM_end q1 g12⟩
theorem mn99 {a : Nat} (ha : a < 1000) : mnI 99 (999 - nI a) = nI (min 99 (999 - a)) := by
  rw [show (999 : Int32) = nI 999 from rfl, show (99 : Int32) = nI 99 from rfl, pk_sub (by omega)]
  unfold mnI
  by_cases q : 999 - a < 99
  · rw [if_pos (nI_lt q (by omega)), Nat.min_eq_right (by omega)]
  · rw [if_neg (nI_nlt (by omega) (by omega)), Nat.min_eq_left (by omega)]
theorem fcy_eq {d : St} {a : Int32} (h0 : ¬ a < 0) (h1 : fX12_isFall d (a / 100) = true) (h2 : fX12_isCry d (rmI a 100) = true) : fX12_areFallCry d a = true := by
  unfold fX12_areFallCry
  rw [if_neg h0, h1, h2]
  rfl
theorem fcn_eq {d : St} {a : Int32} (h : a < 0 ∨ fX12_isFall d (a / 100) = false ∨ (¬ a < 0 ∧ fX12_isFall d (a / 100) = true ∧ fX12_isCry d (rmI a 100) = false)) : fX12_areFallCry d a = false := by
  unfold fX12_areFallCry
  by_cases h0 : a < 0
  · rw [if_pos h0]
  · rw [if_neg h0]
    rcases h with h | h | ⟨h1, h2, h3⟩
    · exact absurd h h0
    · rw [h]; rfl
    · rw [h2, h3]; rfl
set_option maxHeartbeats 1000000 in
theorem s_later {n : Nat} (hn : 5000 < n) : S_later Rel n := by
  intro c d a1 h
  obtain ⟨nf, nl, nc, P, hc, hd, hb⟩ := views h
  generalize hV : (fun w j => gI c (3 + w) j) = V at hc hd hb
  have h10 := hb.2.1
  have h12 := hb.2.2.1
  unfold fX11_later fX12_later
  rcases fc_ask hc hd hb a1 with ⟨q1, q2⟩ | ⟨q1, q2, q3, q4, f, ci, hf, hci, e1, e2⟩
  · rw [q1, fcn_eq q2]
    exact ⟨_, c, d, rfl, rfl, h⟩
  · rw [q1, fcy_eq q2 q3 q4, if_bI, if_bI, cond_true, cond_true, some_eta, e2, e1]
    obtain ⟨x, y, m, hx, hy, hm, v6, v7, v8⟩ := fall_nat hb hf
    obtain ⟨w, a, hw, ha, v10, v11⟩ := cry_nat hb hci
    have g14 : gI c 14 ci = nI a := (hc.2.2.2.1 11 ci (by omega) (by omega)).trans v11
    have g12 : gI d 12 ci = nI a := (hd.2.2.2.1 11 ci (by omega) (by unfold ct; rw [if_neg (by omega), if_neg (by omega)]; exact hci)).trans v11
    obtain ⟨c1, w1, w2, w3, -, -⟩ := c_weigh hn hc hb (show f < 13 by omega) v8 (by omega) (ownV V nf x y) (nI ci)
    obtain ⟨c2, t1, t2, t3, t4⟩ := c_think (VC_Q hc (Qw_q w2)) (show ci < 13 by omega)
    unfold fX9_minutesLater
    rw [inB_t (show ci < 13 by omega) (by omega), gd_true, bnd_x, nIc (by omega), g14, c_under hn hc hb (by omega) hx hy v6 v7, Option.bind_some, c_owner hc hb, Option.bind_some, w1, Option.bind_some, t1, Option.bind_some, bnd_x, mn99 ha, bnd_x, inB_t (show ci < 13 by omega) (by omega), gd_true, bnd_x, nIc (by omega), g12]
    obtain ⟨c', y1, y2⟩ := c_later_l hn (f := f) (m := m) (a := a) (L := min 99 (999 - a)) (by omega) (by omega) ha (by omega) (ownV V nf x y) (V 9 f) (mx (gW P V (ownV V nf x y) (V 8 f) (V 9 f) (nI ci)) nc) (V 10 ci) (V 12 ci) (V 13 ci) (min 99 (999 - a) + 1) 0 n c2 _ (-2) (by omega) (by omega) t2 ((mod_n (by omega)).trans ((mod_n (by omega)).trans ((mod_n (by omega)).trans ((mod_n (by omega)).trans v8)))) ((mod_n (by omega)).trans ((mod_n (by omega)).trans ((mod_n (by omega)).trans (mod_n (by omega))))) rfl rfl rfl (by rw [t4 24 (by omega)]; exact w3)
    obtain ⟨d', z1, z2⟩ := d_later_l hn hd hb e1 hf hci hx hy v6 v7 v11 ha rfl (min 99 (999 - a) + 1) 0 n d (-2) (by omega) (by omega) (QM_q (Qd_rf d))
    rw [v8] at z1 y1
    exact ⟨_, c', d', y1, z1, Rel_QC h (QC_tr (QC_q (Qw_q w2)) (QC_tr t3 y2)) z2⟩
theorem c_loud_l {n : Nat} (hn : 5000 < n) {nf nl nc : Nat} {P : LwP} {f m a : Nat} (hf : f < 10) (hm2 : m < 1000) (ha2 : a < 1000) (o wh M A C : Int32) : ∀ (r x k : Nat) (c : St) (W : Nat → Nat → Int32), x + r = 10 → r < k → VC c nf nl nc W P → W 8 f = nI m → W 9 f = wh → W 10 12 = A → W 11 12 = nI a → W 12 12 = C → gI c 24 1 = M → ∃ c', fX9_leastLoud_37 n k c (nI f) o (nI x) = some (lst (fun x => hasW P o (nI m) wh M A (nI a) C (nI x)) r x, c') ∧ QC c c' := by
  intro r
  induction r with
  | zero =>
    intro x k c W hx hk hv h8 h9 hA hB hC hM
    obtain ⟨k, rfl⟩ : ∃ k', k = k' + 1 := ⟨k - 1, by omega⟩
    rw [fX9_leastLoud_37, if_pos (show tb tMOST 13 < nI x from nI_lt (a := 9) (by omega) (by omega))]
    exact ⟨c, rfl, QC_q (Qc_rf c)⟩
  | succ r ih =>
    intro x k c W hx hk hv h8 h9 hA hB hC hM
    obtain ⟨k, rfl⟩ : ∃ k', k = k' + 1 := ⟨k - 1, by omega⟩
    rw [fX9_leastLoud_37, if_neg (show ¬ tb tMOST 13 < nI x from nI_nlt (a := 9) (by omega) (by omega)), bnd_x]
    have hv' : VC (sI c 16 12 (nI x)) nf nl nc (modV W 13 12 (nI x)) P := mod_VC hv (w := 13) (by omega)
    have p8 : modV W 13 12 (nI x) 8 f = nI m := (mod_n (by omega)).trans h8
    have p9 : modV W 13 12 (nI x) 9 f = wh := (mod_n (by omega)).trans h9
    have p10 : modV W 13 12 (nI x) 10 12 = A := (mod_n (by omega)).trans hA
    have p11 : modV W 13 12 (nI x) 11 12 = nI a := (mod_n (by omega)).trans hB
    have p12 : modV W 13 12 (nI x) 12 12 = C := (mod_n (by omega)).trans hC
    obtain ⟨c1, e1, e2⟩ := c_thas hn hv' (show f < 13 by omega) p8 (by omega) p11 (by omega) o M (show gI (sI c 16 12 (nI x)) 24 1 = M by rw [gI_sIx, if_neg (by omega)]; exact hM)
    rw [p8, p9, p10, p11, p12, mod_y] at e1
    rw [e1, Option.bind_some, if_bI, lst]
    have q1 : QC c c1 := QC_tr (QC_sI _ 16 12 _ (by omega)) (QC_q (Q2c_q e2))
    by_cases z : hasW P o (nI m) wh M A (nI a) C (nI x) = true
    · rw [if_pos z]
      have z' := z
      unfold hasW at z'
      rw [z', cond_true]
      exact ⟨c1, rfl, q1⟩
    · rw [if_neg z]
      have z' := Bool.eq_false_iff.mpr z
      unfold hasW at z'
      rw [z', cond_false, bnd_x, nI_1]
      obtain ⟨c', e3, e4⟩ := ih (x + 1) k c1 (modV W 13 12 (nI x)) (by omega) (by omega) (VC_Q hv' (Q2c_q e2)) p8 p9 p10 p11 p12 (by rw [e2.1 24 (by omega) (by omega), gI_sIx, if_neg (by omega)]; exact hM)
      exact ⟨c', e3, QC_tr q1 e4⟩
theorem d_loud_l {n : Nat} (hn : 5000 < n) {d0 : St} {nf nl nc : Nat} {V : Nat → Nat → Int32} {P : LwP} (hv : VD d0 nf nl nc V P) (hb : VB nf nl nc V) {f x y ci : Nat} {a1 : Int32} (ha1 : a1 / 100 = nI f) (hf : f < nl) (hci : ci < nc) (hx : x < 20) (hy : y < 20) (v6 : V 6 f = nI x) (v7 : V 7 f = nI y) : ∀ (r z k : Nat) (d : St), z + r = 10 → r + 1 < k → QM 13 ci d0 d → ∃ d', fX12_louder_29 n k d a1 (nI ci) (V 13 ci) (-2) (nI z) = some (lst (fun z => hasW P (ownV V nf x y) (V 8 f) (V 9 f) (mx (gW P V (ownV V nf x y) (V 8 f) (V 9 f) (nI ci)) nc) (V 10 ci) (V 11 ci) (V 12 ci) (nI z)) r z, d') ∧ Qd d0 d' := by
  have h12 := hb.2.2.1
  have g14 : gI d0 (1 + 13) ci = V 13 ci := hv.2.2.2.1 13 ci (by omega) (by unfold ct; rw [if_neg (by omega), if_neg (by omega)]; exact hci)
  intro r
  induction r with
  | zero =>
    intro z k d hz hk hq
    obtain ⟨k, rfl⟩ : ∃ k', k = k' + 1 := ⟨k - 1, by omega⟩
    rw [fX12_louder_29, inB_t (show ci < 13 by omega) (by omega)]
    simp only [gd_true, bnd_x, nIc (show ci < 100000 by omega)]
    rw [if_pos (show (9 : Int32) < nI z from nI_lt (a := 9) (by omega) (by omega))]
    exact ⟨_, rfl, QM_end hq g14⟩
  | succ r ih =>
    intro z k d hz hk hq
    obtain ⟨k, rfl⟩ : ∃ k', k = k' + 1 + 1 := ⟨k - 2, by omega⟩
    rw [fX12_louder_29, inB_t (show ci < 13 by omega) (by omega)]
    simp only [gd_true, bnd_x, nIc (show ci < 100000 by omega), nI_1]
    rw [if_neg (show ¬ (9 : Int32) < nI z from nI_nlt (b := z) (a := 9) (by omega) (by omega)), if_neg (show ¬ (0 : Int32) ≤ -2 by decide), ha1]
    have hv' : VD (sI d 14 ci (nI z)) nf nl nc (modV V 13 ci (nI z)) P := QM_VD hv hq (w := 13) (by omega) _
    have hb' : VB nf nl nc (modV V 13 ci (nI z)) := mod_VB hb ⟨nI_pos' (by omega), nI_le (b := 9) (by omega) (by omega)⟩
    obtain ⟨d1, e1, e2⟩ := d_hasIt hn (w := 13) (by omega) hv' hb' hf hci hx hy v6 v7
    rw [mod_y, mod_n (a := 10) (by omega), mod_n (a := 11) (by omega), mod_n (a := 12) (by omega)] at e1
    rw [e1, Option.bind_some, if_bI, lst]
    have q1 : QM 13 ci d0 d1 := QM_tr (QM_tr hq (QM_sI 13 ci d _)) (QM_q (Q2d_q e2))
    by_cases w : hasW P (ownV V nf x y) (V 8 f) (V 9 f) (mx (gW P V (ownV V nf x y) (V 8 f) (V 9 f) (nI ci)) nc) (V 10 ci) (V 11 ci) (V 12 ci) (nI z) = true
    · rw [if_pos w]
      have w' := w
      unfold hasW at w'
      rw [w', cond_true, fX12_louder_29, inB_t (show ci < 13 by omega) (by omega)]
      simp only [gd_true, bnd_x, nIc (show ci < 100000 by omega)]
      rw [if_pos (nI_pos' (n := z) (by omega)), ite_self]
      exact ⟨_, rfl, QM_end q1 g14⟩
    · rw [if_neg w]
      have w' := Bool.eq_false_iff.mpr w
      unfold hasW at w'
      rw [w', cond_false]
      exact ih (z + 1) (k + 1) d1 (by omega) (by omega) q1
set_option maxHeartbeats 1000000 in
theorem s_louder {n : Nat} (hn : 5000 < n) : S_louder Rel n := by
  intro c d a1 h
  obtain ⟨nf, nl, nc, P, hc, hd, hb⟩ := views h
  generalize hV : (fun w j => gI c (3 + w) j) = V at hc hd hb
  have h10 := hb.2.1
  have h12 := hb.2.2.1
  unfold fX11_louder fX12_louder
  rcases fc_ask hc hd hb a1 with ⟨q1, q2⟩ | ⟨q1, q2, q3, q4, f, ci, hf, hci, e1, e2⟩
  · rw [q1, fcn_eq q2]
    exact ⟨_, c, d, rfl, rfl, h⟩
  · rw [q1, fcy_eq q2 q3 q4, if_bI, if_bI, cond_true, cond_true, some_eta, e2, e1]
    obtain ⟨x, y, m, hx, hy, hm, v6, v7, v8⟩ := fall_nat hb hf
    obtain ⟨w, a, hw, ha, v10, v11⟩ := cry_nat hb hci
    have g14 : gI d 14 ci = V 13 ci := hd.2.2.2.1 13 ci (by omega) (by unfold ct; rw [if_neg (by omega), if_neg (by omega)]; exact hci)
    obtain ⟨c1, w1, w2, w3, -, -⟩ := c_weigh hn hc hb (show f < 13 by omega) v8 (by omega) (ownV V nf x y) (nI ci)
    obtain ⟨c2, t1, t2, t3, t4⟩ := c_think (VC_Q hc (Qw_q w2)) (show ci < 13 by omega)
    unfold fX9_leastLoud
    rw [c_under hn hc hb (by omega) hx hy v6 v7, Option.bind_some, c_owner hc hb, Option.bind_some, w1, Option.bind_some, t1, Option.bind_some, bnd_x, inB_t (show ci < 13 by omega) (by omega), gd_true, bnd_x, nIc (by omega), g14]
    obtain ⟨c', y1, y2⟩ := c_loud_l hn (f := f) (m := m) (a := a) (by omega) (by omega) ha (ownV V nf x y) (V 9 f) (mx (gW P V (ownV V nf x y) (V 8 f) (V 9 f) (nI ci)) nc) (V 10 ci) (V 12 ci) 10 0 n c2 _ (by omega) (by omega) t2 ((mod_n (by omega)).trans ((mod_n (by omega)).trans ((mod_n (by omega)).trans ((mod_n (by omega)).trans v8)))) ((mod_n (by omega)).trans ((mod_n (by omega)).trans ((mod_n (by omega)).trans (mod_n (by omega))))) rfl v11 rfl (by rw [t4 24 (by omega)]; exact w3)
    obtain ⟨d', z1, z2⟩ := d_loud_l hn hd hb e1 hf hci hx hy v6 v7 10 0 n d (by omega) (by omega) (QM_q (Qd_rf d))
    rw [v8, v11] at z1
    rw [v8] at y1
    exact ⟨_, c', d', y1, z1, Rel_QC h (QC_tr (QC_q (Qw_q w2)) (QC_tr t3 y2)) z2⟩
