theorem nI_mul' (a b : Nat) : nI a * nI b = nI (a * b) := (Int32.ofNat_mul a b).symm
theorem e118 {n N O : Nat} {c : St} (hN : N ≤ 13) : fX9_earnedBy_118 n c (nI N) (nI O) = some (nI (12 / N * O), c) := by
  unfold fX9_earnedBy_118
  by_cases z : N = 0
  · rw [z, if_pos (show nI 0 = 0 from rfl), Nat.div_zero, Nat.zero_mul]
    rfl
  · rw [if_neg (nI_ne0 (by omega) (by omega)), show (12 : Int32) / nI N = nI (12 / N) from dv_nI (a := 12) (d := N) (by omega) (by omega) (by omega), nI_mul']
theorem c_earned {n : Nat} (hn : 5000 < n) {c : St} {nf nl nc : Nat} {V W : Nat → Nat → Int32} {P : LwP} (hv : VC c nf nl nc W P) (hb : VB nf nl nc V) {f mt ci w : Nat} (hf : f < nl) (hci : ci < nc) (hw : V 10 ci = nI w) (hmt : mt < 1000) (p8 : W 8 f = V 8 f) (p9 : W 9 f = V 9 f) (p10 : W 10 12 = V 10 ci) (p11 : W 11 12 = nI mt) (p12 : W 12 12 = V 12 ci) (p13 : W 13 12 = V 13 ci) (hO : OT P V nf nc ci w c f) : ∃ c', fX9_earnedBy n c (nI f) (nI w) = some (nI (ernV P V nf nc ci w (nI mt) f), c') ∧ Q2c c c' := by
  have h10 := hb.2.1
  have h12 := hb.2.2.1
  obtain ⟨x, y, m, hx, hy, hm, v6, v7, v8⟩ := fall_nat hb hf
  unfold fX9_earnedBy
  rw [inB_t (show f < 10 by omega) (by omega)]
  simp only [gd_true, nIc (show f < 100000 by omega), hO.1]
  unfold ernV
  by_cases z1 : owF V nf f < 0
  · rw [if_pos z1, if_pos z1]
    exact ⟨c, rfl, Q2c_rf c⟩
  · rw [if_neg z1, if_neg z1]
    by_cases z2 : owF V nf f = nI w
    · rw [if_pos z2, if_pos z2]
      exact ⟨c, rfl, Q2c_rf c⟩
    · rw [if_neg z2, if_neg z2]
      obtain ⟨c1, e1, e2⟩ := c_countIf hn hv (show f < 13 by omega) (show 12 < 13 by omega) (p8.trans v8) (by omega) p11 (by omega) (owF V nf f)
      rw [p8, p9, p10, p11, p12, p13] at e1
      rw [show (12 : Int32) = nI 12 from rfl, e1, Option.bind_some]
      have eg : gA P (modV V 11 ci (nI mt)) (owF V nf f) (V 8 f) (V 9 f) ci = wtV P (owF V nf f) (V 8 f) (V 9 f) (V 10 ci) (nI mt) (V 12 ci) (V 13 ci) := by
        unfold gA
        rw [mod_y, mod_n (a := 10) (by omega), mod_n (a := 12) (by omega), mod_n (a := 13) (by omega)]
      obtain ⟨k1, k2, k3⟩ := earn_pure (g := gW P V (owF V nf f) (V 8 f) (V 9 f) (nI ci)) (g' := gA P (modV V 11 ci (nI mt)) (owF V nf f) (V 8 f) (V 9 f)) (V := V) (w := w) hci (fun i hi e => by
        unfold gA gW
        rw [if_neg (fun q => e (by rw [nIeq (by omega) (by omega)] at q; exact q)), mod_n (fun q => e q.2), mod_n (fun q => e q.2), mod_n (fun q => e q.2), mod_n (fun q => e q.2)]) (by unfold gW; rw [if_pos rfl]) hw
      rw [eg] at k1 k2 k3
      have hmn := mn_le (gW P V (owF V nf f) (V 8 f) (V 9 f) (nI ci)) nc
      have g29 : gI c1 29 f = _ := (congrFun (e2.1 29 (by omega) (by omega)) f).trans hO.2.1
      have g30 : gI c1 30 f = _ := (congrFun (e2.1 30 (by omega) (by omega)) f).trans hO.2.2.1
      have g31 : gI c1 31 f = _ := (congrFun (e2.1 31 (by omega) (by omega)) f).trans hO.2.2.2
      rw [g29]
      generalize wtV P (owF V nf f) (V 8 f) (V 9 f) (V 10 ci) (nI mt) (V 12 ci) (V 13 ci) = t at k1 k2 k3
      refine ⟨c1, ?_, e2⟩
      have two : fX9_earnedBy_69 n c1 (nI f) = some (nI (12 / mn (gW P V (owF V nf f) (V 8 f) (V 9 f) (nI ci)) nc * cn V (bt (gW P V (owF V nf f) (V 8 f) (V 9 f) (nI ci)) nc) w nc), c1) := by
        unfold fX9_earnedBy_69 fX9_earnedBy_70 fX9_earnedBy_94
        rw [if_pos rfl, if_pos rfl, inB_t (show f < 10 by omega) (by omega), gd_true, gd_true, nIc (by omega), g30, g31, e118 (by omega)]
      by_cases t1 : t ≤ mx (gW P V (owF V nf f) (V 8 f) (V 9 f) (nI ci)) nc
      · rw [if_pos t1]
        by_cases t2 : t ≤ 0
        · rw [if_pos t2, two, (k3 (fun q => fa_nle q t1) (fun q => fa_nle q.1 t2)).1, (k3 (fun q => fa_nle q t1) (fun q => fa_nle q.1 t2)).2]
        · rw [if_neg t2]
          by_cases t3 : t = mx (gW P V (owF V nf f) (V 8 f) (V 9 f) (nI ci)) nc
          · obtain ⟨u1, u2⟩ := k2 (i32_nle t2) t3
            rw [if_pos t3, u1, u2]
            unfold fX9_earnedBy_70 fX9_earnedBy_94
            rw [if_neg (by decide), if_neg (by decide), inB_t (show f < 10 by omega) (by omega), gd_true, gd_true, nIc (by omega), g30, g31, nI_1, nI_1, e118 (by omega)]
          · rw [if_neg t3, two, (k3 (fun q => fa_nle q t1) (fun q => t3 q.2)).1, (k3 (fun q => fa_nle q t1) (fun q => t3 q.2)).2]
      · obtain ⟨u1, u2⟩ := k1 (i32_nle t1)
        rw [if_neg t1, u1, u2]
def bst (T : Nat → Nat) : Nat → Nat → Int32 → Int32 → Int32 × Int32
  | 0, _, b, m => (b, m)
  | r + 1, x, b, m => if m < nI (T x) then bst T r (x + 1) (nI x) (nI (T x)) else bst T r (x + 1) b m
/-- a view in which the thought cry is that one, in some minute -/
def TV (c : St) (nf nl nc : Nat) (V : Nat → Nat → Int32) (P : LwP) (ci : Nat) : Prop := ∃ W, VC c nf nl nc W P ∧ (∀ f, f < nl → W 8 f = V 8 f ∧ W 9 f = V 9 f) ∧ W 10 12 = V 10 ci ∧ W 12 12 = V 12 ci ∧ W 13 12 = V 13 ci
theorem c_seek_in {n : Nat} (hn : 5000 < n) {nf nl nc : Nat} {V W : Nat → Nat → Int32} {P : LwP} (hb : VB nf nl nc V) {mt ci w : Nat} (hci : ci < nc) (hw : V 10 ci = nI w) (hmt : mt < 1000) (p8 : ∀ f, f < nl → W 8 f = V 8 f ∧ W 9 f = V 9 f) (p10 : W 10 12 = V 10 ci) (p11 : W 11 12 = nI mt) (p12 : W 12 12 = V 12 ci) (p13 : W 13 12 = V 13 ci) (K : St → Int32 → Int32 → Option St) : ∀ (r f k : Nat) (c : St), f + r = nl → r < k → VC c nf nl nc W P → (∀ f, f < nl → OT P V nf nc ci w c f) → ∃ c', fX9_seekMinute_66 K n k c (nI w) (nI mt) (nI (sumE P V nf nc ci w (nI mt) f)) (nI f) = (if gI c 27 1 < nI (sumE P V nf nc ci w (nI mt) nl) then K (sI (sI c' 27 0 (nI mt)) 27 1 (nI (sumE P V nf nc ci w (nI mt) nl))) (nI w) (nI (mt + 1)) else K c' (nI w) (nI (mt + 1))) ∧ Q2c c c' := by
  have h10 := hb.2.1
  intro r
  induction r with
  | zero =>
    intro f k c hf hk hv hO
    obtain ⟨k, rfl⟩ : ∃ k', k = k' + 1 := ⟨k - 1, by omega⟩
    have e : f = nl := by omega
    subst e
    rw [fX9_seekMinute_66, hv.2.1, if_pos (i32_rf _)]
    refine ⟨c, ?_, Q2c_rf c⟩
    simp only [bnd_x, nI_1]
    by_cases z : gI c 27 1 < nI (sumE P V nf nc ci w (nI mt) f)
    · rw [if_pos z, if_neg (fun q => fa_nle z q)]
    · rw [if_neg z, if_pos (fa_nlt z)]
  | succ r ih =>
    intro f k c hf hk hv hO
    obtain ⟨k, rfl⟩ : ∃ k', k = k' + 1 := ⟨k - 1, by omega⟩
    obtain ⟨c1, e1, e2⟩ := c_earned hn hv hb (show f < nl by omega) hci hw hmt (p8 f (by omega)).1 (p8 f (by omega)).2 p10 p11 p12 p13 (hO f (by omega))
    rw [fX9_seekMinute_66, hv.2.1, if_neg (nI_ge (by omega) (by omega)), e1, Option.bind_some, bnd_x, bnd_x, nI_add, nI_1]
    obtain ⟨c', f1, f2⟩ := ih (f + 1) k c1 (by omega) (by omega) (VC_Q hv (Q2c_q e2)) (fun g hg => OT_eq (hO g hg) (fun k h1 h2 => by rw [e2.1 k (by omega) (by omega)]))
    rw [e2.1 27 (by omega) (by omega)] at f1
    exact ⟨c', f1, fun k a b => (f2.1 k a b).trans (e2.1 k a b), fun k => (f2.2 k).trans (e2.2 k)⟩
theorem c_seek_l {n : Nat} (hn : 5000 < n) {nf nl nc : Nat} {V : Nat → Nat → Int32} {P : LwP} (hb : VB nf nl nc V) {ci w : Nat} (hci : ci < nc) (hw : V 10 ci = nI w) : ∀ (r mt k : Nat) (c : St), mt + r = 1000 → r < k → TV c nf nl nc V P ci → (∀ f, f < nl → OT P V nf nc ci w c f) → ∃ c', fX9_seekMinute_39 n k c (nI w) (nI mt) = some c' ∧ (gI c' 27 0, gI c' 27 1) = bst (fun x => sumE P V nf nc ci w (nI x) nl) r mt (gI c 27 0) (gI c 27 1) ∧ QC c c' := by
  have h10 := hb.2.1
  intro r
  induction r with
  | zero =>
    intro mt k c hm hk hv hO
    obtain ⟨k, rfl⟩ : ∃ k', k = k' + 1 := ⟨k - 1, by omega⟩
    rw [fX9_seekMinute_39, if_pos (show (1000 : Int32) ≤ nI mt from nI_le (a := 1000) (by omega) (by omega))]
    exact ⟨c, rfl, rfl, QC_q (Qc_rf c)⟩
  | succ r ih =>
    intro mt k c hm hk hv hO
    obtain ⟨k, rfl⟩ : ∃ k', k = k' + 1 := ⟨k - 1, by omega⟩
    obtain ⟨W, hW, p8, p10, p12, p13⟩ := hv
    rw [fX9_seekMinute_39, if_neg (show ¬ (1000 : Int32) ≤ nI mt from nI_ge (b := 1000) (by omega) (by omega)), bnd_x]
    have hv' : VC (sI c 14 12 (nI mt)) nf nl nc (modV W 11 12 (nI mt)) P := mod_VC hW (w := 11) (by omega)
    have q8 : ∀ f, f < nl → modV W 11 12 (nI mt) 8 f = V 8 f ∧ modV W 11 12 (nI mt) 9 f = V 9 f := fun f hf => ⟨(mod_n (by omega)).trans (p8 f hf).1, (mod_n (by omega)).trans (p8 f hf).2⟩
    have q10 : modV W 11 12 (nI mt) 10 12 = V 10 ci := (mod_n (by omega)).trans p10
    have q12 : modV W 11 12 (nI mt) 12 12 = V 12 ci := (mod_n (by omega)).trans p12
    have q13 : modV W 11 12 (nI mt) 13 12 = V 13 ci := (mod_n (by omega)).trans p13
    obtain ⟨c1, e1, e2⟩ := c_seek_in hn hb hci hw (show mt < 1000 by omega) q8 q10 mod_y q12 q13 (fX9_seekMinute_39 n k) nl 0 n (sI c 14 12 (nI mt)) (by omega) (by omega) hv' (fun f hf => OT_eq (hO f hf) (fun k h1 h2 => by rw [gIp, if_neg (by omega)]))
    have e1' : fX9_seekMinute_66 (fX9_seekMinute_39 n k) n n (sI c 14 12 (nI mt)) (nI w) (nI mt) 0 0 = _ := e1
    rw [e1', bst]
    have g27 : gI (sI c 14 12 (nI mt)) 27 = gI c 27 := by rw [gI_sIx, if_neg (by omega)]
    have g27' : gI c1 27 = gI c 27 := (e2.1 27 (by omega) (by omega)).trans g27
    have q1 : QC c c1 := QC_tr (QC_sI _ 14 12 _ (by omega)) (QC_q (Q2c_q e2))
    rw [g27]
    by_cases z : gI c 27 1 < nI (sumE P V nf nc ci w (nI mt) nl)
    · rw [if_pos z, if_pos z]
      have qs : Qc c1 (sI (sI c1 27 0 (nI mt)) 27 1 (nI (sumE P V nf nc ci w (nI mt) nl))) := Qc_tr (Qc_sI _ _ _ _ (by omega)) (Qc_sI _ _ _ _ (by omega))
      obtain ⟨c', f1, f2, f3⟩ := ih (mt + 1) k (sI (sI c1 27 0 (nI mt)) 27 1 (nI (sumE P V nf nc ci w (nI mt) nl))) (by omega) (by omega) ⟨modV W 11 12 (nI mt), VC_Q (VC_Q hv' (Q2c_q e2)) qs, q8, q10, q12, q13⟩ (fun f hf => OT_eq (hO f hf) (fun k h1 h2 => by rw [gIp, if_neg (by omega), gIp, if_neg (by omega), e2.1 k (by omega) (by omega), gIp, if_neg (by omega)]))
      refine ⟨c', f1, ?_, QC_tr q1 (QC_tr (QC_q qs) f3)⟩
      rw [f2, gIp, if_neg (by omega), gIp, if_pos ⟨rfl, rfl⟩, gIp, if_pos ⟨rfl, rfl⟩]
    · rw [if_neg z, if_neg z]
      obtain ⟨c', f1, f2, f3⟩ := ih (mt + 1) k c1 (by omega) (by omega) ⟨modV W 11 12 (nI mt), VC_Q hv' (Q2c_q e2), q8, q10, q12, q13⟩ (fun f hf => OT_eq (hO f hf) (fun k h1 h2 => by rw [e2.1 k (by omega) (by omega), gIp, if_neg (by omega)]))
      refine ⟨c', f1, ?_, QC_tr q1 f3⟩
      rw [f2, g27']
theorem d_best_l {n : Nat} (hn : 5000 < n) {d0 : St} {nf nl nc : Nat} {V : Nat → Nat → Int32} {P : LwP} (hv : VD d0 nf nl nc V P) (hb : VB nf nl nc V) {ci w : Nat} (hci : ci < nc) (hw : V 10 ci = nI w) (hw6 : w < 6) (a2 : Int32) : ∀ (r mt k : Nat) (d : St) (b m : Int32), mt + r = 1000 → r < k → QM 11 ci d0 d → ∃ d', fX12_bestCry_35 n k d (nI ci) a2 (V 11 ci) b m (nI mt) = some (if a2 = 0 then (bst (fun x => sumE P V nf nc ci w (nI x) nl) r mt b m).1 else (bst (fun x => sumE P V nf nc ci w (nI x) nl) r mt b m).2, d') ∧ Qd d0 d' := by
  have h12 := hb.2.2.1
  have hct : ∀ w, 10 ≤ w → ci < ct nf nl nc w := fun w hw => by unfold ct; rw [if_neg (by omega), if_neg (by omega)]; exact hci
  have g12 : gI d0 (1 + 11) ci = V 11 ci := hv.2.2.2.1 11 ci (by omega) (hct 11 (by omega))
  intro r
  induction r with
  | zero =>
    intro mt k d b m hm hk hq
    obtain ⟨k, rfl⟩ : ∃ k', k = k' + 1 := ⟨k - 1, by omega⟩
    rw [fX12_bestCry_35, if_pos (show (999 : Int32) < nI mt from nI_lt (a := 999) (by omega) (by omega)), inB_t (show ci < 13 by omega) (by omega), gd_true, bnd_x, nIc (by omega)]
    refine ⟨sI d 12 ci (V 11 ci), ?_, QM_end hq g12⟩
    by_cases z : a2 = 0
    · rw [if_pos z, if_pos z]; rfl
    · rw [if_neg z, if_neg z]; rfl
  | succ r ih =>
    intro mt k d b m hm hk hq
    obtain ⟨k, rfl⟩ : ∃ k', k = k' + 1 := ⟨k - 1, by omega⟩
    rw [fX12_bestCry_35, if_neg (show ¬ (999 : Int32) < nI mt from nI_nlt (b := mt) (a := 999) (by omega) (by omega)), inB_t (show ci < 13 by omega) (by omega)]
    simp only [gd_true, bnd_x, nIc (show ci < 100000 by omega), nI_1]
    have hv' : VD (sI d 12 ci (nI mt)) nf nl nc (modV V 11 ci (nI mt)) P := QM_VD hv hq (w := 11) (by omega) _
    have hb' : VB nf nl nc (modV V 11 ci (nI mt)) := mod_VB hb ⟨nI_pos' (by omega), nI_le (b := 999) (by omega) (by omega)⟩
    obtain ⟨y, y1, y2, y3⟩ := d_findOwed hn hv' hb'
    have g11 : gI y 11 ci = nI w := ((VD_Q hv' (Qo_q y3)).2.2.2.1 10 ci (by omega) (hct 10 (by omega))).trans ((mod_n (by omega)).trans hw)
    rw [y1, Option.bind_some, g11, d_owedAll hn y2 hw6, Option.bind_some, sum_E hb hw6, bst]
    have q1 : QM 11 ci d0 y := QM_tr (QM_tr hq (QM_sI 11 ci d _)) (QM_q (Qo_q y3))
    by_cases z : m < nI (sumE P V nf nc ci w (nI mt) nl)
    · rw [if_pos z, if_pos z]
      exact ih (mt + 1) k y _ _ (by omega) (by omega) q1
    · rw [if_neg z, if_neg z]
      exact ih (mt + 1) k y _ _ (by omega) (by omega) q1
set_option maxHeartbeats 1000000 in
theorem s_bestCry {n : Nat} (hn : 5000 < n) : S_bestCry Rel n := by
  intro c d a1 a2 h
  obtain ⟨nf, nl, nc, P, hc, hd, hb⟩ := views h
  generalize hV : (fun w j => gI c (3 + w) j) = V at hc hd hb
  have h10 := hb.2.1
  have h12 := hb.2.2.1
  unfold fX11_bestCry fX12_bestCry fX12_isCry
  rw [hc.2.2.1, hd.2.2.1, isW, isI, isW, isI]
  simp only [if_bI]
  by_cases h1 : 0 ≤ a1 ∧ a1 ≤ nI nc - 1
  · rw [decide_eq_true h1]
    obtain ⟨ci, hci, rfl⟩ := (cnt_in a1 (by omega)).mp h1
    by_cases h2 : 0 ≤ a2 ∧ a2 ≤ 1
    · rw [decide_eq_true h2]
      simp only [cond_true]
      obtain ⟨w, a, hw, ha, v10, v11⟩ := cry_nat hb hci
      have hct : ∀ w, 10 ≤ w → ci < ct nf nl nc w := fun w hw => by unfold ct; rw [if_neg (by omega), if_neg (by omega)]; exact hci
      have g13 : gI c 13 ci = nI w := (hc.2.2.2.1 10 ci (by omega) (by omega)).trans v10
      have g12 : gI d 12 ci = V 11 ci := hd.2.2.2.1 11 ci (by omega) (hct 11 (by omega))
      obtain ⟨c1, w1, w2, w3⟩ := c_wo_l hn hb (w := w) hci nl 0 n c (by omega) (by omega) hc (fun f hf => absurd hf (by omega))
      obtain ⟨c2, t1, t2, t3, t4⟩ := c_think (VC_Q hc w3) (show ci < 13 by omega)
      unfold fX9_seekMinute fX9_weighOthers
      rw [inB_t (show ci < 13 by omega) (by omega), gd_true, bnd_x, nIc (by omega), g13, show (0 : Int32) = nI 0 from rfl, w1, Option.bind_some, t1, Option.bind_some, bnd_x, bnd_x, gd_true, bnd_x, g12]
      have qs : Qc c2 (sI (sI c2 27 0 (nI 0)) 27 1 (-1)) := Qc_tr (Qc_sI _ _ _ _ (by omega)) (Qc_sI _ _ _ _ (by omega))
      obtain ⟨c', y1, y2, y3⟩ := c_seek_l hn hb hci v10 1000 0 n (sI (sI c2 27 0 (nI 0)) 27 1 (-1)) (by omega) (by omega) ⟨_, VC_Q t2 qs, fun f hf => ⟨(mod_n (by omega)).trans ((mod_n (by omega)).trans ((mod_n (by omega)).trans (mod_n (by omega)))), (mod_n (by omega)).trans ((mod_n (by omega)).trans ((mod_n (by omega)).trans (mod_n (by omega))))⟩, rfl, rfl, rfl⟩ (fun f hf => OT_eq (w2 f hf) (fun k h1 h2 => by rw [gIp, if_neg (by omega), gIp, if_neg (by omega), t4 k (by omega)]))
      obtain ⟨d', z1, z2⟩ := d_best_l hn hd hb hci v10 hw a2 1000 0 n d (nI 0) (-1) (by omega) (by omega) (QM_q (Qd_rf d))
      rw [y1, Option.bind_some, z1]
      rw [gIp, if_neg (by omega), gIp, if_pos ⟨rfl, rfl⟩, gIp, if_pos ⟨rfl, rfl⟩] at y2
      rw [← y2]
      refine ⟨if a2 = 0 then gI c' 27 0 else gI c' 27 1, c', d', ?_, rfl, Rel_QC h (QC_tr (QC_q w3) (QC_tr t3 (QC_tr (QC_q qs) y3))) z2⟩
      by_cases z : a2 = 0
      · rw [if_pos (show a2 = nI 0 from z), if_pos z]
      · rw [if_neg (show ¬ a2 = nI 0 from z), if_neg z]
    · rw [decide_eq_false h2]
      exact ⟨_, c, d, rfl, rfl, h⟩
  · rw [decide_eq_false h1]
    exact ⟨_, c, d, rfl, rfl, h⟩
