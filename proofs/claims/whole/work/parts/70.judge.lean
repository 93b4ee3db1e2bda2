/-! years read back -/
def OU (P : LwP) (V : Nat → Nat → Int32) (nf nc : Nat) (c : St) (f : Nat) : Prop := gI c 33 f = owF V nf f ∧ gI c 34 f = mx (gA P V (owF V nf f) (V 8 f) (V 9 f)) nc ∧ gI c 35 f = nI (krs V (bt (gA P V (owF V nf f) (V 8 f) (V 9 f)) nc) nc 6)
theorem OU_eq {P : LwP} {V : Nat → Nat → Int32} {nf nc : Nat} {c c' : St} {f : Nat} (h : OU P V nf nc c f) (h1 : ∀ k, 33 ≤ k → k ≤ 35 → gI c' k f = gI c k f) : OU P V nf nc c' f := by
  unfold OU
  rw [h1 33 (by omega) (by omega), h1 34 (by omega) (by omega), h1 35 (by omega) (by omega)]
  exact h
def F35 (f : Nat) (c c' : St) : Prop := (∀ k i, ¬ (k = 35 ∧ i = f) → gI c' k i = gI c k i) ∧ ∀ k, gL c' k = gL c k
theorem F35_q {f : Nat} {c c' : St} (h : F35 f c c') : Qc c c' := ⟨fun k hk => by funext i; exact h.1 k i (by omega), h.2⟩
theorem c_wf_in {n : Nat} (hn : 5000 < n) {nf nl nc : Nat} {V : Nat → Nat → Int32} {P : LwP} (hb : VB nf nl nc V) {B f : Nat} (hB : B < 4096) (hf : f < 10) (K : St → Int32 → Option St) : ∀ (r q k : Nat) (c : St), q + r = 6 → r < k → VC c nf nl nc V P → gI c 24 2 = nI B → gI c 35 f = nI (krs V B nc q) → ∃ c', fX10_weighFalls_71 K n k c (nI f) (nI q) = K c' (nI (f + 1)) ∧ gI c' 35 f = nI (krs V B nc 6) ∧ F35 f c c' := by
  have h12 := hb.2.2.1
  intro r
  induction r with
  | zero =>
    intro q k c hq hk hv h24 h35
    obtain ⟨k, rfl⟩ : ∃ k', k = k' + 1 := ⟨k - 1, by omega⟩
    have e : q = 6 := by omega
    subst e
    rw [fX10_weighFalls_71, if_pos (show (6 : Int32) ≤ nI 6 from i32_rf _), bnd_x, nI_1]
    exact ⟨c, rfl, h35, fun _ _ _ => rfl, fun _ => rfl⟩
  | succ r ih =>
    intro q k c hq hk hv h24 h35
    obtain ⟨k, rfl⟩ : ∃ k', k = k' + 1 := ⟨k - 1, by omega⟩
    have hcn := cn_le V B q nc
    rw [fX10_weighFalls_71, if_neg (show ¬ (6 : Int32) ≤ nI q from nI_ge (b := 6) (by omega) (by omega)), inB_t hf (by omega), gd_true, gd_true, c_crying hn hv hb hB h24, Option.bind_some]
    simp only [bnd_x, gd_true, nIc (show f < 100000 by omega), nI_1, h35, shl_1b (show q < 31 by omega), or_nI]
    have go : ∀ v : Nat, v = krs V B nc (q + 1) → ∃ c', fX10_weighFalls_71 K n k (sI c 35 f (nI v)) (nI f) (nI (q + 1)) = K c' (nI (f + 1)) ∧ gI c' 35 f = nI (krs V B nc 6) ∧ F35 f c c' := by
      intro v e
      have qs : Qc c (sI c 35 f (nI v)) := Qc_sI _ _ _ _ (by omega)
      obtain ⟨c', e1, e2, e3⟩ := ih (q + 1) k (sI c 35 f (nI v)) (by omega) (by omega) (VC_Q hv qs) (by rw [gIp, if_neg (by omega)]; exact h24) (by rw [gIp, if_pos ⟨rfl, rfl⟩, e])
      exact ⟨c', e1, e2, fun a b z => by rw [e3.1 a b z, gIp, if_neg z], e3.2⟩
    by_cases z : 0 < cn V B q nc
    · rw [if_neg (show ¬ nI (cn V B q nc) ≤ 0 from nI_ge (a := 0) z (by omega))]
      exact go _ (by rw [krs, if_pos z])
    · rw [if_pos (show nI (cn V B q nc) ≤ 0 from nI_le (b := 0) (by omega) (by omega)), show nI (krs V B nc q) ||| (0 : Int32) = nI (krs V B nc q ||| 0) from or_nI _ 0]
      exact go _ (by rw [krs, if_neg z])
theorem c_wf_l {n : Nat} (hn : 5000 < n) {nf nl nc : Nat} {V : Nat → Nat → Int32} {P : LwP} (hb : VB nf nl nc V) : ∀ (r i k : Nat) (c : St), i + r = nl → r < k → VC c nf nl nc V P → (∀ f, f < i → OU P V nf nc c f) → ∃ c', fX10_weighFalls_2 n k c (nI i) = some c' ∧ (∀ f, f < nl → OU P V nf nc c' f) ∧ Qc c c' ∧ gI c' 32 = gI c 32 := by
  have h10 := hb.2.1
  have h12 := hb.2.2.1
  intro r
  induction r with
  | zero =>
    intro i k c hi hk hv hA
    obtain ⟨k, rfl⟩ : ∃ k', k = k' + 1 := ⟨k - 1, by omega⟩
    rw [fX10_weighFalls_2, hv.2.1, if_pos (nI_le (by omega) (by omega))]
    exact ⟨c, rfl, fun f hf => hA f (by omega), Qc_rf c, rfl⟩
  | succ r ih =>
    intro i k c hi hk hv hA
    obtain ⟨k, rfl⟩ : ∃ k', k = k' + 1 := ⟨k - 1, by omega⟩
    obtain ⟨x, y, m, hx, hy, hm, v6, v7, v8⟩ := fall_nat hb (show i < nl by omega)
    rw [fX10_weighFalls_2, hv.2.1, if_neg (nI_ge (by omega) (by omega)), c_under hn hv hb (by omega) hx hy v6 v7, Option.bind_some, c_owner hv hb, Option.bind_some, inB_t (show i < 10 by omega) (by omega)]
    simp only [gd_true, bnd_x, nIc (show i < 100000 by omega)]
    rw [← owF_eq hx hy v6 v7]
    have q1 : Qc c (sI c 33 i (owF V nf i)) := Qc_sI _ _ _ _ (by omega)
    obtain ⟨c1, w1, w2, w3, w4, w5⟩ := c_weigh hn (VC_Q hv q1) hb (show i < 13 by omega) v8 (by omega) (owF V nf i) (-1)
    have em : mx (gW P V (owF V nf i) (V 8 i) (V 9 i) (-1)) nc = mx (gA P V (owF V nf i) (V 8 i) (V 9 i)) nc := by unfold mx; rw [gW_m1 _ _ _ _ _ _ (by omega)]
    have eb : bt (gW P V (owF V nf i) (V 8 i) (V 9 i) (-1)) nc = bt (gA P V (owF V nf i) (V 8 i) (V 9 i)) nc := by unfold bt; rw [gW_m1 _ _ _ _ _ _ (by omega)]
    rw [em] at w3
    rw [eb] at w4
    rw [show gI (sI c 33 i (owF V nf i)) 33 i = owF V nf i by rw [gIp, if_pos ⟨rfl, rfl⟩], w1, Option.bind_some, w3]
    obtain ⟨hB, -⟩ := bt_12 (gA P V (owF V nf i) (V 8 i) (V 9 i)) h12
    generalize hc2 : sI (sI c1 34 i (mx (gA P V (owF V nf i) (V 8 i) (V 9 i)) nc)) 35 i 0 = c2
    have q2 : Qc c1 c2 := by rw [← hc2]; exact Qc_tr (Qc_sI _ _ _ _ (by omega)) (Qc_sI _ _ _ _ (by omega))
    have q3 : Qc c c2 := Qc_tr (Qc_tr q1 (Qw_q w2)) q2
    obtain ⟨c3, i1, i2, i3⟩ := c_wf_in hn hb hB (show i < 10 by omega) (fX10_weighFalls_2 n k) 6 0 n c2 rfl (by omega) (VC_Q hv q3) (by rw [← hc2, gIp, if_neg (by omega), gIp, if_neg (by omega)]; exact w4) (by rw [← hc2, gIp, if_pos ⟨rfl, rfl⟩]; rfl)
    have i1' : fX10_weighFalls_71 (fX10_weighFalls_2 n k) n n c2 (nI i) 0 = _ := i1
    rw [i1']
    have q4 : Qc c c3 := Qc_tr q3 (F35_q i3)
    obtain ⟨c', f1, f2, f3, f4⟩ := ih (i + 1) k c3 (by omega) (by omega) (VC_Q hv q4) (fun f hf => by
      by_cases e : f = i
      · subst e
        refine ⟨?_, ?_, i2⟩
        · rw [i3.1 33 f (by omega), ← hc2, gIp, if_neg (by omega), gIp, if_neg (by omega), w2.1 33 (by omega) (by omega) (by omega), gIp, if_pos ⟨rfl, rfl⟩]
        · rw [i3.1 34 f (by omega), ← hc2, gIp, if_neg (by omega), gIp, if_pos ⟨rfl, rfl⟩]
      · refine OU_eq (hA f (by omega)) (fun k h1 h2 => ?_)
        rw [i3.1 k f (by omega), ← hc2, gIp, if_neg (by omega), gIp, if_neg (by omega), w2.1 k (by omega) (by omega) (by omega), gIp, if_neg (by omega)])
    refine ⟨c', f1, f2, Qc_tr q4 f3, ?_⟩
    rw [f4]
    funext j
    rw [i3.1 32 j (by omega), ← hc2, gIp, if_neg (by omega), gIp, if_neg (by omega), w2.1 32 (by omega) (by omega) (by omega), gIp, if_neg (by omega)]
theorem c_wf {n : Nat} (hn : 5000 < n) {nf nl nc : Nat} {V : Nat → Nat → Int32} {P : LwP} (hb : VB nf nl nc V) {c : St} (hv : VC c nf nl nc V P) : ∃ c', fX10_weighFalls n c = some c' ∧ (∀ f, f < nl → OU P V nf nc c' f) ∧ Qc c c' ∧ gI c' 32 = gI c 32 := c_wf_l hn hb nl 0 n c (by omega) (by have := hb.2.1; omega) hv (fun f hf => absurd hf (by omega))
/-- who is paid by a fall -/
def pdF (P : LwP) (V : Nat → Nat → Int32) (nf nc f : Nat) : Int32 := pdK (owF V nf f) (krs V (bt (gA P V (owF V nf f) (V 8 f) (V 9 f)) nc) nc 6)
def wry (G E : Nat → Int32) (nl : Nat) : Nat → Nat → Int32
  | 0, _ => -2
  | r + 1, f => if f < nl then (if G f = E f then wry G E nl r (f + 1) else nI f) else nI f
theorem wry_c {G G' E : Nat → Int32} {nl : Nat} (h : ∀ f, f < nl → G f = G' f) : ∀ r f, wry G E nl r f = wry G' E nl r f := by
  intro r
  induction r with
  | zero => intro f; rfl
  | succ r ih =>
    intro f
    rw [wry, wry, ih]
    by_cases z : f < nl
    · rw [if_pos z, if_pos z, h f z]
    · rw [if_neg z, if_neg z]
def eR (c : St) (s j : Nat) : Int32 := (gL c (54 + 2 * s) j).toInt32
theorem d_wry {n : Nat} (hn : 5000 < n) {nf nl nc : Nat} {V : Nat → Nat → Int32} {P : LwP} (hb : VB nf nl nc V) {c d0 : St} {s ln : Nat} (hs : s < 6) (hR : rwE c d0 s ln) : ∀ (r f k : Nat) (d : St), f + r = ln → r < k → VD d nf nl nc V P → gI d 40 = gI d0 40 → gL d 41 = gL d0 41 → ∃ d', fX12_wrongYear_2 n k d (nI s) (nI f) = some (wry (pdF P V nf nc) (eR c s) nl r f, d') ∧ Q2d d d' := by
  have h10 := hb.2.1
  obtain ⟨l60, l1, l2, l3⟩ := hR
  intro r
  induction r with
  | zero =>
    intro f k d hf hk hv h40 h41
    obtain ⟨k, rfl⟩ : ∃ k', k = k' + 1 := ⟨k - 1, by omega⟩
    rw [fX12_wrongYear_2, inB_t hs (by omega), gd_true, nIc (by omega), h40, l2, if_pos (nI_le (by omega) (by omega))]
    exact ⟨d, rfl, Q2d_rf d⟩
  | succ r ih =>
    intro f k d hf hk hv h40 h41
    obtain ⟨k, rfl⟩ : ∃ k', k = k' + 1 := ⟨k - 1, by omega⟩
    rw [fX12_wrongYear_2, inB_t hs (by omega), gd_true, nIc (by omega), h40, l2, if_neg (nI_ge (by omega) (by omega)), wry]
    unfold fX12_isFall
    rw [hv.2.1, isI, if_bI]
    by_cases z : f < nl
    · rw [if_pos z, decide_eq_true ((cnt_in (nI f) (by omega)).mpr ⟨f, z, rfl⟩), cond_true]
      obtain ⟨x, y, m, hx, hy, hm, v6, v7, v8⟩ := fall_nat hb z
      obtain ⟨d1, e1, e2⟩ := d_paid hn hv hb (FD_of hv hb z hx hy v6 v7)
      rw [← owF_eq hx hy v6 v7] at e1
      rw [e1, Option.bind_some]
      unfold fX12_told
      rw [show (60 : Int32) * nI s + nI f = nI (60 * s + f) by rw [show (60 : Int32) = nI 60 from rfl, pk_mul, nI_add], inB_t (show 60 * s + f < 360 by omega) (by omega), gd_true, nIc (by omega), e2.2 41, h41, (l3 f (by omega)).2, Option.bind_some, bnd_x, nI_1]
      show ∃ d', (if pdF P V nf nc f = eR c s f then fX12_wrongYear_2 n k d1 (nI s) (nI (f + 1)) else some (nI f, d1)) = _ ∧ _
      by_cases w : pdF P V nf nc f = eR c s f
      · rw [if_pos w, if_pos w]
        obtain ⟨d', u1, u2⟩ := ih (f + 1) k d1 (by omega) (by omega) (VD_Q hv (Q2d_q e2)) (by rw [e2.1 40 (by omega) (by omega), h40]) (by rw [e2.2 41, h41])
        exact ⟨d', u1, Q2d_tr e2 u2⟩
      · rw [if_neg w, if_neg w]
        exact ⟨d1, rfl, e2⟩
    · rw [if_neg z, decide_eq_false (fun q => by
        obtain ⟨j, hj, e⟩ := (cnt_in (nI f) (by omega)).mp q
        rw [nIeq (by omega) (by omega)] at e
        omega), cond_false]
      exact ⟨d, rfl, Q2d_rf d⟩
theorem c_first {n : Nat} (hn : 5000 < n) {nf nl nc : Nat} {V : Nat → Nat → Int32} {P : LwP} (hb : VB nf nl nc V) {c c0 d0 : St} {s ln : Nat} (hR : rwE c0 d0 s ln) (hv : VC c nf nl nc V P) (hO : ∀ f, f < nl → OU P V nf nc c f) (h53 : gI c (53 + 2 * s) = gI c0 (53 + 2 * s)) (h54 : gL c (54 + 2 * s) = gL c0 (54 + 2 * s)) : ∀ (r f k : Nat), f + r = ln → r < k → fX10_firstUnlike_6 n k c s (nI f) = some (wry (pdF P V nf nc) (eR c0 s) nl r f, c) := by
  have h10 := hb.2.1
  obtain ⟨l60, l1, l2, l3⟩ := hR
  intro r
  induction r with
  | zero =>
    intro f k hf hk
    obtain ⟨k, rfl⟩ : ∃ k', k = k' + 1 := ⟨k - 1, by omega⟩
    rw [fX10_firstUnlike_6, h53, l1, if_pos (nI_le (by omega) (by omega))]
    rfl
  | succ r ih =>
    intro f k hf hk
    obtain ⟨k, rfl⟩ : ∃ k', k = k' + 1 := ⟨k - 1, by omega⟩
    rw [fX10_firstUnlike_6, h53, l1, if_neg (nI_ge (by omega) (by omega)), hv.2.1, wry]
    by_cases z : f < nl
    · obtain ⟨o1, o2, o3⟩ := hO f z
      rw [if_pos z, if_neg (nI_ge z (by omega)), inB_t (show f < 60 by omega) (by omega), inB_t (show f < 10 by omega) (by omega), gd_true, gd_true, nIc (by omega), o3, c_paid hn (by omega) (krs_lt _ _ _ _) (owF_rng hb f) o1, Option.bind_some, bnd_x, nI_1, h54, ih (f + 1) k (by omega) (by omega), show pdK (owF V nf f) (krs V (bt (gA P V (owF V nf f) (V 8 f) (V 9 f)) nc) nc 6) = pdF P V nf nc f from rfl]
      by_cases w : pdF P V nf nc f = eR c0 s f
      · rw [if_pos w, if_pos ((sm_eq (l3 f (by omega)).1 _).mpr w)]
      · rw [if_neg w, if_neg (fun q => w ((sm_eq (l3 f (by omega)).1 _).mp q))]
    · rw [if_neg z, if_pos (nI_le (by omega) (by omega))]
set_option maxHeartbeats 1000000 in
theorem s_judge {n : Nat} (hn : 5000 < n) : S_judge Rel n := by
  intro c d a1 h
  obtain ⟨nf, nl, nc, P, hc, hd, hb⟩ := views h
  generalize hV : (fun w j => gI c (3 + w) j) = V at hc hd hb
  unfold fX11_judge fX12_judge
  rw [if_bI]
  cases h1 : fX12_isShelf a1 with
  | false =>
    unfold fX11_refusalOfRow
    rw [sh_eq, h1]
    exact ⟨_, c, d, rfl, rfl, h⟩
  | true =>
    obtain ⟨s, hs, rfl⟩ := sh_in h1
    simp only [cond_true, some_eta]
    rw [show (0 : Int32) = nI 0 from rfl]
    rcases row_ask h hs (so := 0) (by omega) with ⟨r, r1, r2, r3, r4⟩ | ⟨r3, r4, ln, hR⟩
    · rw [r3, r4, Option.bind_some, Option.bind_some, if_neg (show ¬ r = nI 0 from r1), if_neg (show ¬ nI 0 ≤ r from r2)]
      exact ⟨r, c, d, rfl, rfl, h⟩
    · rw [r3, r4, Option.bind_some, Option.bind_some, if_pos (show (0 : Int32) = nI 0 from rfl), if_pos (show nI 0 ≤ (0 : Int32) from i32_rf _), inB_t hs (by omega), gd_true, nIc (by omega)]
      obtain ⟨c1, e1, e2, e3, -⟩ := c_wf hn hb hc
      have hl := hR.1
      have u1 := c_first hn hb hR (VC_Q hc e3) e2 (e3.1 _ (by omega)) (e3.2 _) ln 0 n (by omega) (by omega)
      obtain ⟨d', y1, y2⟩ := d_wry hn hb hs hR ln 0 n d (by omega) (by omega) hd rfl rfl
      unfold fX10_firstUnlike fX12_wrongYear
      have u1' : fX10_firstUnlike_6 n n c1 s 0 = _ := u1
      have y1' : fX12_wrongYear_2 n n d (nI s) 0 = _ := y1
      rw [e1, Option.bind_some]
      exact ⟨_, c1, d', u1', y1', Rel_Q h e3 (Q2d_q y2)⟩
