/-! the best minute of a cry -/
theorem pop_ins {B B' ci : Nat} (h : ∀ i, i ≠ ci → B'.testBit i = B.testBit i) (h1 : B'.testBit ci = true) (h0 : B.testBit ci = false) : ∀ n, pop B' n = pop B n + (if ci < n then 1 else 0) := by
  intro n
  induction n with
  | zero => rw [if_neg (by omega)]; rfl
  | succ n ih =>
    rw [pop, pop, ih]
    by_cases e : n = ci
    · subst e
      rw [h1, h0, if_neg (Nat.lt_irrefl n), if_pos (show n < n + 1 by omega), if_pos rfl, if_neg (show ¬ false = true by decide)]
    · rw [h n e]
      by_cases q : ci < n
      · rw [if_pos q, if_pos (show ci < n + 1 by omega)]; omega
      · rw [if_neg q, if_neg (show ¬ ci < n + 1 by omega)]; omega
theorem cn_ins {V : Nat → Nat → Int32} {B B' ci b : Nat} (h : ∀ i, i ≠ ci → B'.testBit i = B.testBit i) (h1 : B'.testBit ci = true) (h0 : B.testBit ci = false) : ∀ n, cn V B' b n = cn V B b n + (if ci < n ∧ V 10 ci = nI b then 1 else 0) := by
  intro n
  induction n with
  | zero => rw [if_neg (by omega)]; rfl
  | succ n ih =>
    rw [cn, cn, ih]
    by_cases e : n = ci
    · subst e
      rw [h1, h0, if_neg (show ¬ (n < n ∧ V 10 n = nI b) from fun q => Nat.lt_irrefl n q.1)]
      by_cases z : V 10 n = nI b
      · rw [if_pos (show true = true ∧ V 10 n = nI b from ⟨rfl, z⟩), if_neg (show ¬ (false = true ∧ V 10 n = nI b) from fun q => by cases q.1), if_pos (show n < n + 1 ∧ V 10 n = nI b from ⟨by omega, z⟩)]
      · rw [if_neg (show ¬ (true = true ∧ V 10 n = nI b) from fun q => z q.2), if_neg (show ¬ (false = true ∧ V 10 n = nI b) from fun q => z q.2), if_neg (show ¬ (n < n + 1 ∧ V 10 n = nI b) from fun q => z q.2)]
    · rw [h n e]
      by_cases q : ci < n ∧ V 10 ci = nI b
      · rw [if_pos q, if_pos (show ci < n + 1 ∧ V 10 ci = nI b from ⟨by omega, q.2⟩)]; omega
      · rw [if_neg q, if_neg (show ¬ (ci < n + 1 ∧ V 10 ci = nI b) from fun z => q ⟨by omega, z.2⟩)]; omega
theorem cn_z (V : Nat → Nat → Int32) (b : Nat) : ∀ n, cn V 0 b n = 0 := by
  intro n
  induction n with
  | zero => rfl
  | succ n ih => rw [cn, ih, Nat.zero_testBit, if_neg (fun q => by cases q.1)]
theorem cn_V {V V' : Nat → Nat → Int32} (h : ∀ i, V' 10 i = V 10 i) (B b : Nat) : ∀ n, cn V' B b n = cn V B b n := by
  intro n
  induction n with
  | zero => rfl
  | succ n ih => rw [cn, cn, ih, h n]
theorem earn_pure {g g' : Nat → Int32} {V : Nat → Nat → Int32} {ci nc w : Nat} (hci : ci < nc) (h : ∀ i, i < nc → i ≠ ci → g' i = g i) (h0 : g ci = 0) (hw : V 10 ci = nI w) : (mx g nc < g' ci → mn g' nc = 1 ∧ cn V (bt g' nc) w nc = 1) ∧ (0 < g' ci → g' ci = mx g nc → mn g' nc = mn g nc + 1 ∧ cn V (bt g' nc) w nc = cn V (bt g nc) w nc + 1) ∧ (¬ mx g nc < g' ci → ¬ (0 < g' ci ∧ g' ci = mx g nc) → mn g' nc = mn g nc ∧ cn V (bt g' nc) w nc = cn V (bt g nc) w nc) := by
  obtain ⟨a1, a2, a3, a4, a5, a6⟩ := hv_all g' nc
  obtain ⟨b1, b2, b3, b4, b5, b6⟩ := hv_all g nc
  rw [a6, b6]
  refine ⟨fun t => ?_, fun t1 t2 => ?_, fun t1 t2 => ?_⟩
  · have e : mx g' nc = g' ci := by
      refine i32_asy ?_ (a2 ci hci)
      rcases a3 with a3 | ⟨i, hi, a3⟩
      · rw [a3]; exact i32_ltle' (i32_lelt b1 t)
      · rw [← a3]
        by_cases q : i = ci
        · rw [q]; exact i32_rf _
        · rw [h i hi q]; exact i32_ltle' (i32_lelt (b2 i hi) t)
    have k1 : ∀ i, i ≠ ci → (bt g' nc).testBit i = (0 : Nat).testBit i := fun i q => by
      rw [a4, Nat.zero_testBit, decide_eq_false (fun z => ?_)]
      have := z.2.2
      rw [e, h i z.1 q] at this
      have t2 := b2 i z.1
      rw [this] at t2
      exact fa_nle t t2
    have k2 : (bt g' nc).testBit ci = true := by rw [a4, decide_eq_true ⟨hci, by rw [e]; exact i32_lelt b1 t, e.symm⟩]
    rw [pop_ins k1 k2 (Nat.zero_testBit _), cn_ins (V := V) k1 k2 (Nat.zero_testBit _), pop_z, cn_z, if_pos hci, if_pos ⟨hci, hw⟩]
    exact ⟨rfl, rfl⟩
  · have e : mx g' nc = mx g nc := by
      refine i32_asy ?_ (by rw [← t2]; exact a2 ci hci)
      rcases a3 with a3 | ⟨i, hi, a3⟩
      · rw [a3]; exact b1
      · rw [← a3]
        by_cases q : i = ci
        · rw [q, t2]; exact i32_rf _
        · rw [h i hi q]; exact b2 i hi
    have k1 : ∀ i, i ≠ ci → (bt g' nc).testBit i = (bt g nc).testBit i := fun i q => by
      rw [a4, b4, e]
      by_cases z : i < nc
      · rw [h i z q]
      · rw [decide_eq_false (fun z1 => z z1.1), decide_eq_false (fun z1 => z z1.1)]
    have k2 : (bt g' nc).testBit ci = true := by rw [a4, decide_eq_true ⟨hci, by rw [e, ← t2]; exact t1, by rw [e, t2]⟩]
    have k3 : (bt g nc).testBit ci = false := by
      rw [b4, decide_eq_false (fun z => ?_)]
      have z1 := z.2.1
      rw [← z.2.2, h0] at z1
      exact i32_irr z1
    rw [pop_ins k1 k2 k3, cn_ins (V := V) k1 k2 k3, if_pos hci, if_pos ⟨hci, hw⟩]
    exact ⟨rfl, rfl⟩
  · have e : mx g' nc = mx g nc := by
      refine i32_asy ?_ ?_
      · rcases a3 with a3 | ⟨i, hi, a3⟩
        · rw [a3]; exact b1
        · rw [← a3]
          by_cases q : i = ci
          · rw [q]; exact fa_nlt t1
          · rw [h i hi q]; exact b2 i hi
      · rcases b3 with b3 | ⟨i, hi, b3⟩
        · rw [b3]; exact a1
        · rw [← b3]
          by_cases q : i = ci
          · rw [q, h0]; exact a1
          · rw [← h i hi q]; exact a2 i hi
    have k : bt g' nc = bt g nc := Nat.eq_of_testBit_eq (fun i => by
      rw [a4, b4, e]
      by_cases q : i = ci
      · subst q
        rw [decide_eq_false (fun z => t2 ⟨by rw [z.2.2]; exact z.2.1, z.2.2⟩), decide_eq_false (fun z => ?_)]
        have z1 := z.2.1
        rw [← z.2.2, h0] at z1
        exact i32_irr z1
      · by_cases z : i < nc
        · rw [h i z q]
        · rw [decide_eq_false (fun z1 => z z1.1), decide_eq_false (fun z1 => z z1.1)])
    rw [k]
    exact ⟨rfl, rfl⟩
theorem c_crying {n : Nat} (hn : 5000 < n) {c : St} {nf nl nc : Nat} {V : Nat → Nat → Int32} {P : LwP} (hv : VC c nf nl nc V P) (hb : VB nf nl nc V) {B w : Nat} (hB : B < 4096) (h24 : gI c 24 2 = nI B) : fX6_cryingOf n c (nI w) = some (nI (cn V B w nc)) := by
  have h12 := hb.2.2.1
  have main : ∀ (r i k : Nat), i + r = nc → r < k → fX6_cryingOf_4 n c k (nI w) (nI (cn V B w i)) (nI i) = some (nI (cn V B w nc)) := by
    intro r
    induction r with
    | zero =>
      intro i k hi hk
      obtain ⟨k, rfl⟩ : ∃ k', k = k' + 1 := ⟨k - 1, by omega⟩
      rw [fX6_cryingOf_4, hv.2.2.1, if_pos (nI_le (by omega) (by omega)), show i = nc by omega]
    | succ r ih =>
      intro i k hi hk
      obtain ⟨k, rfl⟩ : ∃ k', k = k' + 1 := ⟨k - 1, by omega⟩
      have ih' := ih (i + 1) k (by omega) (by omega)
      rw [cn] at ih'
      rw [fX6_cryingOf_4, hv.2.2.1, if_neg (nI_ge (by omega) (by omega)), h24, bit_at (by omega) (by omega)]
      simp only [inB_t (show i < 13 by omega) (by omega), gd_true, bnd_x, nI_1, nIc (show i < 100000 by omega), show gI c 13 i = V 10 i from hv.2.2.2.1 10 i (by omega) (by omega)]
      by_cases z1 : B.testBit i = true
      · rw [if_neg (fun q => bit_0.mp q z1)]
        by_cases z2 : V 10 i = nI w
        · rw [if_pos ⟨z1, z2⟩] at ih'
          rw [if_pos z2]
          exact ih'
        · rw [if_neg (fun q => z2 q.2)] at ih'
          rw [if_neg z2]
          exact ih'
      · rw [if_pos (bit_0.mpr z1)]
        rw [if_neg (fun q => z1 q.1)] at ih'
        exact ih'
  unfold fX6_cryingOf
  exact main nc 0 n (by omega) (by omega)
def ernV (P : LwP) (V : Nat → Nat → Int32) (nf nc ci w : Nat) (v : Int32) (f : Nat) : Nat := if owF V nf f < 0 then 0 else if owF V nf f = nI w then 0 else 12 / mn (gA P (modV V 11 ci v) (owF V nf f) (V 8 f) (V 9 f)) nc * cn V (bt (gA P (modV V 11 ci v) (owF V nf f) (V 8 f) (V 9 f)) nc) w nc
def sumE (P : LwP) (V : Nat → Nat → Int32) (nf nc ci w : Nat) (v : Int32) : Nat → Nat
  | 0 => 0
  | f + 1 => sumE P V nf nc ci w v f + ernV P V nf nc ci w v f
theorem sC_add {D A B : Nat → Nat} (h : ∀ k, D k = A k + B k) (w : Nat) : ∀ r q, sC D w r q = sC A w r q + sC B w r q := by
  intro r
  induction r with
  | zero => intro q; rfl
  | succ r ih =>
    intro q
    rw [sC, sC, sC, ih, h]
    omega
theorem sC_z {D : Nat → Nat} (h : ∀ k, D k = 0) (w : Nat) : ∀ r q, sC D w r q = 0 := by
  intro r
  induction r with
  | zero => intro q; rfl
  | succ r ih => intro q; rw [sC, ih, h]
theorem sC_pyd {V : Nat → Nat → Int32} {B p s nc w : Nat} (hw : w < 6) : ∀ r q, sC (pyd V B p s nc) w r q = if q ≤ p ∧ p < q + r ∧ ¬ w = p then s * cn V B w nc else 0 := by
  intro r
  induction r with
  | zero => intro q; rw [sC, if_neg (by omega)]
  | succ r ih =>
    intro q
    rw [sC, ih]
    unfold pyd
    rw [show (6 * q + w) / 6 = q by omega, show (6 * q + w) % 6 = w by omega]
    generalize s * cn V B w nc = X
    by_cases z : q = p ∧ ¬ w = p
    · rw [if_pos z, if_neg (by omega), if_pos (by omega)]; omega
    · rw [if_neg z]
      by_cases z2 : q + 1 ≤ p ∧ p < q + 1 + r ∧ ¬ w = p
      · rw [if_pos z2, if_pos (by omega)]; omega
      · rw [if_neg z2, if_neg (by omega)]
theorem owF_rng {nf nl nc : Nat} {V : Nat → Nat → Int32} (hb : VB nf nl nc V) (f : Nat) : owF V nf f = -1 ∨ ∃ o : Nat, o < 6 ∧ owF V nf f = nI o := ownV_rng hb _ _
theorem sC_owe {P : LwP} {V : Nat → Nat → Int32} {nc w : Nat} {o m wh : Int32} (ho : o = -1 ∨ ∃ k : Nat, k < 6 ∧ o = nI k) (hw : w < 6) : sC (oweN P V nc o m wh) w 6 0 = if o < 0 then 0 else if o = nI w then 0 else 12 / mn (gA P V o m wh) nc * cn V (bt (gA P V o m wh) nc) w nc := by
  by_cases z : o < 0
  · rw [if_pos z]
    exact sC_z (fun k => by unfold oweN; rw [if_pos z]) w 6 0
  · rw [if_neg z]
    rcases ho with rfl | ⟨p, hp, rfl⟩
    · exact absurd neg1_lt z
    · have e : oweN P V nc (nI p) m wh = pyd V (bt (gA P V (nI p) m wh) nc) p (12 / mn (gA P V (nI p) m wh) nc) nc := by
        funext k
        unfold oweN
        rw [if_neg z, nIc (by omega)]
      rw [e, sC_pyd hw]
      by_cases q : p = w
      · rw [if_neg (by omega), if_pos (by rw [q])]
      · rw [if_pos (by omega), if_neg (fun y => q (by rw [nIeq (by omega) (by omega)] at y; exact y))]
theorem owF_mod {V : Nat → Nat → Int32} {w ci nf : Nat} {v : Int32} (hw : 10 ≤ w) (f : Nat) : owF (modV V w ci v) nf f = owF V nf f := by
  unfold owF
  rw [mod_f (by omega), mod_f (by omega), own_c (fun a ha => mod_f (by omega))]
theorem sum_E {P : LwP} {V : Nat → Nat → Int32} {nf nl nc ci w : Nat} {v : Int32} (hb : VB nf nl nc V) (hw : w < 6) : ∀ f, sC (DN P (modV V 11 ci v) nf nc f) w 6 0 = sumE P V nf nc ci w v f := by
  intro f
  induction f with
  | zero => exact sC_z (fun k => rfl) w 6 0
  | succ f ih =>
    rw [sumE, ← ih, sC_add (D := DN P (modV V 11 ci v) nf nc (f + 1)) (A := DN P (modV V 11 ci v) nf nc f) (B := oweN P (modV V 11 ci v) nc (owF V nf f) (V 8 f) (V 9 f)) (fun k => by rw [DN, owF_mod (by omega), mod_f (by omega), mod_f (by omega)]), sC_owe (owF_rng hb f) hw]
    unfold ernV
    rw [cn_V (V := V) (fun i => mod_n (by omega))]
/-- what the class keeps of the other cries, fall by fall -/
def OT (P : LwP) (V : Nat → Nat → Int32) (nf nc ci w : Nat) (c : St) (f : Nat) : Prop := gI c 28 f = owF V nf f ∧ gI c 29 f = mx (gW P V (owF V nf f) (V 8 f) (V 9 f) (nI ci)) nc ∧ gI c 30 f = nI (mn (gW P V (owF V nf f) (V 8 f) (V 9 f) (nI ci)) nc) ∧ gI c 31 f = nI (cn V (bt (gW P V (owF V nf f) (V 8 f) (V 9 f) (nI ci)) nc) w nc)
theorem OT_eq {P : LwP} {V : Nat → Nat → Int32} {nf nc ci w : Nat} {c c' : St} {f : Nat} (h : OT P V nf nc ci w c f) (h1 : ∀ k, 28 ≤ k → k ≤ 31 → gI c' k f = gI c k f) : OT P V nf nc ci w c' f := by
  unfold OT
  rw [h1 28 (by omega) (by omega), h1 29 (by omega) (by omega), h1 30 (by omega) (by omega), h1 31 (by omega) (by omega)]
  exact h
theorem c_wo_l {n : Nat} (hn : 5000 < n) {nf nl nc : Nat} {V : Nat → Nat → Int32} {P : LwP} (hb : VB nf nl nc V) {ci w : Nat} (hci : ci < nc) : ∀ (r i k : Nat) (c : St), i + r = nl → r < k → VC c nf nl nc V P → (∀ f, f < i → OT P V nf nc ci w c f) → ∃ c', fX9_weighOthers_2 n k c (nI ci) (nI w) (nI i) = some c' ∧ (∀ f, f < nl → OT P V nf nc ci w c' f) ∧ Qc c c' := by
  have h10 := hb.2.1
  have h12 := hb.2.2.1
  intro r
  induction r with
  | zero =>
    intro i k c hi hk hv hA
    obtain ⟨k, rfl⟩ : ∃ k', k = k' + 1 := ⟨k - 1, by omega⟩
    rw [fX9_weighOthers_2, hv.2.1, if_pos (nI_le (by omega) (by omega))]
    exact ⟨c, rfl, fun f hf => hA f (by omega), Qc_rf c⟩
  | succ r ih =>
    intro i k c hi hk hv hA
    obtain ⟨k, rfl⟩ : ∃ k', k = k' + 1 := ⟨k - 1, by omega⟩
    obtain ⟨x, y, m, hx, hy, hm, v6, v7, v8⟩ := fall_nat hb (show i < nl by omega)
    rw [fX9_weighOthers_2, hv.2.1, if_neg (nI_ge (by omega) (by omega)), c_under hn hv hb (by omega) hx hy v6 v7, Option.bind_some, c_owner hv hb, Option.bind_some, inB_t (show i < 10 by omega) (by omega)]
    simp only [gd_true, bnd_x, nI_1, nIc (show i < 100000 by omega)]
    rw [← owF_eq hx hy v6 v7]
    have q1 : Qc c (sI c 28 i (owF V nf i)) := Qc_sI _ _ _ _ (by omega)
    obtain ⟨c1, w1, w2, w3, w4, w5⟩ := c_weigh hn (VC_Q hv q1) hb (show i < 13 by omega) v8 (by omega) (owF V nf i) (nI ci)
    rw [show gI (sI c 28 i (owF V nf i)) 28 i = owF V nf i by rw [gIp, if_pos ⟨rfl, rfl⟩], w1, Option.bind_some]
    generalize hB : bt (gW P V (owF V nf i) (V 8 i) (V 9 i) (nI ci)) nc = B at w4
    generalize hM : mx (gW P V (owF V nf i) (V 8 i) (V 9 i) (nI ci)) nc = M at w3
    generalize hN : mn (gW P V (owF V nf i) (V 8 i) (V 9 i) (nI ci)) nc = N at w5
    have hB2 : B < 4096 := by rw [← hB]; exact (bt_12 _ h12).1
    have e3 : gI (sI c1 29 i (gI c1 24 1)) 24 3 = nI N := by rw [gIp, if_neg (by omega)]; exact w5
    rw [e3, w3]
    have q2 : Qc c1 (sI (sI c1 29 i M) 30 i (nI N)) := Qc_tr (Qc_sI _ _ _ _ (by omega)) (Qc_sI _ _ _ _ (by omega))
    have hv2 := VC_Q (VC_Q hv (Qc_tr q1 (Qw_q w2))) q2
    rw [c_crying hn hv2 hb hB2 (by rw [gIp, if_neg (by omega), gIp, if_neg (by omega)]; exact w4), Option.bind_some]
    have q3 : Qc c (sI (sI (sI c1 29 i M) 30 i (nI N)) 31 i (nI (cn V B w nc))) := Qc_tr (Qc_tr (Qc_tr q1 (Qw_q w2)) q2) (Qc_sI _ _ _ _ (by omega))
    obtain ⟨c', f1, f2, f3⟩ := ih (i + 1) k _ (by omega) (by omega) (VC_Q hv q3) (fun f hf => by
      by_cases e : f = i
      · subst e
        refine ⟨?_, ?_, ?_, ?_⟩
        · rw [gIp, if_neg (by omega), gIp, if_neg (by omega), gIp, if_neg (by omega), w2.1 28 (by omega) (by omega) (by omega), gIp, if_pos ⟨rfl, rfl⟩]
        · rw [gIp, if_neg (by omega), gIp, if_neg (by omega), gIp, if_pos ⟨rfl, rfl⟩, hM]
        · rw [gIp, if_neg (by omega), gIp, if_pos ⟨rfl, rfl⟩, hN]
        · rw [gIp, if_pos ⟨rfl, rfl⟩, hB]
      · refine OT_eq (hA f (by omega)) (fun k h1 h2 => ?_)
        rw [gIp, if_neg (by omega), gIp, if_neg (by omega), gIp, if_neg (by omega), w2.1 k (by omega) (by omega) (by omega), gIp, if_neg (by omega)])
    exact ⟨c', f1, f2, Qc_tr q3 f3⟩
