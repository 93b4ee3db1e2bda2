/-! whose cry it was: one cry more, in every minute -/
theorem cn_cg {V V' : Nat → Nat → Int32} {B B' b : Nat} : ∀ n, (∀ i, i < n → V' 10 i = V 10 i ∧ B'.testBit i = B.testBit i) → cn V' B' b n = cn V B b n := by
  intro n
  induction n with
  | zero => intro _; rfl
  | succ n ih =>
    intro h
    rw [cn, cn, ih (fun i hi => h i (by omega)), (h n (by omega)).1, (h n (by omega)).2]
def nV (V : Nat → Nat → Int32) (nc : Nat) (a b e l : Int32) : Nat → Nat → Int32 := modV (modV (modV (modV V 10 nc a) 12 nc e) 13 nc l) 11 nc b
theorem mod_mod (V : Nat → Nat → Int32) (w ci : Nat) (u v : Int32) : modV (modV V w ci u) w ci v = modV V w ci v := by
  funext a j
  by_cases z : a = w ∧ j = ci
  · rw [z.1, z.2, mod_y, mod_y]
  · rw [mod_n z, mod_n z, mod_n z]
theorem nV_n {V : Nat → Nat → Int32} {nc : Nat} {a b e l : Int32} {x i : Nat} (h : ¬ (10 ≤ x ∧ x ≤ 13 ∧ i = nc)) : nV V nc a b e l x i = V x i := by
  unfold nV
  rw [mod_n (by omega), mod_n (by omega), mod_n (by omega), mod_n (by omega)]
theorem nV_f {V : Nat → Nat → Int32} {nc : Nat} {a b e l : Int32} {x : Nat} (h : x < 10) : nV V nc a b e l x = V x := by
  funext i
  exact nV_n (by omega)
theorem nV_10 (V : Nat → Nat → Int32) (nc : Nat) (a b e l : Int32) : nV V nc a b e l 10 nc = a := by
  unfold nV
  rw [mod_n (by omega), mod_n (by omega), mod_n (by omega), mod_y]
theorem nV_11 (V : Nat → Nat → Int32) (nc : Nat) (a b e l : Int32) : nV V nc a b e l 11 nc = b := mod_y
theorem nV_12 (V : Nat → Nat → Int32) (nc : Nat) (a b e l : Int32) : nV V nc a b e l 12 nc = e := by
  unfold nV
  rw [mod_n (by omega), mod_n (by omega), mod_y]
theorem nV_13 (V : Nat → Nat → Int32) (nc : Nat) (a b e l : Int32) : nV V nc a b e l 13 nc = l := by
  unfold nV
  rw [mod_n (by omega), mod_y]
theorem nV_VB {nf nl nc : Nat} {V : Nat → Nat → Int32} (hb : VB nf nl nc V) (hnc : nc < 12) {w m e l : Nat} (hw : w < 6) (hm : m < 1000) (he : e < 4) (hl : l < 10) : VB nf nl (nc + 1) (nV V nc (nI w) (nI m) (nI e) (nI l)) := by
  refine ⟨hb.1, hb.2.1, by omega, fun x j hx hj => ?_⟩
  by_cases z : 10 ≤ x ∧ x ≤ 13 ∧ j = nc
  · obtain ⟨z1, z2, rfl⟩ := z
    rcases (show x = 10 ∨ x = 11 ∨ x = 12 ∨ x = 13 by omega) with rfl | rfl | rfl | rfl
    · rw [nV_10]; exact ⟨nI_pos' (by omega), nI_le (b := 5) (by omega) (by omega)⟩
    · rw [nV_11]; exact ⟨nI_pos' (by omega), nI_le (b := 999) (by omega) (by omega)⟩
    · rw [nV_12]; exact ⟨nI_pos' (by omega), nI_le (b := 3) (by omega) (by omega)⟩
    · rw [nV_13]; exact ⟨nI_pos' (by omega), nI_le (b := 9) (by omega) (by omega)⟩
  · rw [nV_n z]
    refine hb.2.2.2 x j hx ?_
    unfold ct at hj ⊢
    by_cases h6 : x < 6
    · rw [if_pos h6] at hj ⊢; exact hj
    · rw [if_neg h6] at hj ⊢
      by_cases h10 : x < 10
      · rw [if_pos h10] at hj ⊢; exact hj
      · rw [if_neg h10] at hj ⊢; omega
theorem krs_new {P : LwP} {V : Nat → Nat → Int32} {nc w : Nat} (hw : w < 6) (o m wh b e l : Int32) : krs (nV V nc (nI w) b e l) (bt (gA P (nV V nc (nI w) b e l) o m wh) (nc + 1)) (nc + 1) 6 = (if mx (gA P V o m wh) nc < wtV P o m wh (nI w) b e l then 2 ^ w else if 0 < wtV P o m wh (nI w) b e l ∧ wtV P o m wh (nI w) b e l = mx (gA P V o m wh) nc then krs V (bt (gA P V o m wh) nc) nc 6 ||| 2 ^ w else krs V (bt (gA P V o m wh) nc) nc 6) := by
  have et : gA P (nV V nc (nI w) b e l) o m wh nc = wtV P o m wh (nI w) b e l := by
    unfold gA
    rw [nV_10, nV_11, nV_12, nV_13]
  have eg : hv3 (gA P (nV V nc (nI w) b e l) o m wh) nc = hv3 (gA P V o m wh) nc := hv_congr nc (fun i hi => by
    unfold gA
    rw [nV_n (by omega), nV_n (by omega), nV_n (by omega), nV_n (by omega)])
  have em : mx (gA P (nV V nc (nI w) b e l) o m wh) nc = mx (gA P V o m wh) nc := by unfold mx; rw [eg]
  have eb : bt (gA P (nV V nc (nI w) b e l) o m wh) nc = bt (gA P V o m wh) nc := by unfold bt; rw [eg]
  obtain ⟨-, -, -, -, a5, -⟩ := hv_all (gA P V o m wh) nc
  have e10 : ∀ i, i < nc → nV V nc (nI w) b e l 10 i = V 10 i := fun i hi => nV_n (by omega)
  by_cases z1 : mx (gA P V o m wh) nc < wtV P o m wh (nI w) b e l
  · rw [if_pos z1, (hv_s3 (g := gA P (nV V nc (nI w) b e l) o m wh) (i := nc) (by rw [et, em]; exact fun q => fa_nle z1 q)).2.1]
    apply Nat.eq_of_testBit_eq
    intro q
    rw [krs_at, Nat.testBit_two_pow, cn, cn_cg (V := V) (B := 0) nc (fun i hi => ⟨e10 i hi, by rw [Nat.testBit_two_pow, Nat.zero_testBit, decide_eq_false (by omega)]⟩), cn_z, Nat.testBit_two_pow, decide_eq_true (show nc = nc from rfl), nV_10]
    by_cases y : w = q
    · rw [decide_eq_true y, if_pos ⟨rfl, by rw [y]⟩, decide_eq_true (by omega)]
    · rw [decide_eq_false y]
      by_cases y6 : q < 6
      · rw [if_neg (fun x => y (by have := x.2; rw [nIeq (by omega) (by omega)] at this; exact this)), decide_eq_false (by omega)]
      · rw [decide_eq_false (fun x => y6 x.1)]
  · rw [if_neg z1]
    by_cases z2 : 0 < wtV P o m wh (nI w) b e l ∧ wtV P o m wh (nI w) b e l = mx (gA P V o m wh) nc
    · rw [if_pos z2, (hv_s1 (g := gA P (nV V nc (nI w) b e l) o m wh) (i := nc) (by rw [et, em]; exact fa_nlt z1) (by rw [et, em]; exact z2)).2.1, eb]
      apply Nat.eq_of_testBit_eq
      intro q
      rw [krs_at, Nat.testBit_or, krs_at, Nat.testBit_two_pow, cn, cn_cg (V := V) (B := bt (gA P V o m wh) nc) nc (fun i hi => ⟨e10 i hi, by rw [Nat.testBit_or, Nat.testBit_two_pow, decide_eq_false (by omega), Bool.or_false]⟩), Nat.testBit_or, Nat.testBit_two_pow, decide_eq_true (show nc = nc from rfl), Bool.or_true, nV_10]
      by_cases y : w = q
      · rw [decide_eq_true y, Bool.or_true, if_pos ⟨rfl, by rw [y]⟩, decide_eq_true (by omega)]
      · rw [decide_eq_false y, Bool.or_false]
        by_cases y6 : q < 6
        · rw [if_neg (fun x => y (by have := x.2; rw [nIeq (by omega) (by omega)] at this; exact this)), Nat.add_zero]
        · rw [decide_eq_false (fun x => y6 x.1), decide_eq_false (fun x => y6 x.1)]
    · rw [if_neg z2, (hv_s2 (g := gA P (nV V nc (nI w) b e l) o m wh) (i := nc) (by rw [et, em]; exact fa_nlt z1) (by rw [et, em]; exact z2)).2.1, eb]
      apply Nat.eq_of_testBit_eq
      intro q
      rw [krs_at, krs_at, cn, cn_cg (V := V) (B := bt (gA P V o m wh) nc) nc (fun i hi => ⟨e10 i hi, rfl⟩), if_neg (fun x => by have := x.1; rw [Nat.testBit_lt_two_pow a5] at this; cases this), Nat.add_zero]
theorem owF_nV {V : Nat → Nat → Int32} {nc nf : Nat} {a b e l : Int32} (f : Nat) : owF (nV V nc a b e l) nf f = owF V nf f := by
  unfold owF
  rw [nV_f (by omega), nV_f (by omega), own_c (fun a ha => nV_f (by omega))]
theorem wry_m2 {G E : Nat → Int32} {nl : Nat} (hnl : nl ≤ 10) : ∀ r f, f + r ≤ 60 → (wry G E nl r f = -2 ∨ ∃ j : Nat, j < 100 ∧ wry G E nl r f = nI j) := by
  intro r
  induction r with
  | zero => intro f _; exact Or.inl rfl
  | succ r ih =>
    intro f hf
    rw [wry]
    by_cases z : f < nl
    · rw [if_pos z]
      by_cases z2 : G f = E f
      · rw [if_pos z2]; exact ih (f + 1) (by omega)
      · rw [if_neg z2]; exact Or.inr ⟨f, by omega, rfl⟩
    · rw [if_neg z]; exact Or.inr ⟨f, by omega, rfl⟩
theorem nI_m2 {j : Nat} (h : j < 100000) : ¬ nI j = -2 := fun e => by
  have := congrArg Int32.toInt e
  rw [nI_toInt (by omega)] at this
  have e1 : (-2 : Int32).toInt = -2 := rfl
  omega
theorem wry_lt0 {G E : Nat → Int32} {nl : Nat} (hnl : nl ≤ 10) {r f : Nat} (hf : f + r ≤ 60) : (wry G E nl r f < 0) ↔ wry G E nl r f = -2 := by
  rcases wry_m2 (G := G) (E := E) hnl r f hf with q | ⟨j, hj, q⟩
  · rw [q]; exact ⟨fun _ => rfl, fun _ => by decide⟩
  · rw [q]; exact ⟨fun y => absurd y (nI_pos (by omega)), fun y => absurd y (nI_m2 (by omega))⟩
theorem wry_over {G E : Nat → Int32} {nl : Nat} (hnl : nl ≤ 10) : ∀ r f, f ≤ nl → nl < f + r → ¬ wry G E nl r f = -2 := by
  intro r
  induction r with
  | zero => intro f h1 h2; omega
  | succ r ih =>
    intro f h1 h2
    rw [wry]
    by_cases z : f < nl
    · rw [if_pos z]
      by_cases z2 : G f = E f
      · rw [if_pos z2]; exact ih (f + 1) (by omega) (by omega)
      · rw [if_neg z2]; exact nI_m2 (by omega)
    · rw [if_neg z]; exact nI_m2 (by omega)
theorem c_so_l {n : Nat} (hn : 5000 < n) {nf nl nc : Nat} {V W : Nat → Nat → Int32} {P : LwP} (hb : VB nf nl nc V) {c0 d0 : St} {s ln w mt : Nat} (hR : rwE c0 d0 s ln) (hln : ln ≤ nl) (hw : w < 6) (hmt : mt < 1000) (e l : Int32) (p8 : ∀ f, f < nl → W 8 f = V 8 f ∧ W 9 f = V 9 f) (p10 : W 10 12 = nI w) (p11 : W 11 12 = nI mt) (p12 : W 12 12 = e) (p13 : W 13 12 = l) : ∀ (r f k : Nat) (c : St), f + r = ln → r < k → VC c nf nl nc W P → (∀ f, f < nl → OU P V nf nc c f) → gI c (53 + 2 * s) = gI c0 (53 + 2 * s) → gL c (54 + 2 * s) = gL c0 (54 + 2 * s) → ∃ c', fX10_isSoWith_2 n k c s (nI w) (nI f) = some (decide (wry (pdF P (nV V nc (nI w) (nI mt) e l) nf (nc + 1)) (eR c0 s) nl r f = -2), c') ∧ Q2c c c' := by
  have h10 := hb.2.1
  obtain ⟨l60, l1, l2, l3⟩ := hR
  intro r
  induction r with
  | zero =>
    intro f k c hf hk hv hO h53 h54
    obtain ⟨k, rfl⟩ : ∃ k', k = k' + 1 := ⟨k - 1, by omega⟩
    rw [fX10_isSoWith_2, h53, l1, if_pos (nI_le (by omega) (by omega))]
    exact ⟨c, rfl, Q2c_rf c⟩
  | succ r ih =>
    intro f k c hf hk hv hO h53 h54
    obtain ⟨k, rfl⟩ : ∃ k', k = k' + 1 := ⟨k - 1, by omega⟩
    have z : f < nl := by omega
    obtain ⟨o1, o2, o3⟩ := hO f z
    obtain ⟨x, y, m, hx, hy, hm, v6, v7, v8⟩ := fall_nat hb z
    obtain ⟨c1, e1, e2⟩ := c_countIf hn hv (show f < 13 by omega) (show 12 < 13 by omega) ((p8 f z).1.trans v8) (by omega) p11 (by omega) (owF V nf f)
    rw [(p8 f z).1, (p8 f z).2, p10, p11, p12, p13] at e1
    have g33 : gI c1 33 f = _ := (congrFun (e2.1 33 (by omega) (by omega)) f).trans o1
    have g34 : gI c1 34 f = _ := (congrFun (e2.1 34 (by omega) (by omega)) f).trans o2
    have g35 : gI c1 35 f = _ := (congrFun (e2.1 35 (by omega) (by omega)) f).trans o3
    rw [fX10_isSoWith_2, h53, l1, if_neg (nI_ge (by omega) (by omega)), inB_t (show f < 10 by omega) (by omega)]
    simp only [gd_true, bnd_x, nIc (show f < 100000 by omega)]
    rw [o1, show (12 : Int32) = nI 12 from rfl, e1, Option.bind_some, g34, g35, shl_1b (by omega), or_nI]
    have epd : pdF P (nV V nc (nI w) (nI mt) e l) nf (nc + 1) f = pdK (owF V nf f) (krs (nV V nc (nI w) (nI mt) e l) (bt (gA P (nV V nc (nI w) (nI mt) e l) (owF V nf f) (V 8 f) (V 9 f)) (nc + 1)) (nc + 1) 6) := by
      unfold pdF
      rw [owF_nV, nV_f (by omega), nV_f (by omega)]
    have kn := krs_new (P := P) (V := V) (nc := nc) hw (owF V nf f) (V 8 f) (V 9 f) (nI mt) e l
    have klt := krs_lt (nV V nc (nI w) (nI mt) e l) (bt (gA P (nV V nc (nI w) (nI mt) e l) (owF V nf f) (V 8 f) (V 9 f)) (nc + 1)) (nc + 1) 6
    have go : ∀ K : Nat, krs (nV V nc (nI w) (nI mt) e l) (bt (gA P (nV V nc (nI w) (nI mt) e l) (owF V nf f) (V 8 f) (V 9 f)) (nc + 1)) (nc + 1) 6 = K → ∃ c', fX10_isSoWith_79 (fX10_isSoWith_2 n k) n c1 s (nI w) (nI f) (nI K) = some (decide (wry (pdF P (nV V nc (nI w) (nI mt) e l) nf (nc + 1)) (eR c0 s) nl (r + 1) f = -2), c') ∧ Q2c c c' := by
      intro K hK
      rw [hK] at epd klt
      unfold fX10_isSoWith_79
      rw [inB_t (show f < 60 by omega) (by omega), gd_true, c_paid hn (by omega) klt (owF_rng hb f) g33, ← epd, Option.bind_some, nIc (by omega), e2.2, h54, bnd_x, nI_1, wry, if_pos z]
      by_cases u : pdF P (nV V nc (nI w) (nI mt) e l) nf (nc + 1) f = eR c0 s f
      · rw [if_pos u, if_pos ((sm_eq (l3 f (by omega)).1 _).mpr u)]
        obtain ⟨c', u1, u2⟩ := ih (f + 1) k c1 (by omega) (by omega) (VC_Q hv (Q2c_q e2)) (fun g hg => OU_eq (hO g hg) (fun k h1 h2 => by rw [e2.1 k (by omega) (by omega)])) (by rw [e2.1 _ (by omega) (by omega), h53]) (by rw [e2.2, h54])
        exact ⟨c', u1, fun k a b => (u2.1 k a b).trans (e2.1 k a b), fun k => (u2.2 k).trans (e2.2 k)⟩
      · rw [if_neg u, if_neg (fun q => u ((sm_eq (l3 f (by omega)).1 _).mp q)), decide_eq_false (nI_m2 (by omega))]
        exact ⟨c1, rfl, e2⟩
    generalize wtV P (owF V nf f) (V 8 f) (V 9 f) (nI w) (nI mt) e l = t at kn
    by_cases t1 : t ≤ mx (gA P V (owF V nf f) (V 8 f) (V 9 f)) nc
    · rw [if_pos t1]
      rw [if_neg (fun q => fa_nle q t1)] at kn
      by_cases t2 : t ≤ 0
      · rw [if_pos t2]
        rw [if_neg (fun q => fa_nle q.1 t2)] at kn
        exact go _ kn
      · rw [if_neg t2]
        by_cases t3 : t = mx (gA P V (owF V nf f) (V 8 f) (V 9 f)) nc
        · rw [if_pos t3]
          rw [if_pos ⟨i32_nle t2, t3⟩] at kn
          exact go _ kn
        · rw [if_neg t3]
          rw [if_neg (fun q => t3 q.2)] at kn
          exact go _ kn
    · rw [if_neg t1]
      rw [if_pos (i32_nle t1)] at kn
      exact go _ kn
def mts (S : Nat → Bool) : Nat → Nat → Nat → Int32 → Nat × Int32
  | 0, _, m, f => (m, f)
  | r + 1, x, m, f => if S x = true then mts S r (x + 1) (m + 1) (if m = 0 then nI x else f) else mts S r (x + 1) m f
theorem mts_f {S : Nat → Bool} (h : ∀ x, S x = false) : ∀ r x m f, mts S r x m f = (m, f) := by
  intro r
  induction r with
  | zero => intro x m f; rfl
  | succ r ih => intro x m f; rw [mts, h x, if_neg (by decide), ih]
theorem c_mts_l {n : Nat} (hn : 5000 < n) {nf nl nc : Nat} {V : Nat → Nat → Int32} {P : LwP} (hb : VB nf nl nc V) {c0 d0 : St} {s ln w : Nat} (hs : s < 6) (hR : rwE c0 d0 s ln) (hln : ln ≤ nl) (hw : w < 6) (e l : Int32) : ∀ (r mt k many : Nat) (c : St) (W : Nat → Nat → Int32), mt + r = 1000 → r < k → many ≤ mt → VC c nf nl nc W P → (∀ f, f < nl → W 8 f = V 8 f ∧ W 9 f = V 9 f) → (∀ f, f < nl → OU P V nf nc c f) → gI c (53 + 2 * s) = gI c0 (53 + 2 * s) → gL c (54 + 2 * s) = gL c0 (54 + 2 * s) → gI c 32 0 = nI many → ∃ c', fX10_seekMinutes_33 n k c s (nI w) e l (nI mt) = some c' ∧ gI c' 32 0 = nI (mts (fun x => decide (wry (pdF P (nV V nc (nI w) (nI x) e l) nf (nc + 1)) (eR c0 s) nl ln 0 = -2)) r mt many (gI c 32 1)).1 ∧ gI c' 32 1 = (mts (fun x => decide (wry (pdF P (nV V nc (nI w) (nI x) e l) nf (nc + 1)) (eR c0 s) nl ln 0 = -2)) r mt many (gI c 32 1)).2 ∧ QC c c' := by
  have h10 := hb.2.1
  intro r
  induction r with
  | zero =>
    intro mt k many c W hm hk hmm hv p8 hO h53 h54 h32
    obtain ⟨k, rfl⟩ : ∃ k', k = k' + 1 := ⟨k - 1, by omega⟩
    rw [fX10_seekMinutes_33, if_pos (show (1000 : Int32) ≤ nI mt from nI_le (a := 1000) (by omega) (by omega))]
    exact ⟨c, rfl, h32, rfl, QC_q (Qc_rf c)⟩
  | succ r ih =>
    intro mt k many c W hm hk hmm hv p8 hO h53 h54 h32
    obtain ⟨k, rfl⟩ : ∃ k', k = k' + 1 := ⟨k - 1, by omega⟩
    rw [fX10_seekMinutes_33, if_neg (show ¬ (1000 : Int32) ≤ nI mt from nI_ge (b := 1000) (by omega) (by omega))]
    obtain ⟨c1, t1, t2, t3, t4⟩ := c_place hv (nI w) (nI mt) e l
    have q8 : ∀ f, f < nl → thV W (nI w) (nI mt) e l 8 f = V 8 f ∧ thV W (nI w) (nI mt) e l 9 f = V 9 f := fun f hf => ⟨(mod_n (by omega)).trans ((mod_n (by omega)).trans ((mod_n (by omega)).trans ((mod_n (by omega)).trans (p8 f hf).1))), (mod_n (by omega)).trans ((mod_n (by omega)).trans ((mod_n (by omega)).trans ((mod_n (by omega)).trans (p8 f hf).2)))⟩
    have hO1 : ∀ f, f < nl → OU P V nf nc c1 f := fun f hf => OU_eq (hO f hf) (fun k h1 h2 => by rw [t4 k (by omega)])
    have g53 : gI c1 (53 + 2 * s) = gI c0 (53 + 2 * s) := by rw [t4 _ (by omega), h53]
    have g54 : gL c1 (54 + 2 * s) = gL c0 (54 + 2 * s) := by rw [t3.2, h54]
    obtain ⟨c2, e1, e2⟩ := c_so_l hn hb hR hln hw (show mt < 1000 by omega) e l q8 rfl rfl rfl rfl ln 0 n c1 (by omega) (by have := hR.1; omega) t2 hO1 g53 g54
    have e1' : fX10_isSoWith_2 n n c1 s (nI w) 0 = _ := e1
    unfold fX10_isSoWith
    rw [t1, Option.bind_some, e1', Option.bind_some, if_bI, mts]
    have hv2 := VC_Q t2 (Q2c_q e2)
    have hO2 : ∀ f, f < nl → OU P V nf nc c2 f := fun f hf => OU_eq (hO1 f hf) (fun k h1 h2 => by rw [e2.1 k (by omega) (by omega)])
    have q2 : QC c c2 := QC_tr t3 (QC_q (Q2c_q e2))
    have g32 : gI c2 32 = gI c 32 := by rw [e2.1 32 (by omega) (by omega), t4 32 (by omega)]
    have k53 : gI c2 (53 + 2 * s) = gI c0 (53 + 2 * s) := by rw [e2.1 _ (by omega) (by omega), g53]
    have k54 : gL c2 (54 + 2 * s) = gL c0 (54 + 2 * s) := by rw [e2.2, g54]
    simp only [bnd_x, nI_1]
    by_cases z : decide (wry (pdF P (nV V nc (nI w) (nI mt) e l) nf (nc + 1)) (eR c0 s) nl ln 0 = -2) = true
    · rw [z, cond_true, if_pos rfl, g32, h32]
      have go : ∀ v : Int32, v = (if many = 0 then nI mt else gI c 32 1) → ∃ c', fX10_seekMinutes_33 n k (sI (sI c2 32 1 v) 32 0 (gI (sI c2 32 1 v) 32 0 + 1)) s (nI w) e l (nI (mt + 1)) = some c' ∧ gI c' 32 0 = nI (mts (fun x => decide (wry (pdF P (nV V nc (nI w) (nI x) e l) nf (nc + 1)) (eR c0 s) nl ln 0 = -2)) r (mt + 1) (many + 1) (if many = 0 then nI mt else gI c 32 1)).1 ∧ gI c' 32 1 = (mts (fun x => decide (wry (pdF P (nV V nc (nI w) (nI x) e l) nf (nc + 1)) (eR c0 s) nl ln 0 = -2)) r (mt + 1) (many + 1) (if many = 0 then nI mt else gI c 32 1)).2 ∧ QC c c' := by
        intro v hv'
        rw [gIp, if_neg (by omega), g32, h32, nI_1]
        have qs : Qc c2 (sI (sI c2 32 1 v) 32 0 (nI (many + 1))) := Qc_tr (Qc_sI _ _ _ _ (by omega)) (Qc_sI _ _ _ _ (by omega))
        obtain ⟨c', u1, u2, u3, u4⟩ := ih (mt + 1) k (many + 1) (sI (sI c2 32 1 v) 32 0 (nI (many + 1))) (thV W (nI w) (nI mt) e l) (by omega) (by omega) (by omega) (VC_Q hv2 qs) q8 (fun f hf => OU_eq (hO2 f hf) (fun k h1 h2 => by rw [gIp, if_neg (by omega), gIp, if_neg (by omega)])) (by rw [qs.1 _ (by omega), k53]) (by rw [qs.2, k54]) (by rw [gIp, if_pos ⟨rfl, rfl⟩])
        rw [gIp, if_neg (by omega), gIp, if_pos ⟨rfl, rfl⟩, hv'] at u2 u3
        exact ⟨c', u1, u2, u3, QC_tr q2 (QC_tr (QC_q qs) u4)⟩
      by_cases z0 : many = 0
      · rw [z0, if_pos (show nI 0 = 0 from rfl)]
        rw [z0] at go
        exact go (nI mt) (by rw [if_pos rfl])
      · rw [if_neg (nI_ne0 (by omega) (by omega))]
        exact go (gI c 32 1) (by rw [if_neg z0])
    · rw [Bool.eq_false_iff.mpr z, cond_false, if_neg (by decide)]
      obtain ⟨c', u1, u2, u3, u4⟩ := ih (mt + 1) k many c2 (thV W (nI w) (nI mt) e l) (by omega) (by omega) (by omega) hv2 q8 hO2 k53 k54 (by rw [g32, h32])
      rw [g32] at u2 u3
      exact ⟨c', u1, u2, u3, QC_tr q2 u4⟩
