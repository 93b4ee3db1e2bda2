def oweN (P : LwP) (V : Nat → Nat → Int32) (nc : Nat) (o m wh : Int32) (k : Nat) : Nat := if o < 0 then 0 else pyd V (bt (gA P V o m wh) nc) o.toNatClampNeg (12 / mn (gA P V o m wh) nc) nc k
def sumN (P : LwP) (V : Nat → Nat → Int32) (nc : Nat) (o m wh : Int32) : Nat := if o < 0 then 0 else 12 / mn (gA P V o m wh) nc * cw V (bt (gA P V o m wh) nc) o.toNatClampNeg nc
theorem pop_le (F : Nat) : ∀ n, pop F n ≤ n := by
  intro n
  induction n with
  | zero => exact Nat.le_refl 0
  | succ n ih =>
    rw [pop]
    split <;> omega
theorem pop_0 {F : Nat} : ∀ n, pop F n = 0 → ∀ i, i < n → F.testBit i = false := by
  intro n
  induction n with
  | zero => intro _ i hi; exact absurd hi (by omega)
  | succ n ih =>
    intro h i hi
    rw [pop] at h
    by_cases e : i = n
    · subst e
      cases q : F.testBit i with
      | false => rfl
      | true => rw [q, if_pos rfl] at h; omega
    · exact ih (by omega) i (by omega)
theorem bt_0 (g : Nat → Int32) (n : Nat) : (bt g n = 0) ↔ (mn g n = 0) := by
  obtain ⟨a1, a2, a3, a4, a5, a6⟩ := hv_all g n
  constructor
  · intro h
    rw [a6, h, pop_z]
  · intro h
    rw [a6] at h
    refine Nat.eq_of_testBit_eq (fun i => ?_)
    rw [Nat.zero_testBit]
    by_cases hi : i < n
    · exact pop_0 n h i hi
    · rw [a4, decide_eq_false (by omega)]
theorem mn_le (g : Nat → Int32) (n : Nat) : mn g n ≤ n := by
  obtain ⟨a1, a2, a3, a4, a5, a6⟩ := hv_all g n
  rw [a6]
  exact pop_le _ _
theorem div12 {m : Nat} (h0 : 0 < m) (h : m ≤ 12) : (12 : Int32) / nI m = nI (12 / m) := dv_nI (a := 12) (d := m) (by omega) h0 (by omega)
theorem neg1_lt : (-1 : Int32) < 0 := by decide
/-- scratch of the law, the fall weighed last, and one row of debts -/
def Qs (X : Nat) (c c' : St) : Prop := (∀ k, k ≠ 19 → k ≠ 20 → k ≠ 24 → k ≠ X → gI c' k = gI c k) ∧ ∀ k, gL c' k = gL c k
theorem Qs_tr {X : Nat} {a b c : St} (h1 : Qs X a b) (h2 : Qs X b c) : Qs X a c := ⟨fun k p q r s => (h2.1 k p q r s).trans (h1.1 k p q r s), fun k => (h2.2 k).trans (h1.2 k)⟩
theorem Qs_w {X : Nat} {c c' : St} (h : Qw c c') : Qs X c c' := ⟨fun k p q r _ => h.1 k p q r, h.2⟩
theorem Qs_rf (X : Nat) (c : St) : Qs X c c := ⟨fun _ _ _ _ _ => rfl, fun _ => rfl⟩
theorem Qs_q {c c' : St} (h : Qs 25 c c') : Qc c c' := ⟨fun k q => h.1 k (by omega) (by omega) (by omega) (by omega), h.2⟩
def Qo (d d' : St) : Prop := (∀ k, k ≠ 25 → k ≠ 26 → k ≠ 27 → gI d' k = gI d k) ∧ ∀ k, gL d' k = gL d k
theorem Qo_q {d d' : St} (h : Qo d d') : Qd d d' := ⟨fun k q => h.1 k (by omega) (by omega) (by omega), h.2⟩
theorem Qo_tr {a b c : St} (h1 : Qo a b) (h2 : Qo b c) : Qo a c := ⟨fun k p q r => (h2.1 k p q r).trans (h1.1 k p q r), fun k => (h2.2 k).trans (h1.2 k)⟩
theorem Qo_rf (d : St) : Qo d d := ⟨fun _ _ _ _ => rfl, fun _ => rfl⟩
theorem Q2d_o {d d' : St} (h : Q2d d d') : Qo d d' := ⟨fun k p q _ => h.1 k p q, h.2⟩
theorem c_settle1 {n : Nat} (hn : 5000 < n) {c : St} {nf nl nc : Nat} {V : Nat → Nat → Int32} {P : LwP} (hv : VC c nf nl nc V P) (hb : VB nf nl nc V) {f x y m : Nat} (hf : f < 13) (hx : x < 20) (hy : y < 20) (h6 : V 6 f = nI x) (h7 : V 7 f = nI y) (hm : V 8 f = nI m) (hm2 : m < 100000) : ∃ c', fX6_settle_1 n c (nI f) = some (nI (sumN P V nc (ownV V nf x y) (V 8 f) (V 9 f)), c') ∧ (∀ k, k < 36 → gI c' 25 k = gI c 25 k + nI (oweN P V nc (ownV V nf x y) (V 8 f) (V 9 f) k)) ∧ Qs 25 c c' ∧ gI c' 24 3 = nI (mn (gA P V (ownV V nf x y) (V 8 f) (V 9 f)) nc) := by
  have h12 := hb.2.2.1
  obtain ⟨c1, w1, w2, w3, w4, w5⟩ := c_weigh hn hv hb hf hm hm2 (ownV V nf x y) (-1)
  have eb : bt (gW P V (ownV V nf x y) (V 8 f) (V 9 f) (-1)) nc = bt (gA P V (ownV V nf x y) (V 8 f) (V 9 f)) nc := by unfold bt; rw [gW_m1 _ _ _ _ _ _ (by omega)]
  have en : mn (gW P V (ownV V nf x y) (V 8 f) (V 9 f) (-1)) nc = mn (gA P V (ownV V nf x y) (V 8 f) (V 9 f)) nc := by unfold mn; rw [gW_m1 _ _ _ _ _ _ (by omega)]
  rw [eb] at w4
  rw [en] at w5
  obtain ⟨b1, b2⟩ := bt_12 (gA P V (ownV V nf x y) (V 8 f) (V 9 f)) h12
  have hmn := mn_le (gA P V (ownV V nf x y) (V 8 f) (V 9 f)) nc
  unfold fX6_settle_1
  rw [c_under hn hv hb hf hx hy h6 h7, Option.bind_some, c_owner hv hb, Option.bind_some, w1, Option.bind_some, w5]
  unfold sumN
  rcases ownV_rng hb x y with ho | ⟨p, hp, ho⟩
  · rw [ho, if_pos neg1_lt, if_pos neg1_lt]
    refine ⟨c1, rfl, fun k hk => ?_, Qs_w w2, by rw [w5, ho]⟩
    unfold oweN
    rw [if_pos neg1_lt, w2.1 25 (by omega) (by omega) (by omega)]
    exact (Int32.add_zero _).symm
  · have hnl : ¬ ownV V nf x y < 0 := by rw [ho]; exact nI_pos (by omega)
    rw [if_neg hnl, if_neg hnl]
    unfold oweN
    simp only [if_neg hnl]
    rw [ho, nIc (by omega)]
    rw [ho] at w4 w5 b1 b2 hmn
    generalize gA P V (nI p) (V 8 f) (V 9 f) = g at w4 w5 b1 b2 hmn
    by_cases z : mn g nc = 0
    · rw [z, if_pos (show nI 0 = 0 from rfl)]
      refine ⟨c1, by rw [Nat.zero_mul]; rfl, fun k hk => ?_, Qs_w w2, by rw [w5, z]⟩
      rw [w2.1 25 (by omega) (by omega) (by omega), show pyd V (bt g nc) p (12 / 0) nc k = 0 by unfold pyd; split; exact Nat.zero_mul _; rfl]
      exact (Int32.add_zero _).symm
    · rw [if_neg (nI_ne0 (by omega) (by omega)), bnd_x, div12 (by omega) (by omega)]
      obtain ⟨c', e1, e2, e3, e4⟩ := c_set1_l (n := n) (V := V) (P := P) hb (B := bt g nc) (p := p) (s := 12 / mn g nc) b1 hp (gI c1 25) nc 0 n c1 (by omega) (by omega) (VC_Q hv (Qw_q w2)) w4 (fun k hk => by rw [pyd_0]; exact (Int32.add_zero _).symm)
      refine ⟨c', e1, fun k hk => by rw [e2 k hk, w2.1 25 (by omega) (by omega) (by omega)], ⟨fun k q1 q2 q3 q4 => by rw [e3 k q4, w2.1 k q1 q2 q3], fun k => by rw [e4 k, w2.2 k]⟩, by rw [e3 24 (by omega), w5]⟩
theorem c_settle2 {n : Nat} (hn : 5000 < n) {c : St} {nf nl nc : Nat} {V : Nat → Nat → Int32} {P : LwP} (hv : VC c nf nl nc V P) (hb : VB nf nl nc V) {f x y m : Nat} (hf : f < 13) (hx : x < 20) (hy : y < 20) (h6 : V 6 f = nI x) (h7 : V 7 f = nI y) (hm : V 8 f = nI m) (hm2 : m < 100000) : ∃ c', fX6_settle_2 n c (nI f) = some (nI (sumN P V nc (ownV V nf x y) (V 8 f) (V 9 f)), c') ∧ (∀ k, k < 36 → gI c' 40 k = gI c 40 k + nI (oweN P V nc (ownV V nf x y) (V 8 f) (V 9 f) k)) ∧ Qs 40 c c' ∧ gI c' 24 3 = nI (mn (gA P V (ownV V nf x y) (V 8 f) (V 9 f)) nc) := by
  have h12 := hb.2.2.1
  obtain ⟨c1, w1, w2, w3, w4, w5⟩ := c_weigh hn hv hb hf hm hm2 (ownV V nf x y) (-1)
  have eb : bt (gW P V (ownV V nf x y) (V 8 f) (V 9 f) (-1)) nc = bt (gA P V (ownV V nf x y) (V 8 f) (V 9 f)) nc := by unfold bt; rw [gW_m1 _ _ _ _ _ _ (by omega)]
  have en : mn (gW P V (ownV V nf x y) (V 8 f) (V 9 f) (-1)) nc = mn (gA P V (ownV V nf x y) (V 8 f) (V 9 f)) nc := by unfold mn; rw [gW_m1 _ _ _ _ _ _ (by omega)]
  rw [eb] at w4
  rw [en] at w5
  obtain ⟨b1, b2⟩ := bt_12 (gA P V (ownV V nf x y) (V 8 f) (V 9 f)) h12
  have hmn := mn_le (gA P V (ownV V nf x y) (V 8 f) (V 9 f)) nc
  unfold fX6_settle_2
  rw [c_under hn hv hb hf hx hy h6 h7, Option.bind_some, c_owner hv hb, Option.bind_some, w1, Option.bind_some, w5]
  unfold sumN
  rcases ownV_rng hb x y with ho | ⟨p, hp, ho⟩
  · rw [ho, if_pos neg1_lt, if_pos neg1_lt]
    refine ⟨c1, rfl, fun k hk => ?_, Qs_w w2, by rw [w5, ho]⟩
    unfold oweN
    rw [if_pos neg1_lt, w2.1 40 (by omega) (by omega) (by omega)]
    exact (Int32.add_zero _).symm
  · have hnl : ¬ ownV V nf x y < 0 := by rw [ho]; exact nI_pos (by omega)
    rw [if_neg hnl, if_neg hnl]
    unfold oweN
    simp only [if_neg hnl]
    rw [ho, nIc (by omega)]
    rw [ho] at w4 w5 b1 b2 hmn
    generalize gA P V (nI p) (V 8 f) (V 9 f) = g at w4 w5 b1 b2 hmn
    by_cases z : mn g nc = 0
    · rw [z, if_pos (show nI 0 = 0 from rfl)]
      refine ⟨c1, by rw [Nat.zero_mul]; rfl, fun k hk => ?_, Qs_w w2, by rw [w5, z]⟩
      rw [w2.1 40 (by omega) (by omega) (by omega), show pyd V (bt g nc) p (12 / 0) nc k = 0 by unfold pyd; split; exact Nat.zero_mul _; rfl]
      exact (Int32.add_zero _).symm
    · rw [if_neg (nI_ne0 (by omega) (by omega)), bnd_x, div12 (by omega) (by omega)]
      obtain ⟨c', e1, e2, e3, e4⟩ := c_set2_l (n := n) (V := V) (P := P) hb (B := bt g nc) (p := p) (s := 12 / mn g nc) b1 hp (gI c1 40) nc 0 n c1 (by omega) (by omega) (VC_Q hv (Qw_q w2)) w4 (fun k hk => by rw [pyd_0]; exact (Int32.add_zero _).symm)
      refine ⟨c', e1, fun k hk => by rw [e2 k hk, w2.1 40 (by omega) (by omega) (by omega)], ⟨fun k q1 q2 q3 q4 => by rw [e3 k q4, w2.1 k q1 q2 q3], fun k => by rw [e4 k, w2.2 k]⟩, by rw [e3 24 (by omega), w5]⟩
theorem d_oweBy {n : Nat} (hn : 5000 < n) {d : St} {nf nl nc : Nat} {V : Nat → Nat → Int32} {P : LwP} (hv : VD d nf nl nc V P) (hb : VB nf nl nc V) {j x y : Nat} {m wh : Int32} (hF : FD d j x y m wh) : ∃ d', fX12_oweBy n d (nI j) = some (nI (sumN P V nc (ownV V nf x y) m wh), d') ∧ (∀ k, k < 36 → gI d' 27 k = gI d 27 k + nI (oweN P V nc (ownV V nf x y) m wh k)) ∧ Qo d d' := by
  have h12 := hb.2.2.1
  unfold fX12_oweBy
  rw [d_finder hn hv hb hF.1 hF.2.1 hF.2.2.1 hF.2.2.2.1 hF.2.2.2.2.1, Option.bind_some]
  unfold sumN
  rcases ownV_rng hb x y with ho | ⟨p, hp, ho⟩
  · rw [ho, if_pos neg1_lt]
    refine ⟨d, rfl, fun k hk => ?_, Qo_rf d⟩
    unfold oweN
    rw [if_pos neg1_lt]
    exact (Int32.add_zero _).symm
  · have hnl : ¬ ownV V nf x y < 0 := by rw [ho]; exact nI_pos (by omega)
    obtain ⟨d1, y1, y2⟩ := d_haveIt hn hv hb hF
    obtain ⟨b1, b2⟩ := bt_12 (gA P V (ownV V nf x y) m wh) h12
    have hmn := mn_le (gA P V (ownV V nf x y) m wh) nc
    have hbt := bt_0 (gA P V (ownV V nf x y) m wh) nc
    unfold oweN
    simp only [if_neg hnl]
    unfold fnd
    rw [if_pos (show 0 ≤ ownV V nf x y by rw [ho]; exact nI_pos' (by omega)), if_pos (show 0 ≤ ownV V nf x y by rw [ho]; exact nI_pos' (by omega)), y1, Option.bind_some]
    generalize gA P V (ownV V nf x y) m wh = g at y1 b1 b2 hmn hbt
    rw [ho, nIc (by omega)]
    unfold fX12_oweBy_19
    by_cases z : mn g nc = 0
    · rw [z, hbt.mpr z]
      refine ⟨d1, by rw [Nat.zero_mul]; rfl, fun k hk => ?_, Q2d_o y2⟩
      rw [y2.1 27 (by omega) (by omega), show pyd V 0 p (12 / 0) nc k = 0 by unfold pyd; split; exact Nat.zero_mul _; rfl]
      exact (Int32.add_zero _).symm
    · have hb0 : ¬ bt g nc = 0 := fun q => z (hbt.mp q)
      rw [if_neg (nI_ne0 (by omega) (by omega)), d_bits hn b1, b2, Option.bind_some, decide_eq_true (nI_ne0 (n := mn g nc) (by omega) (by omega)), gd_true, bnd_x, div12 (by omega) (by omega)]
      obtain ⟨d', e1, e2, e3, e4⟩ := d_owe_l (n := n) (V := V) (P := P) hb (B := bt g nc) (p := p) (s := 12 / mn g nc) b1 hp (gI d1 27) nc 0 n d1 (by omega) (by omega) (VD_Q hv (Q2d_q y2)) (fun k hk => by rw [pyd_0]; exact (Int32.add_zero _).symm)
      refine ⟨d', e1, fun k hk => by rw [e2 k hk, y2.1 27 (by omega) (by omega)], ⟨fun k q1 q2 q3 => by rw [e3 k q3, y2.1 k q1 q2], fun k => by rw [e4 k, y2.2 k]⟩⟩
/-- whose the field under a fall is -/
def owF (V : Nat → Nat → Int32) (nf f : Nat) : Int32 := ownV V nf (V 6 f).toNatClampNeg (V 7 f).toNatClampNeg
/-- what is owed by the first falls -/
def DN (P : LwP) (V : Nat → Nat → Int32) (nf nc : Nat) : Nat → Nat → Nat
  | 0, _ => 0
  | f + 1, k => DN P V nf nc f k + oweN P V nc (owF V nf f) (V 8 f) (V 9 f) k
theorem owF_eq {V : Nat → Nat → Int32} {nf f x y : Nat} (hx : x < 20) (hy : y < 20) (h6 : V 6 f = nI x) (h7 : V 7 f = nI y) : owF V nf f = ownV V nf x y := by
  unfold owF
  rw [h6, h7, nIc (by omega), nIc (by omega)]
theorem c_reck_l {n : Nat} (hn : 5000 < n) {nf nl nc : Nat} {V : Nat → Nat → Int32} {P : LwP} (hb : VB nf nl nc V) : ∀ (r i k : Nat) (c : St), i + r = nl → r < k → VC c nf nl nc V P → (∀ k, k < 36 → gI c 25 k = nI (DN P V nf nc i k)) → ∃ c', fX6_reckonDebts_10 n k c (nI i) = some c' ∧ (∀ k, k < 36 → gI c' 25 k = nI (DN P V nf nc nl k)) ∧ Qs 25 c c' := by
  have h10 := hb.2.1
  intro r
  induction r with
  | zero =>
    intro i k c hi hk hv hA
    obtain ⟨k, rfl⟩ : ∃ k', k = k' + 1 := ⟨k - 1, by omega⟩
    have e : i = nl := by omega
    subst e
    rw [fX6_reckonDebts_10, hv.2.1, if_pos (i32_rf _)]
    exact ⟨c, rfl, hA, Qs_rf 25 c⟩
  | succ r ih =>
    intro i k c hi hk hv hA
    obtain ⟨k, rfl⟩ : ∃ k', k = k' + 1 := ⟨k - 1, by omega⟩
    obtain ⟨x, y, m, hx, hy, hm, v6, v7, v8⟩ := fall_nat hb (show i < nl by omega)
    obtain ⟨c1, e1, e2, e3, e4⟩ := c_settle1 hn hv hb (show i < 13 by omega) hx hy v6 v7 v8 (by omega)
    rw [fX6_reckonDebts_10, hv.2.1, if_neg (nI_ge (by omega) (by omega)), e1, Option.bind_some, bnd_x, nI_1]
    obtain ⟨c', f1, f2, f3⟩ := ih (i + 1) k c1 (by omega) (by omega) (VC_Q hv (Qs_q e3)) (fun k hk => by rw [e2 k hk, hA k hk, nI_add, DN, owF_eq hx hy v6 v7])
    exact ⟨c', f1, f2, Qs_tr e3 f3⟩
theorem c_reck {n : Nat} (hn : 5000 < n) {c : St} {nf nl nc : Nat} {V : Nat → Nat → Int32} {P : LwP} (hv : VC c nf nl nc V P) (hb : VB nf nl nc V) : ∃ c', fX6_reckonDebts n c = some c' ∧ (∀ k, k < 36 → gI c' 25 k = nI (DN P V nf nc nl k)) ∧ Qs 25 c c' := by
  unfold fX6_reckonDebts
  rw [bnd_x]
  have hq : Qs 25 c (sIs c 25 (flI (gI c 25) 36 0)) := ⟨fun k _ _ _ q => by rw [gI_sIsx, if_neg q], fun _ => rfl⟩
  obtain ⟨c', e1, e2, e3⟩ := c_reck_l hn hb (P := P) nl 0 n (sIs c 25 (flI (gI c 25) 36 0)) (by omega) (by have := hb.2.1; omega) (VC_Q hv (Qs_q hq)) (fun k hk => by
    rw [gI_sIsx, if_pos rfl]
    show (if k < 36 then 0 else gI c 25 k) = nI 0
    rw [if_pos hk]
    rfl)
  exact ⟨c', e1, e2, Qs_tr hq e3⟩
theorem d_find_l {n : Nat} (hn : 5000 < n) {nf nl nc : Nat} {V : Nat → Nat → Int32} {P : LwP} (hb : VB nf nl nc V) : ∀ (r i k : Nat) (d : St), i + r = nl → r < k → VD d nf nl nc V P → (∀ k, k < 36 → gI d 27 k = nI (DN P V nf nc i k)) → ∃ d', fX12_findOwed_23 n k d (nI i) = some d' ∧ (∀ k, k < 36 → gI d' 27 k = nI (DN P V nf nc nl k)) ∧ Qo d d' := by
  have h10 := hb.2.1
  intro r
  induction r with
  | zero =>
    intro i k d hi hk hv hA
    obtain ⟨k, rfl⟩ : ∃ k', k = k' + 1 := ⟨k - 1, by omega⟩
    have e : i = nl := by omega
    subst e
    rw [fX12_findOwed_23, hv.2.1, if_pos (i32_rf _)]
    exact ⟨d, rfl, hA, Qo_rf d⟩
  | succ r ih =>
    intro i k d hi hk hv hA
    obtain ⟨k, rfl⟩ : ∃ k', k = k' + 1 := ⟨k - 1, by omega⟩
    obtain ⟨x, y, m, hx, hy, hm, v6, v7, v8⟩ := fall_nat hb (show i < nl by omega)
    obtain ⟨d1, e1, e2, e3⟩ := d_oweBy hn hv hb (FD_of hv hb (show i < nl by omega) hx hy v6 v7)
    rw [fX12_findOwed_23, hv.2.1, if_neg (nI_ge (by omega) (by omega)), e1, Option.bind_some, bnd_x, nI_1]
    obtain ⟨d', f1, f2, f3⟩ := ih (i + 1) k d1 (by omega) (by omega) (VD_Q hv (Qo_q e3)) (fun k hk => by rw [e2 k hk, hA k hk, nI_add, DN, owF_eq hx hy v6 v7])
    exact ⟨d', f1, f2, Qo_tr e3 f3⟩
theorem d_zero {n : Nat} (hn : 5000 < n) : ∀ (r i k : Nat) (d : St), i + r = 36 → r < k → (∀ j, j < i → gI d 27 j = 0) → ∃ d', fX12_findOwed_2 n k d (nI i) = fX12_findOwed_23 n n d' 0 ∧ (∀ j, j < 36 → gI d' 27 j = 0) ∧ Qo d d' := by
  intro r
  induction r with
  | zero =>
    intro i k d hi hk hA
    obtain ⟨k, rfl⟩ : ∃ k', k = k' + 1 := ⟨k - 1, by omega⟩
    rw [fX12_findOwed_2, if_pos (show (36 : Int32) ≤ nI i from nI_le (a := 36) (by omega) (by omega))]
    exact ⟨d, rfl, fun j hj => hA j (by omega), Qo_rf d⟩
  | succ r ih =>
    intro i k d hi hk hA
    obtain ⟨k, rfl⟩ : ∃ k', k = k' + 1 := ⟨k - 1, by omega⟩
    rw [fX12_findOwed_2, if_neg (show ¬ (36 : Int32) ≤ nI i from nI_ge (b := 36) (by omega) (by omega)), inB_t (show i < 36 by omega) (by omega), gd_true, nIc (by omega), bnd_x, bnd_x, nI_1]
    obtain ⟨d', e1, e2, e3⟩ := ih (i + 1) k (sI d 27 i 0) (by omega) (by omega) (fun j hj => by
      rw [gI_sIx, if_pos rfl, upd_x]
      by_cases e : j = i
      · rw [if_pos e]
      · rw [if_neg e]; exact hA j (by omega))
    exact ⟨d', e1, e2, Qo_tr (show Qo d (sI d 27 i 0) from ⟨fun q _ _ h => by rw [gI_sIx, if_neg h], fun _ => rfl⟩) e3⟩
theorem d_findOwed {n : Nat} (hn : 5000 < n) {d : St} {nf nl nc : Nat} {V : Nat → Nat → Int32} {P : LwP} (hv : VD d nf nl nc V P) (hb : VB nf nl nc V) : ∃ d', fX12_findOwed n d = some d' ∧ (∀ k, k < 36 → gI d' 27 k = nI (DN P V nf nc nl k)) ∧ Qo d d' := by
  unfold fX12_findOwed
  obtain ⟨d1, e1, e2, e3⟩ := d_zero hn 36 0 n d rfl (by omega) (fun j hj => absurd hj (by omega))
  rw [show (0 : Int32) = nI 0 from rfl, e1]
  obtain ⟨d', f1, f2, f3⟩ := d_find_l hn hb (P := P) nl 0 n d1 (by omega) (by have := hb.2.1; omega) (VD_Q hv (Qo_q e3)) (fun k hk => by rw [e2 k hk]; rfl)
  exact ⟨d', f1, f2, Qo_tr e3 f3⟩
def sR (D : Nat → Nat) (p : Nat) : Nat → Nat → Nat
  | 0, _ => 0
  | r + 1, q => D (6 * p + q) + sR D p r (q + 1)
def sC (D : Nat → Nat) (p : Nat) : Nat → Nat → Nat
  | 0, _ => 0
  | r + 1, q => D (6 * q + p) + sC D p r (q + 1)
theorem c_owes {n : Nat} (hn : 5000 < n) {c : St} {D : Nat → Nat} (hD : ∀ k, k < 36 → gI c 25 k = nI (D k)) {p : Nat} (hp : p < 6) : fX6_owes n c (nI p) = some (nI (sR D p 6 0)) := by
  have main : ∀ (r q k a : Nat), q + r = 6 → r < k → fX6_owes_4 n c k (nI p) (nI a) (nI q) = some (nI (a + sR D p r q)) := by
    intro r
    induction r with
    | zero =>
      intro q k a hq hk
      obtain ⟨k, rfl⟩ : ∃ k', k = k' + 1 := ⟨k - 1, by omega⟩
      rw [fX6_owes_4, if_pos (show (6 : Int32) ≤ nI q from nI_le (a := 6) (by omega) (by omega))]
      rfl
    | succ r ih =>
      intro q k a hq hk
      obtain ⟨k, rfl⟩ : ∃ k', k = k' + 1 := ⟨k - 1, by omega⟩
      rw [fX6_owes_4, if_neg (show ¬ (6 : Int32) ≤ nI q from nI_ge (b := 6) (by omega) (by omega)), at_nI, inB_t (show 6 * p + q < 36 by omega) (by omega), gd_true, nIc (by omega), hD _ (by omega), bnd_x, bnd_x, nI_add, nI_1, ih (q + 1) k _ (by omega) (by omega), sR, Nat.add_assoc]
  unfold fX6_owes
  have := main 6 0 n 0 rfl (by omega)
  rw [Nat.zero_add] at this
  exact this
theorem c_isOwed {n : Nat} (hn : 5000 < n) {c : St} {D : Nat → Nat} (hD : ∀ k, k < 36 → gI c 25 k = nI (D k)) {p : Nat} (hp : p < 6) : fX6_isOwed n c (nI p) = some (nI (sC D p 6 0)) := by
  have main : ∀ (r q k a : Nat), q + r = 6 → r < k → fX6_isOwed_4 n c k (nI p) (nI a) (nI q) = some (nI (a + sC D p r q)) := by
    intro r
    induction r with
    | zero =>
      intro q k a hq hk
      obtain ⟨k, rfl⟩ : ∃ k', k = k' + 1 := ⟨k - 1, by omega⟩
      rw [fX6_isOwed_4, if_pos (show (6 : Int32) ≤ nI q from nI_le (a := 6) (by omega) (by omega))]
      rfl
    | succ r ih =>
      intro q k a hq hk
      obtain ⟨k, rfl⟩ : ∃ k', k = k' + 1 := ⟨k - 1, by omega⟩
      rw [fX6_isOwed_4, if_neg (show ¬ (6 : Int32) ≤ nI q from nI_ge (b := 6) (by omega) (by omega)), at_nI, inB_t (show 6 * q + p < 36 by omega) (by omega), gd_true, nIc (by omega), hD _ (by omega), bnd_x, bnd_x, nI_add, nI_1, ih (q + 1) k _ (by omega) (by omega), sC, Nat.add_assoc]
  unfold fX6_isOwed
  have := main 6 0 n 0 rfl (by omega)
  rw [Nat.zero_add] at this
  exact this
theorem d_owesAll {n : Nat} (hn : 5000 < n) {c : St} {D : Nat → Nat} (hD : ∀ k, k < 36 → gI c 27 k = nI (D k)) {p : Nat} (hp : p < 6) : fX12_owesAll n c (nI p) = some (nI (sR D p 6 0)) := by
  have main : ∀ (r q k a : Nat), q + r = 6 → r < k → fX12_owesAll_4 n c k (nI p) (nI a) (nI q) = some (nI (a + sR D p r q)) := by
    intro r
    induction r with
    | zero =>
      intro q k a hq hk
      obtain ⟨k, rfl⟩ : ∃ k', k = k' + 1 := ⟨k - 1, by omega⟩
      rw [fX12_owesAll_4, if_pos (show (6 : Int32) ≤ nI q from nI_le (a := 6) (by omega) (by omega))]
      rfl
    | succ r ih =>
      intro q k a hq hk
      obtain ⟨k, rfl⟩ : ∃ k', k = k' + 1 := ⟨k - 1, by omega⟩
      rw [fX12_owesAll_4, if_neg (show ¬ (6 : Int32) ≤ nI q from nI_ge (b := 6) (by omega) (by omega)), at_nI, inB_t (show 6 * p + q < 36 by omega) (by omega), gd_true, nIc (by omega), hD _ (by omega), bnd_x, bnd_x, nI_add, nI_1, ih (q + 1) k _ (by omega) (by omega), sR, Nat.add_assoc]
  unfold fX12_owesAll
  have := main 6 0 n 0 rfl (by omega)
  rw [Nat.zero_add] at this
  exact this
theorem d_owedAll {n : Nat} (hn : 5000 < n) {c : St} {D : Nat → Nat} (hD : ∀ k, k < 36 → gI c 27 k = nI (D k)) {p : Nat} (hp : p < 6) : fX12_owedAll n c (nI p) = some (nI (sC D p 6 0)) := by
  have main : ∀ (r q k a : Nat), q + r = 6 → r < k → fX12_owedAll_4 n c k (nI p) (nI a) (nI q) = some (nI (a + sC D p r q)) := by
    intro r
    induction r with
    | zero =>
      intro q k a hq hk
      obtain ⟨k, rfl⟩ : ∃ k', k = k' + 1 := ⟨k - 1, by omega⟩
      rw [fX12_owedAll_4, if_pos (show (6 : Int32) ≤ nI q from nI_le (a := 6) (by omega) (by omega))]
      rfl
    | succ r ih =>
      intro q k a hq hk
      obtain ⟨k, rfl⟩ : ∃ k', k = k' + 1 := ⟨k - 1, by omega⟩
      rw [fX12_owedAll_4, if_neg (show ¬ (6 : Int32) ≤ nI q from nI_ge (b := 6) (by omega) (by omega)), at_nI, inB_t (show 6 * q + p < 36 by omega) (by omega), gd_true, nIc (by omega), hD _ (by omega), bnd_x, bnd_x, nI_add, nI_1, ih (q + 1) k _ (by omega) (by omega), sC, Nat.add_assoc]
  unfold fX12_owedAll
  have := main 6 0 n 0 rfl (by omega)
  rw [Nat.zero_add] at this
  exact this
