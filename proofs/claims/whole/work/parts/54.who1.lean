/-! who: which cries have which falls -/
def BtF (P : LwP) (V : Nat → Nat → Int32) (nf nc f : Nat) : Nat := bt (gA P V (owF V nf f) (V 8 f) (V 9 f)) nc
theorem BtF_lt {nc : Nat} (h : nc ≤ 12) (P : LwP) (V : Nat → Nat → Int32) (nf f : Nat) : BtF P V nf nc f < 4096 := (bt_12 _ h).1
def cB (p : Nat → Bool) : Nat → Nat
  | 0 => 0
  | n + 1 => cB p n + (if p n = true then 1 else 0)
theorem cB_le (p : Nat → Bool) : ∀ n, cB p n ≤ n := by
  intro n
  induction n with
  | zero => exact Nat.le_refl 0
  | succ n ih => rw [cB]; split <;> omega
theorem cB_c {p q : Nat → Bool} : ∀ n, (∀ i, i < n → p i = q i) → cB p n = cB q n := by
  intro n
  induction n with
  | zero => intro _; rfl
  | succ n ih => intro h; rw [cB, cB, ih (fun i hi => h i (by omega)), h n (by omega)]
theorem cB_pos (p : Nat → Bool) : ∀ n, (0 < cB p n) ↔ ∃ i, i < n ∧ p i = true := by
  intro n
  induction n with
  | zero => exact ⟨fun h => absurd h (by show ¬ 0 < 0; omega), fun ⟨i, hi, _⟩ => absurd hi (by omega)⟩
  | succ n ih =>
    rw [cB]
    constructor
    · intro h
      by_cases q : p n = true
      · exact ⟨n, by omega, q⟩
      · rw [if_neg q] at h
        obtain ⟨i, hi, hp⟩ := ih.mp (by omega)
        exact ⟨i, by omega, hp⟩
    · rintro ⟨i, hi, hp⟩
      by_cases e : i = n
      · subst e
        rw [if_pos hp]
        omega
      · have := ih.mpr ⟨i, by omega, hp⟩
        omega
/-- scratch of the law, of weighing, and which cries have each fall -/
def Qa (c c' : St) : Prop := (∀ k, k ≠ 19 → k ≠ 20 → k ≠ 24 → k ≠ 26 → gI c' k = gI c k) ∧ ∀ k, gL c' k = gL c k
theorem Qa_q {c c' : St} (h : Qa c c') : Qc c c' := ⟨fun k q => h.1 k (by omega) (by omega) (by omega) (by omega), h.2⟩
theorem Qa_tr {a b c : St} (h1 : Qa a b) (h2 : Qa b c) : Qa a c := ⟨fun k p q r s => (h2.1 k p q r s).trans (h1.1 k p q r s), fun k => (h2.2 k).trans (h1.2 k)⟩
theorem c_wall_l {n : Nat} (hn : 5000 < n) {nf nl nc : Nat} {V : Nat → Nat → Int32} {P : LwP} (hb : VB nf nl nc V) : ∀ (r i k : Nat) (c : St), i + r = nl → r < k → VC c nf nl nc V P → (∀ f, f < i → gI c 26 f = nI (BtF P V nf nc f)) → ∃ c', fX6_weighAll_2 n k c (nI i) = some c' ∧ (∀ f, f < nl → gI c' 26 f = nI (BtF P V nf nc f)) ∧ Qa c c' := by
  have h10 := hb.2.1
  have h12 := hb.2.2.1
  intro r
  induction r with
  | zero =>
    intro i k c hi hk hv hA
    obtain ⟨k, rfl⟩ : ∃ k', k = k' + 1 := ⟨k - 1, by omega⟩
    rw [fX6_weighAll_2, hv.2.1, if_pos (nI_le (by omega) (by omega))]
    exact ⟨c, rfl, fun f hf => hA f (by omega), fun _ _ _ _ _ => rfl, fun _ => rfl⟩
  | succ r ih =>
    intro i k c hi hk hv hA
    obtain ⟨k, rfl⟩ : ∃ k', k = k' + 1 := ⟨k - 1, by omega⟩
    obtain ⟨x, y, m, hx, hy, hm, v6, v7, v8⟩ := fall_nat hb (show i < nl by omega)
    obtain ⟨c1, w1, w2, w3, w4, w5⟩ := c_weigh hn hv hb (show i < 13 by omega) v8 (by omega) (ownV V nf x y) (-1)
    have eb : bt (gW P V (ownV V nf x y) (V 8 i) (V 9 i) (-1)) nc = BtF P V nf nc i := by
      unfold BtF bt
      rw [gW_m1 _ _ _ _ _ _ (by omega), owF_eq hx hy v6 v7]
    rw [eb] at w4
    rw [fX6_weighAll_2, hv.2.1, if_neg (nI_ge (by omega) (by omega)), c_under hn hv hb (by omega) hx hy v6 v7, Option.bind_some, c_owner hv hb, Option.bind_some, w1, Option.bind_some, inB_t (show i < 10 by omega) (by omega), gd_true, nIc (by omega), bnd_x, bnd_x, nI_1, w4]
    have hq : Qa c (sI c1 26 i (nI (BtF P V nf nc i))) := ⟨fun k q1 q2 q3 q4 => by rw [gI_sIx, if_neg q4, w2.1 k q1 q2 q3], fun k => w2.2 k⟩
    obtain ⟨c', e1, e2, e3⟩ := ih (i + 1) k (sI c1 26 i (nI (BtF P V nf nc i))) (by omega) (by omega) (VC_Q hv (Qa_q hq)) (fun f hf => by
      rw [gI_sIx, if_pos rfl, upd_x]
      by_cases e : f = i
      · rw [if_pos e, e]
      · rw [if_neg e, w2.1 26 (by omega) (by omega) (by omega)]
        exact hA f (by omega))
    exact ⟨c', e1, e2, Qa_tr hq e3⟩
theorem c_wall {n : Nat} (hn : 5000 < n) {c : St} {nf nl nc : Nat} {V : Nat → Nat → Int32} {P : LwP} (hv : VC c nf nl nc V P) (hb : VB nf nl nc V) : ∃ c', fX6_weighAll n c = some c' ∧ (∀ f, f < nl → gI c' 26 f = nI (BtF P V nf nc f)) ∧ Qa c c' :=
  c_wall_l hn hb nl 0 n c (by omega) (by have := hb.2.1; omega) hv (fun f hf => absurd hf (by omega))
theorem nI_inj {a b : Nat} (ha : a < 2 ^ 31) (hb : b < 2 ^ 31) (h : nI a = nI b) : a = b := (nI_eq ha hb).mp h
theorem c_fhb {n : Nat} (hn : 5000 < n) {c : St} {nl : Nat} {B : Nat → Nat} (hl : gI c 1 2 = nI nl) (h10 : nl ≤ 10) (hB : ∀ f, f < nl → gI c 26 f = nI (B f)) (hB2 : ∀ f, B f < 4096) {M : Nat} (hM : M < 4096) : fX6_fallsHadBy n c (nI M) = some (nI (cB (fun f => decide (B f &&& M = M)) nl)) := by
  have main : ∀ (r i k : Nat), i + r = nl → r < k → fX6_fallsHadBy_4 n c k (nI M) (nI (cB (fun f => decide (B f &&& M = M)) i)) (nI i) = some (nI (cB (fun f => decide (B f &&& M = M)) nl)) := by
    intro r
    induction r with
    | zero =>
      intro i k hi hk
      obtain ⟨k, rfl⟩ : ∃ k', k = k' + 1 := ⟨k - 1, by omega⟩
      rw [fX6_fallsHadBy_4, hl, if_pos (nI_le (by omega) (by omega)), show i = nl by omega]
    | succ r ih =>
      intro i k hi hk
      obtain ⟨k, rfl⟩ : ∃ k', k = k' + 1 := ⟨k - 1, by omega⟩
      rw [fX6_fallsHadBy_4, hl, if_neg (nI_ge (by omega) (by omega)), inB_t (show i < 10 by omega) (by omega), gd_true, nIc (by omega), hB i (by omega), and_nI]
      simp only [bnd_x, nI_1]
      have hlt : B i &&& M < 4096 := Nat.lt_of_le_of_lt Nat.and_le_right hM
      have hnx := ih (i + 1) k (by omega) (by omega)
      rw [cB] at hnx
      by_cases z : B i &&& M = M
      · rw [if_pos (by rw [z])]
        rw [if_pos (decide_eq_true z)] at hnx
        exact hnx
      · rw [if_neg (fun q => z (nI_inj (by omega) (by omega) q))]
        rw [if_neg (by rw [decide_eq_true_eq]; exact z), Nat.add_zero] at hnx
        exact hnx
  exact main nl 0 n (by omega) (by omega)
theorem and_1 (B i : Nat) : (B &&& 2 ^ i = 2 ^ i) ↔ B.testBit i = true := by
  constructor
  · intro h
    have := congrArg (fun z => Nat.testBit z i) h
    simp only [Nat.testBit_and, Nat.testBit_two_pow] at this
    simpa using this
  · intro h
    refine Nat.eq_of_testBit_eq (fun j => ?_)
    rw [Nat.testBit_and, Nat.testBit_two_pow]
    by_cases e : i = j
    · subst e
      rw [h]; rfl
    · rw [decide_eq_false e, Bool.and_false]
theorem and_2 (B i j : Nat) : (B &&& (2 ^ i ||| 2 ^ j) = (2 ^ i ||| 2 ^ j)) ↔ (B.testBit i = true ∧ B.testBit j = true) := by
  constructor
  · intro h
    constructor
    · have := congrArg (fun z => Nat.testBit z i) h
      simp only [Nat.testBit_and, Nat.testBit_or, Nat.testBit_two_pow] at this
      simpa using this
    · have := congrArg (fun z => Nat.testBit z j) h
      simp only [Nat.testBit_and, Nat.testBit_or, Nat.testBit_two_pow] at this
      simpa using this
  · rintro ⟨h1, h2⟩
    refine Nat.eq_of_testBit_eq (fun k => ?_)
    rw [Nat.testBit_and, Nat.testBit_or, Nat.testBit_two_pow, Nat.testBit_two_pow]
    by_cases e : i = k
    · subst e
      rw [h1]; simp
    · by_cases e2 : j = k
      · subst e2
        rw [h2]; simp
      · rw [decide_eq_false e, decide_eq_false e2]; simp
/-- how many falls a cry has -/
def hM (P : LwP) (V : Nat → Nat → Int32) (nf nl nc i : Nat) : Nat := cB (fun f => (BtF P V nf nc f).testBit i) nl
theorem c_had {n : Nat} (hn : 5000 < n) {c : St} {nf nl nc : Nat} {V : Nat → Nat → Int32} {P : LwP} (hl : gI c 1 2 = nI nl) (hb : VB nf nl nc V) (hB : ∀ f, f < nl → gI c 26 f = nI (BtF P V nf nc f)) {i : Nat} (hi : i < 12) : fX6_fallsHadBy n c ((1 : Int32) <<< (nI i &&& 31)) = some (nI (hM P V nf nl nc i)) := by
  rw [shl_1b (by omega), c_fhb hn hl hb.2.1 hB (fun f => BtF_lt hb.2.2.1 P V nf f) (Nat.pow_lt_pow_right (n := 12) (by omega) hi)]
  unfold hM
  congr 2
  refine cB_c nl (fun f hf => ?_)
  by_cases z : (BtF P V nf nc f).testBit i = true
  · rw [z, decide_eq_true ((and_1 _ _).mpr z)]
  · rw [eq_false_of_ne_true z, decide_eq_false (fun q => z ((and_1 _ _).mp q))]
/-- the bits of a fall, reference -/
theorem d_hv {n : Nat} (hn : 5000 < n) {d : St} {nf nl nc : Nat} {V : Nat → Nat → Int32} {P : LwP} (hv : VD d nf nl nc V P) (hb : VB nf nl nc V) {f : Nat} (hf : f < nl) : ∃ d', fX12_haveIt n d (nI f) = some (nI (BtF P V nf nc f), d') ∧ Q2d d d' := by
  obtain ⟨x, y, m, hx, hy, hm, v6, v7, v8⟩ := fall_nat hb hf
  obtain ⟨d', e1, e2⟩ := d_haveIt hn hv hb (FD_of hv hb hf hx hy v6 v7)
  unfold BtF
  rw [owF_eq hx hy v6 v7]
  exact ⟨d', e1, e2⟩
theorem bit_1 {F j : Nat} : (bit F j = 1) ↔ F.testBit j = true := by
  unfold bit
  cases h : F.testBit j with
  | true => simp
  | false => simp
theorem d_hasMany {n : Nat} (hn : 5000 < n) {d : St} {nf nl nc : Nat} {V : Nat → Nat → Int32} {P : LwP} (hv : VD d nf nl nc V P) (hb : VB nf nl nc V) {i : Nat} (hi : i < 12) : ∃ d', fX12_hasMany n d (nI i) = some (nI (hM P V nf nl nc i), d') ∧ Q2d d d' := by
  have h10 := hb.2.1
  have main : ∀ (r f k : Nat) (d : St), f + r = nl → r < k → VD d nf nl nc V P → ∃ d', fX12_hasMany_4 n k d (nI i) (nI (cB (fun f => (BtF P V nf nc f).testBit i) f)) (nI f) = some (nI (hM P V nf nl nc i), d') ∧ Q2d d d' := by
    intro r
    induction r with
    | zero =>
      intro f k d hf hk hv
      obtain ⟨k, rfl⟩ : ∃ k', k = k' + 1 := ⟨k - 1, by omega⟩
      rw [fX12_hasMany_4, hv.2.1, if_pos (nI_le (by omega) (by omega)), show f = nl by omega]
      exact ⟨d, rfl, Q2d_rf d⟩
    | succ r ih =>
      intro f k d hf hk hv
      obtain ⟨k, rfl⟩ : ∃ k', k = k' + 1 := ⟨k - 1, by omega⟩
      obtain ⟨d1, e1, e2⟩ := d_hv hn hv hb (show f < nl by omega)
      rw [fX12_hasMany_4, hv.2.1, if_neg (nI_ge (by omega) (by omega)), e1, Option.bind_some]
      simp only [bnd_x, nI_1]
      rw [bit_at (by have := BtF_lt hb.2.2.1 P V nf f; omega) (by omega)]
      obtain ⟨d', f1, f2⟩ := ih (f + 1) k d1 (by omega) (by omega) (VD_Q hv (Q2d_q e2))
      refine ⟨d', ?_, Q2d_tr e2 f2⟩
      rw [← f1, cB]
      congr 1
      show nI (cB (fun f => (BtF P V nf nc f).testBit i) f) + bit (BtF P V nf nc f) i = nI (cB (fun f => (BtF P V nf nc f).testBit i) f + (if (BtF P V nf nc f).testBit i = true then 1 else 0))
      rw [← nI_add]
      congr 1
      unfold bit
      split <;> rfl
  exact main nl 0 n d (by omega) (by omega) hv
/-- the busiest: which and how many -/
def bsy (h : Nat → Nat) : Nat → Int32 × Nat
  | 0 => (-2, 0)
  | n + 1 => if h n ≤ (bsy h n).2 then bsy h n else (nI n, h n)
theorem bsy_all (h : Nat → Nat) : ∀ n, ((bsy h n).1 = -2 ∧ (bsy h n).2 = 0) ∨ ∃ i, i < n ∧ (bsy h n).1 = nI i ∧ (bsy h n).2 = h i := by
  intro n
  induction n with
  | zero => exact Or.inl ⟨rfl, rfl⟩
  | succ n ih =>
    rw [bsy]
    by_cases z : h n ≤ (bsy h n).2
    · rw [if_pos z]
      rcases ih with q | ⟨i, hi, q⟩
      · exact Or.inl q
      · exact Or.inr ⟨i, by omega, q⟩
    · rw [if_neg z]
      exact Or.inr ⟨n, by omega, rfl, rfl⟩
theorem bsy_le (h : Nat → Nat) (N : Nat) (hN : ∀ i, h i ≤ N) (n : Nat) : (bsy h n).2 ≤ N := by
  rcases bsy_all h n with q | ⟨i, hi, q1, q2⟩
  · omega
  · rw [q2]; exact hN i
theorem hM_le (P : LwP) (V : Nat → Nat → Int32) (nf nl nc i : Nat) : hM P V nf nl nc i ≤ nl := cB_le _ _
theorem c_busy {n : Nat} (hn : 5000 < n) {c : St} {nf nl nc : Nat} {V : Nat → Nat → Int32} {P : LwP} (hv : VC c nf nl nc V P) (hb : VB nf nl nc V) (hB : ∀ f, f < nl → gI c 26 f = nI (BtF P V nf nc f)) : fX6_busiest_11 n n c (-2) 0 0 = some ((bsy (hM P V nf nl nc) nc).1, c) := by
  have h12 := hb.2.2.1
  have h10 := hb.2.1
  have main : ∀ (r i k : Nat), i + r = nc → r < k → fX6_busiest_11 n k c (bsy (hM P V nf nl nc) i).1 (nI (bsy (hM P V nf nl nc) i).2) (nI i) = some ((bsy (hM P V nf nl nc) nc).1, c) := by
    intro r
    induction r with
    | zero =>
      intro i k hi hk
      obtain ⟨k, rfl⟩ : ∃ k', k = k' + 1 := ⟨k - 1, by omega⟩
      rw [fX6_busiest_11, hv.2.2.1, if_pos (nI_le (by omega) (by omega)), show i = nc by omega]
    | succ r ih =>
      intro i k hi hk
      obtain ⟨k, rfl⟩ : ∃ k', k = k' + 1 := ⟨k - 1, by omega⟩
      have l1 := hM_le P V nf nl nc i
      have l2 := bsy_le (hM P V nf nl nc) nl (fun i => hM_le P V nf nl nc i) i
      rw [fX6_busiest_11, hv.2.2.1, if_neg (nI_ge (by omega) (by omega)), c_had hn hv.2.1 hb hB (show i < 12 by omega), Option.bind_some]
      simp only [bnd_x, nI_1]
      have hnx := ih (i + 1) k (by omega) (by omega)
      rw [bsy] at hnx
      by_cases z : hM P V nf nl nc i ≤ (bsy (hM P V nf nl nc) i).2
      · rw [if_pos (nI_le z (by omega))]
        rw [if_pos z] at hnx
        exact hnx
      · rw [if_neg (nI_ge (by omega) (by omega))]
        rw [if_neg z] at hnx
        exact hnx
  exact main nc 0 n (by omega) (by omega)
theorem d_busy {n : Nat} (hn : 5000 < n) {d : St} {nf nl nc : Nat} {V : Nat → Nat → Int32} {P : LwP} (hv : VD d nf nl nc V P) (hb : VB nf nl nc V) (v1 : Int32) : ∃ d', fX12_busiest n d v1 = some (if v1 = 0 then (bsy (hM P V nf nl nc) nc).1 else nI (bsy (hM P V nf nl nc) nc).2, d') ∧ Q2d d d' := by
  have h12 := hb.2.2.1
  have h10 := hb.2.1
  have main : ∀ (r i k : Nat) (d : St), i + r = nc → r < k → VD d nf nl nc V P → ∃ d', fX12_busiest_8 n k d v1 (bsy (hM P V nf nl nc) i).1 (nI (bsy (hM P V nf nl nc) i).2) (nI i) = some (if v1 = 0 then (bsy (hM P V nf nl nc) nc).1 else nI (bsy (hM P V nf nl nc) nc).2, d') ∧ Q2d d d' := by
    intro r
    induction r with
    | zero =>
      intro i k d hi hk hv
      obtain ⟨k, rfl⟩ : ∃ k', k = k' + 1 := ⟨k - 1, by omega⟩
      rw [fX12_busiest_8, hv.2.2.1, if_pos (nI_le (by omega) (by omega)), show i = nc by omega]
      refine ⟨d, ?_, Q2d_rf d⟩
      split <;> rfl
    | succ r ih =>
      intro i k d hi hk hv
      obtain ⟨k, rfl⟩ : ∃ k', k = k' + 1 := ⟨k - 1, by omega⟩
      have l1 := hM_le P V nf nl nc i
      have l2 := bsy_le (hM P V nf nl nc) nl (fun i => hM_le P V nf nl nc i) i
      obtain ⟨d1, e1, e2⟩ := d_hasMany hn hv hb (show i < 12 by omega)
      rw [fX12_busiest_8, hv.2.2.1, if_neg (nI_ge (by omega) (by omega)), e1, Option.bind_some]
      simp only [bnd_x, nI_1]
      obtain ⟨d', f1, f2⟩ := ih (i + 1) k d1 (by omega) (by omega) (VD_Q hv (Q2d_q e2))
      refine ⟨d', ?_, Q2d_tr e2 f2⟩
      rw [bsy] at f1
      by_cases z : hM P V nf nl nc i ≤ (bsy (hM P V nf nl nc) i).2
      · rw [if_neg (nI_nlt z (by omega))]
        rw [if_pos z] at f1
        exact f1
      · rw [if_pos (nI_lt (by omega) (by omega))]
        rw [if_neg z] at f1
        exact f1
  exact main nc 0 n d (by omega) (by omega) hv
