/-- two cries that both have a fall -/
def both2 (P : LwP) (V : Nat → Nat → Int32) (nf nl nc a b : Nat) : Nat := cB (fun f => (BtF P V nf nc f).testBit a && (BtF P V nf nc f).testBit b) nl
def qtst (P : LwP) (V : Nat → Nat → Int32) (nf nl nc a b : Nat) : Bool := !decide (V 10 a = V 10 b) && decide (0 < both2 P V nf nl nc a b)
def qrI (t : Nat → Nat → Bool) (a : Nat) : Nat → Nat → Option Int32
  | 0, _ => none
  | r + 1, b => if t a b = true then some (nI (100 * a + b)) else qrI t a r (b + 1)
def qrO (t : Nat → Nat → Bool) (nc : Nat) : Nat → Nat → Int32
  | 0, _ => -2
  | r + 1, a => match qrI t a (nc - (a + 1)) (a + 1) with
    | some v => v
    | none => qrO t nc r (a + 1)
theorem c_both {n : Nat} (hn : 5000 < n) {c : St} {nf nl nc : Nat} {V : Nat → Nat → Int32} {P : LwP} (hl : gI c 1 2 = nI nl) (hb : VB nf nl nc V) (hB : ∀ f, f < nl → gI c 26 f = nI (BtF P V nf nc f)) {a b : Nat} (ha : a < 12) (hb2 : b < 12) : fX6_fallsHadBy n c (((1 : Int32) <<< (nI a &&& 31)) ||| ((1 : Int32) <<< (nI b &&& 31))) = some (nI (both2 P V nf nl nc a b)) := by
  have hM : 2 ^ a ||| 2 ^ b < 4096 := Nat.or_lt_two_pow (n := 12) (Nat.pow_lt_pow_right (by omega) ha) (Nat.pow_lt_pow_right (by omega) hb2)
  rw [shl_1b (by omega), shl_1b (by omega), or_nI, c_fhb hn hl hb.2.1 hB (fun f => BtF_lt hb.2.2.1 P V nf f) hM]
  unfold both2
  congr 2
  refine cB_c nl (fun f hf => ?_)
  by_cases z : (BtF P V nf nc f).testBit a = true ∧ (BtF P V nf nc f).testBit b = true
  · rw [z.1, z.2, decide_eq_true ((and_2 _ _ _).mpr z)]; rfl
  · rw [decide_eq_false (fun q => z ((and_2 _ _ _).mp q))]
    cases h1 : (BtF P V nf nc f).testBit a with
    | false => rfl
    | true =>
      cases h2 : (BtF P V nf nc f).testBit b with
      | false => rfl
      | true => exact absurd ⟨h1, h2⟩ z
theorem c_qrI {n : Nat} (hn : 5000 < n) {c : St} {nf nl nc : Nat} {V : Nat → Nat → Int32} {P : LwP} (hv : VC c nf nl nc V P) (hb : VB nf nl nc V) (hB : ∀ f, f < nl → gI c 26 f = nI (BtF P V nf nc f)) (kB : St → Int32 → Option (Int32 × St)) {a : Nat} (ha : a < nc) : ∀ (r b k : Nat), b + r = nc → r < k → fX6_quarrel_21 kB n k c (nI a) (nI b) = match qrI (qtst P V nf nl nc) a r b with
    | some v => some (v, c)
    | none => kB c (nI (a + 1)) := by
  have h12 := hb.2.2.1
  have h10 := hb.2.1
  intro r
  induction r with
  | zero =>
    intro b k hbr hk
    obtain ⟨k, rfl⟩ : ∃ k', k = k' + 1 := ⟨k - 1, by omega⟩
    rw [fX6_quarrel_21, hv.2.2.1, if_pos (nI_le (by omega) (by omega)), bnd_x, nI_1]
    rfl
  | succ r ih =>
    intro b k hbr hk
    obtain ⟨k, rfl⟩ : ∃ k', k = k' + 1 := ⟨k - 1, by omega⟩
    have ga : gI c 13 a = V 10 a := hv.2.2.2.1 10 a (by omega) (by omega)
    have gb : gI c 13 b = V 10 b := hv.2.2.2.1 10 b (by omega) (by omega)
    rw [fX6_quarrel_21, hv.2.2.1, if_neg (nI_ge (by omega) (by omega)), inB_t (show a < 13 by omega) (by omega), inB_t (show b < 13 by omega) (by omega), gd_true, gd_true, nIc (by omega), nIc (by omega), ga, gb, qrI]
    have hnx := ih (b + 1) k (by omega) (by omega)
    have hle : both2 P V nf nl nc a b ≤ nl := cB_le _ _
    unfold fX6_quarrel_64
    by_cases z : V 10 a = V 10 b
    · have e : qtst P V nf nl nc a b = false := by unfold qtst; rw [decide_eq_true z]; rfl
      rw [if_pos z, if_pos rfl, bnd_x, nI_1, e, if_neg (by decide)]
      exact hnx
    · rw [if_neg z, if_neg (show ¬ (1 : Int32) = 0 by decide), c_both hn hv.2.1 hb hB (show a < 12 by omega) (show b < 12 by omega), Option.bind_some]
      by_cases z2 : 0 < both2 P V nf nl nc a b
      · have e : qtst P V nf nl nc a b = true := by unfold qtst; rw [decide_eq_false z, decide_eq_true z2]; rfl
        rw [if_neg (nI_nle z2 (by omega)), e, if_pos rfl, show (100 : Int32) = nI 100 from rfl, pk_mul, nI_add]
      · have e : qtst P V nf nl nc a b = false := by unfold qtst; rw [decide_eq_false z2, Bool.and_false]
        rw [show both2 P V nf nl nc a b = 0 by omega, if_pos (show nI 0 ≤ 0 from i32_rf _), bnd_x, nI_1, e, if_neg (by decide)]
        exact hnx
theorem c_qrO {n : Nat} (hn : 5000 < n) {c : St} {nf nl nc : Nat} {V : Nat → Nat → Int32} {P : LwP} (hv : VC c nf nl nc V P) (hb : VB nf nl nc V) (hB : ∀ f, f < nl → gI c 26 f = nI (BtF P V nf nc f)) : ∀ (r a k : Nat), a + r = nc → r < k → fX6_quarrel_6 n k c (nI a) = some (qrO (qtst P V nf nl nc) nc r a, c) := by
  have h12 := hb.2.2.1
  intro r
  induction r with
  | zero =>
    intro a k hbr hk
    obtain ⟨k, rfl⟩ : ∃ k', k = k' + 1 := ⟨k - 1, by omega⟩
    rw [fX6_quarrel_6, hv.2.2.1, if_pos (nI_le (by omega) (by omega))]
    rfl
  | succ r ih =>
    intro a k hbr hk
    obtain ⟨k, rfl⟩ : ∃ k', k = k' + 1 := ⟨k - 1, by omega⟩
    rw [fX6_quarrel_6, hv.2.2.1, if_neg (nI_ge (by omega) (by omega)), bnd_x, nI_1, c_qrI hn hv hb hB (fX6_quarrel_6 n k) (show a < nc by omega) (nc - (a + 1)) (a + 1) n (by omega) (by omega), qrO]
    cases qrI (qtst P V nf nl nc) a (nc - (a + 1)) (a + 1) with
    | some v => rfl
    | none => exact ih (a + 1) k (by omega) (by omega)
theorem d_both {n : Nat} (hn : 5000 < n) {d : St} {nf nl nc : Nat} {V : Nat → Nat → Int32} {P : LwP} (hv : VD d nf nl nc V P) (hb : VB nf nl nc V) {a b : Nat} (ha : a < 12) (hb2 : b < 12) : ∃ d', fX12_haveBoth n d (nI a) (nI b) = some (decide (0 < both2 P V nf nl nc a b), d') ∧ Q2d d d' := by
  have h10 := hb.2.1
  have main : ∀ (r f k : Nat) (d : St), f + r = nl → r < k → VD d nf nl nc V P → cB (fun f => (BtF P V nf nc f).testBit a && (BtF P V nf nc f).testBit b) f = 0 → ∃ d', fX12_haveBoth_2 n k d (nI a) (nI b) (nI f) = some (decide (0 < both2 P V nf nl nc a b), d') ∧ Q2d d d' := by
    intro r
    induction r with
    | zero =>
      intro f k d hf hk hv h0
      obtain ⟨k, rfl⟩ : ∃ k', k = k' + 1 := ⟨k - 1, by omega⟩
      rw [fX12_haveBoth_2, hv.2.1, if_pos (nI_le (by omega) (by omega))]
      refine ⟨d, ?_, Q2d_rf d⟩
      unfold both2
      rw [show nl = f by omega, h0]
      rfl
    | succ r ih =>
      intro f k d hf hk hv h0
      obtain ⟨k, rfl⟩ : ∃ k', k = k' + 1 := ⟨k - 1, by omega⟩
      obtain ⟨d1, e1, e2⟩ := d_hv hn hv hb (show f < nl by omega)
      have hlt := BtF_lt hb.2.2.1 P V nf f
      rw [fX12_haveBoth_2, hv.2.1, if_neg (nI_ge (by omega) (by omega)), e1, Option.bind_some]
      simp only [bnd_x, nI_1]
      rw [bit_at (by omega) (by omega), bit_at (by omega) (by omega)]
      have go : ¬ ((BtF P V nf nc f).testBit a = true ∧ (BtF P V nf nc f).testBit b = true) → ∃ d', fX12_haveBoth_2 n k d1 (nI a) (nI b) (nI (f + 1)) = some (decide (0 < both2 P V nf nl nc a b), d') ∧ Q2d d d' := by
        intro hno
        obtain ⟨d', f1, f2⟩ := ih (f + 1) k d1 (by omega) (by omega) (VD_Q hv (Q2d_q e2)) (by
          rw [cB, h0, if_neg (by rw [Bool.and_eq_true]; exact hno)])
        exact ⟨d', f1, Q2d_tr e2 f2⟩
      by_cases z1 : (BtF P V nf nc f).testBit a = true
      · rw [if_pos (bit_1.mpr z1)]
        by_cases z2 : (BtF P V nf nc f).testBit b = true
        · rw [if_pos (bit_1.mpr z2)]
          refine ⟨d1, ?_, e2⟩
          have hpos : 0 < both2 P V nf nl nc a b := (cB_pos (fun f => (BtF P V nf nc f).testBit a && (BtF P V nf nc f).testBit b) nl).mpr ⟨f, by omega, by show ((BtF P V nf nc f).testBit a && (BtF P V nf nc f).testBit b) = true; rw [z1, z2]; rfl⟩
          rw [decide_eq_true hpos]
        · rw [if_neg (fun q => z2 (bit_1.mp q))]
          exact go (fun q => z2 q.2)
      · rw [if_neg (fun q => z1 (bit_1.mp q))]
        exact go (fun q => z1 q.1)
  exact main nl 0 n d (by omega) (by omega) hv rfl
theorem d_qrI {n : Nat} (hn : 5000 < n) {nf nl nc : Nat} {V : Nat → Nat → Int32} {P : LwP} (hb : VB nf nl nc V) (kB : St → Int32 → Option (Int32 × St)) {a : Nat} (ha : a < nc) : ∀ (r b k : Nat) (d : St), b + r = nc → r < k → VD d nf nl nc V P → ∃ d', Q2d d d' ∧ fX12_quarrel_14 kB n k d (nI a) (nI b) = match qrI (qtst P V nf nl nc) a r b with
    | some v => some (v, d')
    | none => kB d' (nI (a + 1)) := by
  have h12 := hb.2.2.1
  have h10 := hb.2.1
  intro r
  induction r with
  | zero =>
    intro b k d hbr hk hv
    obtain ⟨k, rfl⟩ : ∃ k', k = k' + 1 := ⟨k - 1, by omega⟩
    rw [fX12_quarrel_14, hv.2.2.1, if_pos (nI_le (by omega) (by omega)), bnd_x, nI_1]
    exact ⟨d, Q2d_rf d, rfl⟩
  | succ r ih =>
    intro b k d hbr hk hv
    obtain ⟨k, rfl⟩ : ∃ k', k = k' + 1 := ⟨k - 1, by omega⟩
    have hct : ∀ i, i < nc → i < ct nf nl nc 10 := fun i hi => by unfold ct; rw [if_neg (by omega), if_neg (by omega)]; exact hi
    have ga : gI d 11 a = V 10 a := hv.2.2.2.1 10 a (by omega) (hct a (by omega))
    have gb : gI d 11 b = V 10 b := hv.2.2.2.1 10 b (by omega) (hct b (by omega))
    rw [fX12_quarrel_14, hv.2.2.1, if_neg (nI_ge (by omega) (by omega)), inB_t (show a < 13 by omega) (by omega), inB_t (show b < 13 by omega) (by omega), gd_true, gd_true, nIc (by omega), nIc (by omega), ga, gb, qrI]
    by_cases z : V 10 a = V 10 b
    · have e : qtst P V nf nl nc a b = false := by unfold qtst; rw [decide_eq_true z]; rfl
      rw [if_pos z, bnd_x, nI_1, e, if_neg (by decide)]
      exact ih (b + 1) k d (by omega) (by omega) hv
    · rw [if_neg z]
      obtain ⟨d1, e1, e2⟩ := d_both hn hv hb (show a < 12 by omega) (show b < 12 by omega)
      rw [e1, Option.bind_some]
      by_cases z2 : 0 < both2 P V nf nl nc a b
      · have e : qtst P V nf nl nc a b = true := by unfold qtst; rw [decide_eq_false z, decide_eq_true z2]; rfl
        rw [decide_eq_true z2, if_neg (show ¬ bI true = 0 by decide), e, if_pos rfl, show (100 : Int32) = nI 100 from rfl, pk_mul, nI_add]
        exact ⟨d1, e2, rfl⟩
      · have e : qtst P V nf nl nc a b = false := by unfold qtst; rw [decide_eq_false z2, Bool.and_false]
        rw [decide_eq_false z2, if_pos (show bI false = 0 from rfl), bnd_x, nI_1, e, if_neg (by decide)]
        obtain ⟨d', f1, f2⟩ := ih (b + 1) k d1 (by omega) (by omega) (VD_Q hv (Q2d_q e2))
        exact ⟨d', Q2d_tr e2 f1, f2⟩
theorem d_qrO {n : Nat} (hn : 5000 < n) {nf nl nc : Nat} {V : Nat → Nat → Int32} {P : LwP} (hb : VB nf nl nc V) : ∀ (r a k : Nat) (d : St), a + r = nc → r < k → VD d nf nl nc V P → ∃ d', Q2d d d' ∧ fX12_quarrel_2 n k d (nI a) = some (qrO (qtst P V nf nl nc) nc r a, d') := by
  have h12 := hb.2.2.1
  intro r
  induction r with
  | zero =>
    intro a k d hbr hk hv
    obtain ⟨k, rfl⟩ : ∃ k', k = k' + 1 := ⟨k - 1, by omega⟩
    rw [fX12_quarrel_2, hv.2.2.1, if_pos (nI_le (by omega) (by omega))]
    exact ⟨d, Q2d_rf d, rfl⟩
  | succ r ih =>
    intro a k d hbr hk hv
    obtain ⟨k, rfl⟩ : ∃ k', k = k' + 1 := ⟨k - 1, by omega⟩
    obtain ⟨d1, e1, e2⟩ := d_qrI (n := n) hn hb (P := P) (fX12_quarrel_2 n k) (show a < nc by omega) (nc - (a + 1)) (a + 1) n d (by omega) (by omega) hv
    rw [fX12_quarrel_2, hv.2.2.1, if_neg (nI_ge (by omega) (by omega)), bnd_x, nI_1, e2, qrO]
    cases qrI (qtst P V nf nl nc) a (nc - (a + 1)) (a + 1) with
    | some v => exact ⟨d1, e1, rfl⟩
    | none =>
      obtain ⟨d', f1, f2⟩ := ih (a + 1) k d1 (by omega) (by omega) (VD_Q hv (Q2d_q e1))
      exact ⟨d', Q2d_tr e1 f1, f2⟩
/-- cries that have no fall -/
def idl (h : Nat → Nat) : Nat → Nat
  | 0 => 0
  | n + 1 => if h n = 0 then idl h n ||| 2 ^ n else idl h n
theorem idl_t (h : Nat → Nat) : ∀ n i, (idl h n).testBit i = decide (i < n ∧ h i = 0) := by
  intro n
  induction n with
  | zero => intro i; rw [idl, Nat.zero_testBit, decide_eq_false (by omega)]
  | succ n ih =>
    intro i
    rw [idl]
    by_cases z : h n = 0
    · rw [if_pos z, Nat.testBit_or, Nat.testBit_two_pow, ih]
      by_cases e : n = i
      · subst e
        rw [decide_eq_true (p := n = n) rfl, Bool.or_true, decide_eq_true ⟨by omega, z⟩]
      · rw [decide_eq_false e, Bool.or_false]
        by_cases q : i < n ∧ h i = 0
        · rw [decide_eq_true q, decide_eq_true ⟨by omega, q.2⟩]
        · rw [decide_eq_false q, decide_eq_false (fun w => q ⟨by omega, w.2⟩)]
    · rw [if_neg z, ih]
      by_cases q : i < n ∧ h i = 0
      · rw [decide_eq_true q, decide_eq_true ⟨by omega, q.2⟩]
      · rw [decide_eq_false q, decide_eq_false (fun w => q (by
          by_cases e : i = n
          · subst e; exact absurd w.2 z
          · exact ⟨by omega, w.2⟩))]
theorem c_idle {n : Nat} (hn : 5000 < n) {c : St} {nf nl nc : Nat} {V : Nat → Nat → Int32} {P : LwP} (hv : VC c nf nl nc V P) (hb : VB nf nl nc V) (hB : ∀ f, f < nl → gI c 26 f = nI (BtF P V nf nc f)) : fX6_idle_8 n n c 0 0 = some (nI (idl (hM P V nf nl nc) nc), c) := by
  have h12 := hb.2.2.1
  have h10 := hb.2.1
  have main : ∀ (r i k : Nat), i + r = nc → r < k → fX6_idle_8 n k c (nI (idl (hM P V nf nl nc) i)) (nI i) = some (nI (idl (hM P V nf nl nc) nc), c) := by
    intro r
    induction r with
    | zero =>
      intro i k hi hk
      obtain ⟨k, rfl⟩ : ∃ k', k = k' + 1 := ⟨k - 1, by omega⟩
      rw [fX6_idle_8, hv.2.2.1, if_pos (nI_le (by omega) (by omega)), show i = nc by omega]
    | succ r ih =>
      intro i k hi hk
      obtain ⟨k, rfl⟩ : ∃ k', k = k' + 1 := ⟨k - 1, by omega⟩
      have l1 := hM_le P V nf nl nc i
      rw [fX6_idle_8, hv.2.2.1, if_neg (nI_ge (by omega) (by omega)), c_had hn hv.2.1 hb hB (show i < 12 by omega), Option.bind_some]
      simp only [bnd_x, nI_1, shl_1b (show i < 31 by omega), or_nI]
      have hnx := ih (i + 1) k (by omega) (by omega)
      rw [idl] at hnx
      by_cases z : hM P V nf nl nc i = 0
      · rw [z, if_pos (show nI 0 = 0 from rfl)]
        rw [if_pos z] at hnx
        exact hnx
      · rw [if_neg (nI_ne0 (by omega) (by omega))]
        rw [if_neg z] at hnx
        exact hnx
  exact main nc 0 n (by omega) (by omega)
theorem xor_nI (a b : Nat) : nI a ^^^ nI b = nI (a ^^^ b) := by
  apply Int32.toBitVec_inj.1
  show BitVec.ofNat 32 a ^^^ BitVec.ofNat 32 b = BitVec.ofNat 32 (a ^^^ b)
  apply BitVec.eq_of_getLsbD_eq
  intro i hi
  simp [hi]
theorem and_not {X B : Nat} (hX : X < 4096) (hB : B < 4096) : nI X &&& (nI B ^^^ (-1 : Int32)) = nI (X &&& (B ^^^ 4294967295)) := by
  rw [show (-1 : Int32) = nI 4294967295 from rfl, xor_nI, and_nI]
theorem d_idle {n : Nat} (hn : 5000 < n) {nf nl nc : Nat} {V : Nat → Nat → Int32} {P : LwP} (hb : VB nf nl nc V) : ∀ (r f k X : Nat) (d : St), f + r = nl → r < k → VD d nf nl nc V P → X < 4096 → (∀ i, X.testBit i = decide (i < nc ∧ cB (fun f => (BtF P V nf nc f).testBit i) f = 0)) → ∃ d', Q2d d d' ∧ fX12_who_69 n k d (nI X) (nI f) = some (nI (idl (hM P V nf nl nc) nc), d') := by
  have h12 := hb.2.2.1
  have h10 := hb.2.1
  intro r
  induction r with
  | zero =>
    intro f k X d hf hk hv hX ht
    obtain ⟨k, rfl⟩ : ∃ k', k = k' + 1 := ⟨k - 1, by omega⟩
    rw [fX12_who_69, hv.2.1, if_pos (nI_le (by omega) (by omega))]
    have e : f = nl := by omega
    subst e
    refine ⟨d, Q2d_rf d, ?_⟩
    rw [show X = idl (hM P V nf f nc) nc from Nat.eq_of_testBit_eq (fun i => by rw [ht, idl_t]; rfl)]
  | succ r ih =>
    intro f k X d hf hk hv hX ht
    obtain ⟨k, rfl⟩ : ∃ k', k = k' + 1 := ⟨k - 1, by omega⟩
    obtain ⟨d1, e1, e2⟩ := d_hv hn hv hb (show f < nl by omega)
    have hlt := BtF_lt hb.2.2.1 P V nf f
    rw [fX12_who_69, hv.2.1, if_neg (nI_ge (by omega) (by omega)), e1, Option.bind_some, bnd_x, bnd_x, nI_1, and_not hX hlt]
    obtain ⟨d', f1, f2⟩ := ih (f + 1) k (X &&& (BtF P V nf nc f ^^^ 4294967295)) d1 (by omega) (by omega) (VD_Q hv (Q2d_q e2)) (Nat.lt_of_le_of_lt Nat.and_le_left hX) (fun i => by
      rw [Nat.testBit_and, Nat.testBit_xor, ht, cB]
      rw [show (4294967295 : Nat) = 2 ^ 32 - 1 from rfl, Nat.testBit_two_pow_sub_one]
      by_cases hi : i < nc
      · rw [decide_eq_true (show i < 32 by omega)]
        cases hq : (BtF P V nf nc f).testBit i with
        | true =>
          rw [if_pos rfl]
          rw [show (true ^^ true) = false from rfl, Bool.and_false, decide_eq_false (by omega)]
        | false =>
          rw [if_neg (by decide), Nat.add_zero]
          rw [show (false ^^ true) = true from rfl, Bool.and_true]
      · rw [decide_eq_false (fun q => hi q.1), Bool.false_and, decide_eq_false (fun q => hi q.1)])
    exact ⟨d', Q2d_tr e2 f1, f2⟩
/-- who cried at all -/
def crd (V : Nat → Nat → Int32) (nc p : Nat) : Bool := decide (0 < cB (fun i => decide (V 10 i = nI p)) nc)
theorem c_cried {n : Nat} (hn : 5000 < n) {c : St} {nf nl nc : Nat} {V : Nat → Nat → Int32} {P : LwP} (hv : VC c nf nl nc V P) (hb : VB nf nl nc V) (p : Nat) : fX6_cried n c (nI p) = some (crd V nc p) := by
  have h12 := hb.2.2.1
  have main : ∀ (r i k : Nat), i + r = nc → r < k → cB (fun i => decide (V 10 i = nI p)) i = 0 → fX6_cried_2 n c k (nI p) (nI i) = some (crd V nc p) := by
    intro r
    induction r with
    | zero =>
      intro i k hi hk h0
      obtain ⟨k, rfl⟩ : ∃ k', k = k' + 1 := ⟨k - 1, by omega⟩
      rw [fX6_cried_2, hv.2.2.1, if_pos (nI_le (by omega) (by omega))]
      unfold crd
      rw [show nc = i by omega, h0]
      rfl
    | succ r ih =>
      intro i k hi hk h0
      obtain ⟨k, rfl⟩ : ∃ k', k = k' + 1 := ⟨k - 1, by omega⟩
      rw [fX6_cried_2, hv.2.2.1, if_neg (nI_ge (by omega) (by omega)), inB_t (show i < 13 by omega) (by omega), gd_true, nIc (by omega), show gI c 13 i = V 10 i from hv.2.2.2.1 10 i (by omega) (by omega), bnd_x, nI_1]
      by_cases z : V 10 i = nI p
      · rw [if_pos z]
        have hpos : 0 < cB (fun i => decide (V 10 i = nI p)) nc := (cB_pos (fun i => decide (V 10 i = nI p)) nc).mpr ⟨i, by omega, decide_eq_true z⟩
        unfold crd
        rw [decide_eq_true hpos]
      · rw [if_neg z]
        exact ih (i + 1) k (by omega) (by omega) (by rw [cB, h0, if_neg (by rw [decide_eq_true_eq]; exact z)])
  exact main nc 0 n (by omega) (by omega) rfl
theorem d_cried {n : Nat} (hn : 5000 < n) {d : St} {nf nl nc : Nat} {V : Nat → Nat → Int32} {P : LwP} (hv : VD d nf nl nc V P) (hb : VB nf nl nc V) (p : Nat) : fX12_criedAny n d (nI p) = some (crd V nc p) := by
  have h12 := hb.2.2.1
  have main : ∀ (r i k : Nat), i + r = nc → r < k → cB (fun i => decide (V 10 i = nI p)) i = 0 → fX12_criedAny_2 n d k (nI p) (nI i) = some (crd V nc p) := by
    intro r
    induction r with
    | zero =>
      intro i k hi hk h0
      obtain ⟨k, rfl⟩ : ∃ k', k = k' + 1 := ⟨k - 1, by omega⟩
      rw [fX12_criedAny_2, hv.2.2.1, if_pos (nI_le (by omega) (by omega))]
      unfold crd
      rw [show nc = i by omega, h0]
      rfl
    | succ r ih =>
      intro i k hi hk h0
      obtain ⟨k, rfl⟩ : ∃ k', k = k' + 1 := ⟨k - 1, by omega⟩
      rw [fX12_criedAny_2, hv.2.2.1, if_neg (nI_ge (by omega) (by omega)), inB_t (show i < 13 by omega) (by omega), gd_true, nIc (by omega), show gI d 11 i = V 10 i from hv.2.2.2.1 10 i (by omega) (by unfold ct; rw [if_neg (by omega), if_neg (by omega)]; omega), bnd_x, nI_1]
      by_cases z : V 10 i = nI p
      · rw [if_pos z]
        have hpos : 0 < cB (fun i => decide (V 10 i = nI p)) nc := (cB_pos (fun i => decide (V 10 i = nI p)) nc).mpr ⟨i, by omega, decide_eq_true z⟩
        unfold crd
        rw [decide_eq_true hpos]
      · rw [if_neg z]
        exact ih (i + 1) k (by omega) (by omega) (by rw [cB, h0, if_neg (by rw [decide_eq_true_eq]; exact z)])
  exact main nc 0 n (by omega) (by omega) rfl
def ows (V : Nat → Nat → Int32) (nf p : Nat) : Bool := decide (0 < cB (fun i => decide (V 4 i = nI p)) nf)
theorem d_owns {n : Nat} (hn : 5000 < n) {d : St} {nf nl nc : Nat} {V : Nat → Nat → Int32} {P : LwP} (hv : VD d nf nl nc V P) (hb : VB nf nl nc V) (p : Nat) : fX12_owns n d (nI p) = some (ows V nf p) := by
  have h8 := hb.1
  have main : ∀ (r i k : Nat), i + r = nf → r < k → cB (fun i => decide (V 4 i = nI p)) i = 0 → fX12_owns_2 n d k (nI p) (nI i) = some (ows V nf p) := by
    intro r
    induction r with
    | zero =>
      intro i k hi hk h0
      obtain ⟨k, rfl⟩ : ∃ k', k = k' + 1 := ⟨k - 1, by omega⟩
      rw [fX12_owns_2, hv.1, if_pos (nI_le (by omega) (by omega))]
      unfold ows
      rw [show nf = i by omega, h0]
      rfl
    | succ r ih =>
      intro i k hi hk h0
      obtain ⟨k, rfl⟩ : ∃ k', k = k' + 1 := ⟨k - 1, by omega⟩
      rw [fX12_owns_2, hv.1, if_neg (nI_ge (by omega) (by omega)), inB_t (show i < 8 by omega) (by omega), gd_true, nIc (by omega), show gI d 5 i = V 4 i from hv.2.2.2.1 4 i (by omega) (by unfold ct; rw [if_pos (by omega)]; omega), bnd_x, nI_1]
      by_cases z : V 4 i = nI p
      · rw [if_pos z]
        have hpos : 0 < cB (fun i => decide (V 4 i = nI p)) nf := (cB_pos (fun i => decide (V 4 i = nI p)) nf).mpr ⟨i, by omega, decide_eq_true z⟩
        unfold ows
        rw [decide_eq_true hpos]
      · rw [if_neg z]
        exact ih (i + 1) k (by omega) (by omega) (by rw [cB, h0, if_neg (by rw [decide_eq_true_eq]; exact z)])
  exact main nf 0 n (by omega) (by omega) rfl
theorem sR_pos {D : Nat → Nat} {p : Nat} : ∀ r q, 0 < sR D p r q → ∃ z, q ≤ z ∧ z < q + r ∧ 0 < D (6 * p + z) := by
  intro r
  induction r with
  | zero => intro q h; exact absurd h (by show ¬ 0 < 0; omega)
  | succ r ih =>
    intro q h
    rw [sR] at h
    by_cases z : 0 < D (6 * p + q)
    · exact ⟨q, by omega, by omega, z⟩
    · obtain ⟨w, h1, h2, h3⟩ := ih (q + 1) (by omega)
      exact ⟨w, by omega, by omega, h3⟩
theorem DN_pos {P : LwP} {V : Nat → Nat → Int32} {nf nc : Nat} : ∀ n k, 0 < DN P V nf nc n k → ∃ f, f < n ∧ 0 < oweN P V nc (owF V nf f) (V 8 f) (V 9 f) k := by
  intro n
  induction n with
  | zero => intro k h; exact absurd h (by show ¬ 0 < 0; omega)
  | succ n ih =>
    intro k h
    rw [DN] at h
    by_cases z : 0 < oweN P V nc (owF V nf n) (V 8 n) (V 9 n) k
    · exact ⟨n, by omega, z⟩
    · obtain ⟨f, h1, h2⟩ := ih k (by omega)
      exact ⟨f, by omega, h2⟩
/-- who owes something has a field -/
theorem owes_owns {P : LwP} {V : Nat → Nat → Int32} {nf nl nc p : Nat} (hb : VB nf nl nc V) (hp : p < 6) (h : 0 < sR (DN P V nf nc nl) p 6 0) : ows V nf p = true := by
  obtain ⟨z, -, h2, h3⟩ := sR_pos 6 0 h
  obtain ⟨f, hf, h4⟩ := DN_pos _ _ h3
  unfold oweN at h4
  by_cases c : owF V nf f < 0
  · rw [if_pos c] at h4; omega
  rw [if_neg c] at h4
  unfold pyd at h4
  by_cases c2 : (6 * p + z) / 6 = (owF V nf f).toNatClampNeg ∧ ¬ (6 * p + z) % 6 = (owF V nf f).toNatClampNeg
  · have e : p = (owF V nf f).toNatClampNeg := by omega
    unfold owF at c e
    rcases ownV_rng hb (V 6 f).toNatClampNeg (V 7 f).toNatClampNeg with q | ⟨o, ho, q⟩
    · rw [q] at c; exact absurd neg1_lt c
    · rw [q, nIc (by omega)] at e
      subst e
      unfold ownV at q
      cases hfl : fldV V (V 6 f).toNatClampNeg (V 7 f).toNatClampNeg nf 0 with
      | none => rw [hfl] at q; exact absurd q.symm (neg1_nI (by omega))
      | some g =>
        rw [hfl] at q
        have hg := fldV_lt nf 0 g hfl
        have hpos : 0 < cB (fun i => decide (V 4 i = nI p)) nf := (cB_pos (fun i => decide (V 4 i = nI p)) nf).mpr ⟨g, by omega, decide_eq_true q⟩
        exact decide_eq_true hpos
  · rw [if_neg c2] at h4; omega
theorem DN_le {P : LwP} {V : Nat → Nat → Int32} {nf nc : Nat} (hnc : nc ≤ 12) : ∀ n k, DN P V nf nc n k ≤ 200 * n := by
  intro n
  induction n with
  | zero => intro k; exact Nat.le_refl 0
  | succ n ih =>
    intro k
    rw [DN]
    have h1 := ih k
    have h2 : oweN P V nc (owF V nf n) (V 8 n) (V 9 n) k ≤ 200 := by
      unfold oweN
      split
      · omega
      · unfold pyd
        split
        · have q1 : 12 / mn (gA P V (owF V nf n) (V 8 n) (V 9 n)) nc ≤ 12 := Nat.div_le_self _ _
          have q2 : ∀ B b m, cn V B b m ≤ m := by
            intro B b m
            induction m with
            | zero => exact Nat.le_refl 0
            | succ m ih2 => rw [cn]; split <;> omega
          have q3 := Nat.mul_le_mul q1 (Nat.le_trans (q2 (bt (gA P V (owF V nf n) (V 8 n) (V 9 n)) nc) (k % 6) nc) hnc)
          omega
        · omega
    omega
theorem sR_le {D : Nat → Nat} {p N : Nat} (h : ∀ k, D k ≤ N) : ∀ r q, sR D p r q ≤ N * r := by
  intro r
  induction r with
  | zero => intro q; exact Nat.zero_le _
  | succ r ih =>
    intro q
    rw [sR]
    have h1 := ih (q + 1)
    have h2 := h (6 * p + q)
    rw [Nat.mul_succ]
    omega
theorem sC_le {D : Nat → Nat} {p N : Nat} (h : ∀ k, D k ≤ N) : ∀ r q, sC D p r q ≤ N * r := by
  intro r
  induction r with
  | zero => intro q; exact Nat.zero_le _
  | succ r ih =>
    intro q
    rw [sC]
    have h1 := ih (q + 1)
    have h2 := h (6 * q + p)
    rw [Nat.mul_succ]
    omega
def skp (t : Nat → Bool) : Nat → Nat → Int32
  | 0, _ => -2
  | r + 1, p => if t p = true then nI p else skp t r (p + 1)
set_option maxHeartbeats 1000000 in
theorem c_skp {n : Nat} (hn : 5000 < n) {c : St} {nf nl nc : Nat} {V : Nat → Nat → Int32} {P : LwP} (hv : VC c nf nl nc V P) (hb : VB nf nl nc V) (hD : ∀ k, k < 36 → gI c 25 k = nI (DN P V nf nc nl k)) : ∀ (r p k : Nat), p + r = 6 → r < k → fX6_skeptic_6 n k c (nI p) = some (skp (fun p => decide (0 < sR (DN P V nf nc nl) p 6 0) && !crd V nc p) r p, c) := by
  have h10 := hb.2.1
  intro r
  induction r with
  | zero =>
    intro p k hp hk
    obtain ⟨k, rfl⟩ : ∃ k', k = k' + 1 := ⟨k - 1, by omega⟩
    rw [fX6_skeptic_6, if_pos (show (6 : Int32) ≤ nI p from nI_le (a := 6) (by omega) (by omega))]
    rfl
  | succ r ih =>
    intro p k hp hk
    obtain ⟨k, rfl⟩ : ∃ k', k = k' + 1 := ⟨k - 1, by omega⟩
    have hle : sR (DN P V nf nc nl) p 6 0 ≤ 200 * nl * 6 := sR_le (fun k => DN_le hb.2.2.1 nl k) 6 0
    have hnx := ih (p + 1) k (by omega) (by omega)
    rw [fX6_skeptic_6, if_neg (show ¬ (6 : Int32) ≤ nI p from nI_ge (b := 6) (by omega) (by omega)), c_owes hn hD (show p < 6 by omega), Option.bind_some, skp, c_cried hn hv hb p]
    simp only [bnd_x, nI_1, Option.bind_some, if_bI]
    by_cases z : 0 < sR (DN P V nf nc nl) p 6 0
    · rw [if_neg (nI_nle z (by omega)), decide_eq_true z, Bool.true_and]
      cases hcr : crd V nc p with
      | true => exact hnx
      | false => rfl
    · rw [show sR (DN P V nf nc nl) p 6 0 = 0 by omega, if_pos (show nI 0 ≤ 0 from i32_rf _)]
      exact hnx
set_option maxHeartbeats 1000000 in
theorem d_skp {n : Nat} (hn : 5000 < n) {d : St} {nf nl nc : Nat} {V : Nat → Nat → Int32} {P : LwP} (hv : VD d nf nl nc V P) (hb : VB nf nl nc V) (hD : ∀ k, k < 36 → gI d 27 k = nI (DN P V nf nc nl k)) : ∀ (r p k : Nat), p + r = 6 → r < k → fX12_skeptic_6 n k d (nI p) = some (skp (fun p => decide (0 < sR (DN P V nf nc nl) p 6 0) && !crd V nc p) r p, d) := by
  have h10 := hb.2.1
  intro r
  induction r with
  | zero =>
    intro p k hp hk
    obtain ⟨k, rfl⟩ : ∃ k', k = k' + 1 := ⟨k - 1, by omega⟩
    rw [fX12_skeptic_6, if_pos (show (6 : Int32) ≤ nI p from nI_le (a := 6) (by omega) (by omega))]
    rfl
  | succ r ih =>
    intro p k hp hk
    obtain ⟨k, rfl⟩ : ∃ k', k = k' + 1 := ⟨k - 1, by omega⟩
    have hle : sR (DN P V nf nc nl) p 6 0 ≤ 200 * nl * 6 := sR_le (fun k => DN_le hb.2.2.1 nl k) 6 0
    have hnx := ih (p + 1) k (by omega) (by omega)
    rw [fX12_skeptic_6, if_neg (show ¬ (6 : Int32) ≤ nI p from nI_ge (b := 6) (by omega) (by omega)), d_owns hn hv hb p, Option.bind_some, skp, d_cried hn hv hb p, d_owesAll hn hD (show p < 6 by omega)]
    simp only [bnd_x, nI_1, Option.bind_some, if_bI]
    by_cases z : 0 < sR (DN P V nf nc nl) p 6 0
    · rw [if_neg (nI_nle z (by omega)), decide_eq_true z, Bool.true_and, owes_owns hb (show p < 6 by omega) z]
      cases hcr : crd V nc p with
      | true => exact hnx
      | false => rfl
    · rw [show sR (DN P V nf nc nl) p 6 0 = 0 by omega, if_pos (show nI 0 ≤ 0 from i32_rf _)]
      cases ows V nf p with
      | false => exact hnx
      | true =>
        cases crd V nc p with
        | true => exact hnx
        | false => exact hnx
theorem shl_s1 : ∀ n, n < 13 → ((1 : Int32) <<< (nI n &&& 31)) - 1 = nI (2 ^ n - 1) := by decide +kernel
set_option maxHeartbeats 1000000 in
theorem s_who {n : Nat} (hn : 5000 < n) : S_who Rel n := by
  intro c d a1 h
  obtain ⟨nf, nl, nc, P, hc, hd, hb⟩ := views h
  generalize hV : (fun w j => gI c (3 + w) j) = V at hc hd hb
  have h10 := hb.2.1
  have h12 := hb.2.2.1
  obtain ⟨c1, w1, w2, w3⟩ := c_wall hn hc hb
  have hc1 := VC_Q hc (Qa_q w3)
  unfold fX11_who fX12_who
  simp only [some_eta]
  by_cases z0 : a1 = 0
  · rw [if_pos z0, if_pos z0]
    unfold fX6_quarrel fX12_quarrel
    rw [w1, Option.bind_some]
    obtain ⟨d', e1, e2⟩ := d_qrO (n := n) hn hb (P := P) nc 0 n d (by omega) (by omega) hd
    exact ⟨_, c1, d', c_qrO hn hc1 hb w2 nc 0 n (by omega) (by omega), e2, Rel_Q h (Qa_q w3) (Q2d_q e1)⟩
  rw [if_neg z0, if_neg z0]
  have hbz : fX6_busiest n c = some ((bsy (hM P V nf nl nc) nc).1, c1) := by
    unfold fX6_busiest
    rw [w1, Option.bind_some]
    exact c_busy hn hc1 hb w2
  by_cases z1 : a1 = 1
  · rw [if_pos z1, if_pos z1, hbz]
    obtain ⟨d', e1, e2⟩ := d_busy hn hd hb (P := P) 0
    exact ⟨_, c1, d', rfl, e1, Rel_Q h (Qa_q w3) (Q2d_q e2)⟩
  rw [if_neg z1, if_neg z1]
  by_cases z2 : a1 = 2
  · rw [if_pos z2, if_pos z2]
    unfold fX6_mostFallsOfOne
    rw [hbz, Option.bind_some]
    obtain ⟨d', e1, e2⟩ := d_busy hn hd hb (P := P) 1
    rw [if_neg (show ¬ (1 : Int32) = 0 by decide)] at e1
    refine ⟨_, c1, d', ?_, e1, Rel_Q h (Qa_q w3) (Q2d_q e2)⟩
    rcases bsy_all (hM P V nf nl nc) nc with ⟨q1, q2⟩ | ⟨i, hi, q1, q2⟩
    · rw [q1, q2, if_neg (by decide)]
      rfl
    · rw [q1, q2, if_pos (nI_pos' (by omega)), c_had hn hc1.2.1 hb w2 (show i < 12 by omega)]
      rfl
  rw [if_neg z2, if_neg z2]
  by_cases z3 : a1 = 3
  · rw [if_pos z3, if_pos z3]
    unfold fX6_skeptic fX12_skeptic
    obtain ⟨c', x1, x2, x3⟩ := c_reck hn hc hb
    obtain ⟨d', y1, y2, y3⟩ := d_findOwed hn hd hb
    rw [x1, y1, Option.bind_some, Option.bind_some]
    exact ⟨_, c', d', c_skp hn (VC_Q hc (Qs_q x3)) hb x2 6 0 n rfl (by omega), d_skp hn (VD_Q hd (Qo_q y3)) hb y2 6 0 n rfl (by omega), Rel_Q h (Qs_q x3) (Qo_q y3)⟩
  rw [if_neg z3, if_neg z3]
  by_cases z4 : a1 = 4
  · rw [if_pos z4, if_pos z4]
    unfold fX6_idle
    rw [w1, Option.bind_some, bnd_x, hd.2.2.1, shl_s1 nc (by omega)]
    have hlt : 2 ^ nc - 1 < 4096 := by
      have := Nat.pow_le_pow_right (n := 2) (by omega) h12
      omega
    obtain ⟨d', e1, e2⟩ := d_idle hn hb (P := P) nl 0 n (2 ^ nc - 1) d (by omega) (by omega) hd hlt (fun i => by
      rw [Nat.testBit_two_pow_sub_one]
      by_cases q : i < nc
      · rw [decide_eq_true q, decide_eq_true ⟨q, rfl⟩]
      · rw [decide_eq_false q, decide_eq_false (fun w => q w.1)])
    exact ⟨_, c1, d', c_idle hn hc1 hb w2, e2, Rel_Q h (Qa_q w3) (Q2d_q e1)⟩
  rw [if_neg z4, if_neg z4]
  exact ⟨_, c, d, rfl, rfl, h⟩
