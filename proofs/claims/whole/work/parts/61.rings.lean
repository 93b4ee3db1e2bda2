/-! debts cleared: rings of three, one behind the other -/
def lv (D : Nat → Nat) (t : Nat) : Nat := if ¬ t / 36 = t / 6 % 6 ∧ ¬ t / 6 % 6 = t % 6 ∧ ¬ t % 6 = t / 36 then min (D (6 * (t / 36) + t / 6 % 6)) (min (D (6 * (t / 6 % 6) + t % 6)) (D (6 * (t % 6) + t / 36))) else 0
def rgt (D : Nat → Nat) (t : Nat) : Nat → Nat := fun k => if k = 6 * (t / 36) + t / 6 % 6 ∨ k = 6 * (t / 6 % 6) + t % 6 ∨ k = 6 * (t % 6) + t / 36 then D k - lv D t else D k
def FF : Nat → Nat → (Nat → Nat) → Nat → Nat
  | 0, _, D => D
  | r + 1, t, D => FF r (t + 1) (rgt D t)
def srch : Nat → Nat → (Nat → Nat) → Option Nat
  | 0, _, _ => none
  | r + 1, t, D => if 0 < lv D t then some t else srch r (t + 1) D
def DG (D : Nat → Nat) : Prop := (∀ k, D k < 100000) ∧ ∀ k, k / 6 = k % 6 → D k = 0
theorem rgt_le (D : Nat → Nat) (t k : Nat) : rgt D t k ≤ D k := by
  unfold rgt
  split
  · omega
  · exact Nat.le_refl _
theorem rgt_0 {D : Nat → Nat} {t : Nat} (h : lv D t = 0) : rgt D t = D := by
  funext k
  unfold rgt
  rw [h]
  split <;> rfl
theorem rgt_DG {D : Nat → Nat} {t : Nat} (h : DG D) : DG (rgt D t) := by
  refine ⟨fun k => ?_, fun k hk => ?_⟩
  · have := rgt_le D t k
    have := h.1 k
    omega
  · have := rgt_le D t k
    have := h.2 k hk
    omega
theorem lv_mono {D D' : Nat → Nat} (h : ∀ k, D' k ≤ D k) (t : Nat) : lv D' t ≤ lv D t := by
  unfold lv
  have h1 := h (6 * (t / 36) + t / 6 % 6)
  have h2 := h (6 * (t / 6 % 6) + t % 6)
  have h3 := h (6 * (t % 6) + t / 36)
  split
  · omega
  · exact Nat.le_refl _
theorem lv_self (D : Nat → Nat) (t : Nat) : lv (rgt D t) t = 0 := by
  have e1 : rgt D t (6 * (t / 36) + t / 6 % 6) = D (6 * (t / 36) + t / 6 % 6) - lv D t := if_pos (Or.inl rfl)
  have e2 : rgt D t (6 * (t / 6 % 6) + t % 6) = D (6 * (t / 6 % 6) + t % 6) - lv D t := if_pos (Or.inr (Or.inl rfl))
  have e3 : rgt D t (6 * (t % 6) + t / 36) = D (6 * (t % 6) + t / 36) - lv D t := if_pos (Or.inr (Or.inr rfl))
  show (if ¬ t / 36 = t / 6 % 6 ∧ ¬ t / 6 % 6 = t % 6 ∧ ¬ t % 6 = t / 36 then min (rgt D t (6 * (t / 36) + t / 6 % 6)) (min (rgt D t (6 * (t / 6 % 6) + t % 6)) (rgt D t (6 * (t % 6) + t / 36))) else 0) = 0
  rw [e1, e2, e3]
  by_cases z : ¬ t / 36 = t / 6 % 6 ∧ ¬ t / 6 % 6 = t % 6 ∧ ¬ t % 6 = t / 36
  · rw [if_pos z]
    unfold lv
    rw [if_pos z]
    omega
  · rw [if_neg z]
theorem srch_from {D : Nat → Nat} : ∀ (s r t : Nat), (∀ t', t ≤ t' → t' < t + s → lv D t' = 0) → srch (s + r) t D = srch r (t + s) D := by
  intro s
  induction s with
  | zero => intro r t _; rw [Nat.zero_add, Nat.add_zero]
  | succ s ih =>
    intro r t h
    rw [show s + 1 + r = (s + r) + 1 by omega, srch, if_neg (by rw [h t (by omega) (by omega)]; omega), ih r (t + 1) (fun t' h1 h2 => h t' (by omega) (by omega)), show t + 1 + s = t + (s + 1) by omega]
theorem srch_some {D : Nat → Nat} : ∀ (r t u : Nat), srch r t D = some u → t ≤ u ∧ u < t + r ∧ 0 < lv D u ∧ (∀ t', t ≤ t' → t' < u → lv D t' = 0) ∧ FF r t D = FF (r - (u - t)) u D := by
  intro r
  induction r with
  | zero => intro t u h; cases h
  | succ r ih =>
    intro t u h
    rw [srch] at h
    by_cases z : 0 < lv D t
    · rw [if_pos z] at h
      cases h
      exact ⟨by omega, by omega, z, fun t' h1 h2 => absurd h2 (by omega), by rw [Nat.sub_self, Nat.sub_zero]⟩
    · rw [if_neg z] at h
      obtain ⟨h1, h2, h3, h4, h5⟩ := ih (t + 1) u h
      refine ⟨by omega, by omega, h3, fun t' q1 q2 => ?_, ?_⟩
      · by_cases e : t' = t
        · rw [e]; omega
        · exact h4 t' (by omega) q2
      · rw [FF, rgt_0 (by omega), h5, show r - (u - (t + 1)) = r + 1 - (u - t) by omega]
theorem srch_none {D : Nat → Nat} : ∀ (r t : Nat), srch r t D = none → FF r t D = D := by
  intro r
  induction r with
  | zero => intro t _; rfl
  | succ r ih =>
    intro t h
    rw [srch] at h
    by_cases z : 0 < lv D t
    · rw [if_pos z] at h
      cases h
    · rw [if_neg z] at h
      rw [FF, rgt_0 (by omega), ih (t + 1) h]
/-- a row of a state holds debts; nothing else changes -/
def DS (X : Nat) (c : St) (D : Nat → Nat) : Prop := (∀ k, k < 36 → gI c X k = nI (D k)) ∧ DG D
def Fr (X : Nat) (c c' : St) : Prop := (∀ k, k ≠ X → gI c' k = gI c k) ∧ ∀ k, gL c' k = gL c k
theorem Fr_rf (X : Nat) (c : St) : Fr X c c := ⟨fun _ _ => rfl, fun _ => rfl⟩
theorem Fr_tr {X : Nat} {a b c : St} (h1 : Fr X a b) (h2 : Fr X b c) : Fr X a c := ⟨fun k q => (h2.1 k q).trans (h1.1 k q), fun k => (h2.2 k).trans (h1.2 k)⟩
theorem Fr_sI (X : Nat) (c : St) (i : Nat) (v : Int32) : Fr X c (sI c X i v) := ⟨fun k q => by rw [gI_sIx, if_neg q], fun _ => rfl⟩
theorem mnI_n {a b : Nat} (ha : a < 100000) (hb : b < 100000) : mnI (nI a) (nI b) = nI (min a b) := by
  unfold mnI
  by_cases q : b < a
  · rw [if_pos (nI_lt q (by omega)), Nat.min_eq_right (by omega)]
  · rw [if_neg (nI_nlt (by omega) (by omega)), Nat.min_eq_left (by omega)]
/-- three places lessened -/
theorem three {X : Nat} {c : St} {D : Nat → Nat} {t : Nat} (h : DS X c D) (ht : t < 216) (hd : ¬ t / 36 = t / 6 % 6 ∧ ¬ t / 6 % 6 = t % 6 ∧ ¬ t % 6 = t / 36) : DS X (sI (sI (sI c X (6 * (t / 36) + t / 6 % 6) (gI c X (6 * (t / 36) + t / 6 % 6) - nI (lv D t))) X (6 * (t / 6 % 6) + t % 6) (gI c X (6 * (t / 6 % 6) + t % 6) - nI (lv D t))) X (6 * (t % 6) + t / 36) (gI c X (6 * (t % 6) + t / 36) - nI (lv D t))) (rgt D t) := by
  refine ⟨fun k hk => ?_, rgt_DG h.2⟩
  have l1 : lv D t ≤ D (6 * (t / 36) + t / 6 % 6) := by unfold lv; rw [if_pos hd]; omega
  have l2 : lv D t ≤ D (6 * (t / 6 % 6) + t % 6) := by unfold lv; rw [if_pos hd]; omega
  have l3 : lv D t ≤ D (6 * (t % 6) + t / 36) := by unfold lv; rw [if_pos hd]; omega
  rw [gIp, gIp, gIp]
  unfold rgt
  by_cases z3 : k = 6 * (t % 6) + t / 36
  · rw [if_pos ⟨rfl, z3⟩, if_pos (Or.inr (Or.inr z3)), ← z3, h.1 k hk, pk_sub (by rw [z3]; exact l3)]
  · rw [if_neg (fun q => z3 q.2)]
    by_cases z2 : k = 6 * (t / 6 % 6) + t % 6
    · rw [if_pos ⟨rfl, z2⟩, if_pos (Or.inr (Or.inl z2)), ← z2, h.1 k hk, pk_sub (by rw [z2]; exact l2)]
    · rw [if_neg (fun q => z2 q.2)]
      by_cases z1 : k = 6 * (t / 36) + t / 6 % 6
      · rw [if_pos ⟨rfl, z1⟩, if_pos (Or.inl z1), ← z1, h.1 k hk, pk_sub (by rw [z1]; exact l1)]
      · rw [if_neg (fun q => z1 q.2), if_neg (by omega)]
        exact h.1 k hk
theorem c_ring {c : St} {D : Nat → Nat} {t : Nat} (h : DS 25 c D) (ht : t < 216) : ∃ c', fX6_clearRing c (nI (6 * (t / 36) + t / 6 % 6)) (nI (6 * (t / 6 % 6) + t % 6)) (nI (6 * (t % 6) + t / 36)) = some c' ∧ DS 25 c' (rgt D t) ∧ Fr 25 c c' := by
  have b1 := h.2.1 (6 * (t / 36) + t / 6 % 6)
  have b2 := h.2.1 (6 * (t / 6 % 6) + t % 6)
  have b3 := h.2.1 (6 * (t % 6) + t / 36)
  unfold fX6_clearRing
  rw [inB_t (show 6 * (t / 36) + t / 6 % 6 < 36 by omega) (by omega), inB_t (show 6 * (t / 6 % 6) + t % 6 < 36 by omega) (by omega), inB_t (show 6 * (t % 6) + t / 36 < 36 by omega) (by omega)]
  simp only [gd_true, bnd_x, nIc (show 6 * (t / 36) + t / 6 % 6 < 100000 by omega), nIc (show 6 * (t / 6 % 6) + t % 6 < 100000 by omega), nIc (show 6 * (t % 6) + t / 36 < 100000 by omega)]
  rw [h.1 _ (show 6 * (t / 36) + t / 6 % 6 < 36 by omega), h.1 _ (show 6 * (t / 6 % 6) + t % 6 < 36 by omega), h.1 _ (show 6 * (t % 6) + t / 36 < 36 by omega), mnI_n b2 b3, mnI_n b1 (by omega)]
  by_cases hd : ¬ t / 36 = t / 6 % 6 ∧ ¬ t / 6 % 6 = t % 6 ∧ ¬ t % 6 = t / 36
  · have e : lv D t = min (D (6 * (t / 36) + t / 6 % 6)) (min (D (6 * (t / 6 % 6) + t % 6)) (D (6 * (t % 6) + t / 36))) := if_pos hd
    rw [← e]
    by_cases z : lv D t = 0
    · rw [z, if_pos (show nI 0 ≤ 0 from i32_rf _)]
      refine ⟨c, rfl, ?_, Fr_rf 25 c⟩
      rw [rgt_0 z]
      exact h
    · rw [if_neg (show ¬ nI (lv D t) ≤ 0 from nI_ge (a := 0) (by omega) (by omega))]
      have k := three h ht hd
      rw [h.1 _ (show 6 * (t / 36) + t / 6 % 6 < 36 by omega), h.1 _ (show 6 * (t / 6 % 6) + t % 6 < 36 by omega), h.1 _ (show 6 * (t % 6) + t / 36 < 36 by omega)] at k
      rw [gIp, if_neg (by omega), h.1 _ (show 6 * (t / 6 % 6) + t % 6 < 36 by omega), gIp, if_neg (by omega), gIp, if_neg (by omega), h.1 _ (show 6 * (t % 6) + t / 36 < 36 by omega)]
      exact ⟨_, rfl, k, Fr_tr (Fr_tr (Fr_sI 25 _ _ _) (Fr_sI 25 _ _ _)) (Fr_sI 25 _ _ _)⟩
  · have e : min (D (6 * (t / 36) + t / 6 % 6)) (min (D (6 * (t / 6 % 6) + t % 6)) (D (6 * (t % 6) + t / 36))) = 0 := by
      by_cases q1 : t / 36 = t / 6 % 6
      · have := h.2.2 (6 * (t / 36) + t / 6 % 6) (by omega)
        omega
      · by_cases q2 : t / 6 % 6 = t % 6
        · have := h.2.2 (6 * (t / 6 % 6) + t % 6) (by omega)
          omega
        · have := h.2.2 (6 * (t % 6) + t / 36) (by omega)
          omega
    rw [e, if_pos (show nI 0 ≤ 0 from i32_rf _)]
    refine ⟨c, rfl, ?_, Fr_rf 25 c⟩
    rw [rgt_0 (show lv D t = 0 from if_neg hd)]
    exact h
theorem c_rings {n : Nat} (hn : 5000 < n) {c : St} {D : Nat → Nat} (h : DS 25 c D) : ∃ c', fX6_clearRings n c = some c' ∧ DS 25 c' (FF 216 0 D) ∧ Fr 25 c c' := by
  have l18 : ∀ (a b : Nat) (K2 : St → Int32 → Option St) (K10 : St → Int32 → Int32 → Option St), a < 6 → b < 6 → (∀ (c : St) (D : Nat → Nat), DS 25 c D → ∃ c', K10 c (nI a) (nI (b + 1)) = some c' ∧ DS 25 c' (FF (216 - (36 * a + 6 * (b + 1))) (36 * a + 6 * (b + 1)) D) ∧ Fr 25 c c') → ∀ (r v k : Nat) (c : St) (D : Nat → Nat), v + r = 6 → r < k → DS 25 c D → ∃ c', fX6_clearRings_18 K2 K10 n k c (nI a) (nI b) (nI v) = some c' ∧ DS 25 c' (FF (216 - (36 * a + 6 * b + v)) (36 * a + 6 * b + v) D) ∧ Fr 25 c c' := by
    intro a b K2 K10 ha hb hK r
    induction r with
    | zero =>
      intro v k c D hv hk h
      obtain ⟨k, rfl⟩ : ∃ k', k = k' + 1 := ⟨k - 1, by omega⟩
      rw [fX6_clearRings_18, if_pos (show (6 : Int32) ≤ nI v from nI_le (a := 6) (by omega) (by omega)), bnd_x, nI_1, show 36 * a + 6 * b + v = 36 * a + 6 * (b + 1) by omega]
      exact hK c D h
    | succ r ih =>
      intro v k c D hv hk h
      obtain ⟨k, rfl⟩ : ∃ k', k = k' + 1 := ⟨k - 1, by omega⟩
      have ht : 36 * a + 6 * b + v < 216 := by omega
      have t1 : (36 * a + 6 * b + v) / 36 = a := by omega
      have t2 : (36 * a + 6 * b + v) / 6 % 6 = b := by omega
      have t3 : (36 * a + 6 * b + v) % 6 = v := by omega
      obtain ⟨c1, e1, e2, e3⟩ := c_ring h ht
      rw [t1, t2, t3] at e1
      rw [fX6_clearRings_18, if_neg (show ¬ (6 : Int32) ≤ nI v from nI_ge (b := 6) (by omega) (by omega)), at_nI, at_nI, at_nI, e1, Option.bind_some, bnd_x, nI_1]
      obtain ⟨c', f1, f2, f3⟩ := ih (v + 1) k c1 _ (by omega) (by omega) e2
      refine ⟨c', f1, ?_, Fr_tr e3 f3⟩
      rw [show 216 - (36 * a + 6 * b + v) = (216 - (36 * a + 6 * b + (v + 1))) + 1 by omega, FF]
      exact f2
  have l10 : ∀ (a : Nat) (K2 : St → Int32 → Option St), a < 6 → (∀ (c : St) (D : Nat → Nat), DS 25 c D → ∃ c', K2 c (nI (a + 1)) = some c' ∧ DS 25 c' (FF (216 - 36 * (a + 1)) (36 * (a + 1)) D) ∧ Fr 25 c c') → ∀ (r b k : Nat) (c : St) (D : Nat → Nat), b + r = 6 → r < k → DS 25 c D → ∃ c', fX6_clearRings_10 K2 n k c (nI a) (nI b) = some c' ∧ DS 25 c' (FF (216 - (36 * a + 6 * b)) (36 * a + 6 * b) D) ∧ Fr 25 c c' := by
    intro a K2 ha hK r
    induction r with
    | zero =>
      intro b k c D hv hk h
      obtain ⟨k, rfl⟩ : ∃ k', k = k' + 1 := ⟨k - 1, by omega⟩
      rw [fX6_clearRings_10, if_pos (show (6 : Int32) ≤ nI b from nI_le (a := 6) (by omega) (by omega)), bnd_x, nI_1, show 36 * a + 6 * b = 36 * (a + 1) by omega]
      exact hK c D h
    | succ r ih =>
      intro b k c D hv hk h
      obtain ⟨k, rfl⟩ : ∃ k', k = k' + 1 := ⟨k - 1, by omega⟩
      rw [fX6_clearRings_10, if_neg (show ¬ (6 : Int32) ≤ nI b from nI_ge (b := 6) (by omega) (by omega))]
      exact l18 a b K2 (fX6_clearRings_10 K2 n k) ha (by omega) (fun c D h => ih (b + 1) k c D (by omega) (by omega) h) 6 0 n c D (by omega) (by omega) h
  have l2 : ∀ (r a k : Nat) (c : St) (D : Nat → Nat), a + r = 6 → r < k → DS 25 c D → ∃ c', fX6_clearRings_2 n k c (nI a) = some c' ∧ DS 25 c' (FF (216 - 36 * a) (36 * a) D) ∧ Fr 25 c c' := by
    intro r
    induction r with
    | zero =>
      intro a k c D hv hk h
      obtain ⟨k, rfl⟩ : ∃ k', k = k' + 1 := ⟨k - 1, by omega⟩
      rw [fX6_clearRings_2, if_pos (show (6 : Int32) ≤ nI a from nI_le (a := 6) (by omega) (by omega)), show 216 - 36 * a = 0 by omega]
      exact ⟨c, rfl, h, Fr_rf 25 c⟩
    | succ r ih =>
      intro a k c D hv hk h
      obtain ⟨k, rfl⟩ : ∃ k', k = k' + 1 := ⟨k - 1, by omega⟩
      rw [fX6_clearRings_2, if_neg (show ¬ (6 : Int32) ≤ nI a from nI_ge (b := 6) (by omega) (by omega))]
      exact l10 a (fX6_clearRings_2 n k) (by omega) (fun c D h => ih (a + 1) k c D (by omega) (by omega) h) 6 0 n c D (by omega) (by omega) h
  exact l2 6 0 n c D (by omega) (by omega) h
/-- what the reference does: the first ring is lessened -/
def sD (D : Nat → Nat) : Option Nat → Nat → Nat
  | none => D
  | some u => rgt D u
theorem d_one {n : Nat} {K2 : St → Int32 → Option (Bool × St)} {K10 : St → Int32 → Int32 → Option (Bool × St)} {K18 : St → Int32 → Int32 → Int32 → Option (Bool × St)} {d : St} {D : Nat → Nat} {t : Nat} (h : DS 27 d D) (ht : t < 216) (hd : ¬ t / 36 = t / 6 % 6 ∧ ¬ t / 6 % 6 = t % 6 ∧ ¬ t % 6 = t / 36) : (lv D t = 0 ∧ fX12_clearsOne_108 K2 K10 K18 n d (nI (t / 36)) (nI (t / 6 % 6)) (nI (t % 6)) (nI (lv D t)) = K18 d (nI (t / 36)) (nI (t / 6 % 6)) (nI (t % 6 + 1))) ∨ (0 < lv D t ∧ ∃ d', fX12_clearsOne_108 K2 K10 K18 n d (nI (t / 36)) (nI (t / 6 % 6)) (nI (t % 6)) (nI (lv D t)) = some (true, d') ∧ DS 27 d' (rgt D t) ∧ Fr 27 d d') := by
  have b1 := h.2.1 (6 * (t / 36) + t / 6 % 6)
  unfold fX12_clearsOne_108
  simp only [at_nI]
  rw [inB_t (show 6 * (t / 36) + t / 6 % 6 < 36 by omega) (by omega), inB_t (show 6 * (t / 6 % 6) + t % 6 < 36 by omega) (by omega), inB_t (show 6 * (t % 6) + t / 36 < 36 by omega) (by omega)]
  simp only [gd_true, bnd_x, nIc (show 6 * (t / 36) + t / 6 % 6 < 100000 by omega), nIc (show 6 * (t / 6 % 6) + t % 6 < 100000 by omega), nIc (show 6 * (t % 6) + t / 36 < 100000 by omega), nI_1]
  by_cases z : lv D t = 0
  · left
    rw [z, if_neg (show ¬ 0 < nI 0 from fun q => i32_irr q)]
    exact ⟨rfl, rfl⟩
  · right
    have lb : lv D t < 100000 := by
      have : lv D t ≤ D (6 * (t / 36) + t / 6 % 6) := by unfold lv; rw [if_pos hd]; omega
      omega
    rw [if_pos (show 0 < nI (lv D t) from nI_lt (a := 0) (by omega) (by omega))]
    have k := three h ht hd
    refine ⟨by omega, ?_⟩
    rw [gIp, if_neg (by omega), gIp, if_neg (by omega), gIp, if_neg (by omega)]
    exact ⟨_, rfl, k, Fr_tr (Fr_tr (Fr_sI 27 _ _ _) (Fr_sI 27 _ _ _)) (Fr_sI 27 _ _ _)⟩
