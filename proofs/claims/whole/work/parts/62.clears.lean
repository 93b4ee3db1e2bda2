set_option maxHeartbeats 1000000 in
theorem d_clears {n : Nat} (hn : 5000 < n) {d : St} {D : Nat → Nat} (h : DS 27 d D) : ∃ d', fX12_clearsOne n d = some ((srch 216 0 D).isSome, d') ∧ DS 27 d' (sD D (srch 216 0 D)) ∧ Fr 27 d d' := by
  have l18 : ∀ (a b : Nat) (K2 : St → Int32 → Option (Bool × St)) (K10 : St → Int32 → Int32 → Option (Bool × St)), a < 6 → b < 6 → (∀ (c : St) (D : Nat → Nat), DS 27 c D → ∃ c', K10 c (nI a) (nI (b + 1)) = some ((srch (216 - (36 * a + 6 * (b + 1))) (36 * a + 6 * (b + 1)) D).isSome, c') ∧ DS 27 c' (sD D (srch (216 - (36 * a + 6 * (b + 1))) (36 * a + 6 * (b + 1)) D)) ∧ Fr 27 c c') → ∀ (r v k : Nat) (c : St) (D : Nat → Nat), v + r = 6 → r < k → DS 27 c D → ∃ c', fX12_clearsOne_18 K2 K10 n k c (nI a) (nI b) (nI v) = some ((srch (216 - (36 * a + 6 * b + v)) (36 * a + 6 * b + v) D).isSome, c') ∧ DS 27 c' (sD D (srch (216 - (36 * a + 6 * b + v)) (36 * a + 6 * b + v) D)) ∧ Fr 27 c c' := by
    intro a b K2 K10 ha hb hK r
    induction r with
    | zero =>
      intro v k c D hv hk h
      obtain ⟨k, rfl⟩ : ∃ k', k = k' + 1 := ⟨k - 1, by omega⟩
      rw [fX12_clearsOne_18, if_pos (show (6 : Int32) ≤ nI v from nI_le (a := 6) (by omega) (by omega)), bnd_x, nI_1, show 36 * a + 6 * b + v = 36 * a + 6 * (b + 1) by omega]
      exact hK c D h
    | succ r ih =>
      intro v k c D hv hk h
      obtain ⟨k, rfl⟩ : ∃ k', k = k' + 1 := ⟨k - 1, by omega⟩
      have ht : 36 * a + 6 * b + v < 216 := by omega
      have t1 : (36 * a + 6 * b + v) / 36 = a := by omega
      have t2 : (36 * a + 6 * b + v) / 6 % 6 = b := by omega
      have t3 : (36 * a + 6 * b + v) % 6 = v := by omega
      have next := ih (v + 1) k c D (by omega) (by omega) h
      rw [fX12_clearsOne_18, if_neg (show ¬ (6 : Int32) ≤ nI v from nI_ge (b := 6) (by omega) (by omega)), show 216 - (36 * a + 6 * b + v) = (216 - (36 * a + 6 * b + (v + 1))) + 1 by omega, srch]
      simp only [bnd_x, nI_1]
      by_cases hd : ¬ a = b ∧ ¬ b = v ∧ ¬ v = a
      · rw [if_neg (fun q => hd.1 (by rw [nIeq (by omega) (by omega)] at q; exact q)), if_neg (fun q => hd.2.1 (by rw [nIeq (by omega) (by omega)] at q; exact q)), if_neg (fun q => hd.2.2 (by rw [nIeq (by omega) (by omega)] at q; exact q)), at_nI, at_nI, at_nI, inB_t (show 6 * a + b < 36 by omega) (by omega), inB_t (show 6 * b + v < 36 by omega) (by omega), inB_t (show 6 * v + a < 36 by omega) (by omega), gd_true, gd_true, gd_true, nIc (by omega), nIc (by omega), nIc (by omega), h.1 _ (by omega), h.1 _ (by omega), h.1 _ (by omega)]
        have b1 := h.2.1 (6 * a + b)
        have b2 := h.2.1 (6 * b + v)
        have b3 := h.2.1 (6 * v + a)
        have hd' : ¬ (36 * a + 6 * b + v) / 36 = (36 * a + 6 * b + v) / 6 % 6 ∧ ¬ (36 * a + 6 * b + v) / 6 % 6 = (36 * a + 6 * b + v) % 6 ∧ ¬ (36 * a + 6 * b + v) % 6 = (36 * a + 6 * b + v) / 36 := by rw [t1, t2, t3]; exact hd
        have el : lv D (36 * a + 6 * b + v) = min (D (6 * a + b)) (min (D (6 * b + v)) (D (6 * v + a))) := by
          unfold lv
          rw [if_pos hd', t1, t2, t3]
        have key := d_one (n := n) (K2 := K2) (K10 := K10) (K18 := fX12_clearsOne_18 K2 K10 n k) h ht hd'
        rw [t1, t2, t3] at key
        have e95 : (if nI (D (6 * b + v)) ≤ nI (D (6 * a + b)) then fX12_clearsOne_95 K2 K10 (fX12_clearsOne_18 K2 K10 n k) n c (nI a) (nI b) (nI v) (nI (D (6 * v + a))) (nI (D (6 * b + v))) else fX12_clearsOne_95 K2 K10 (fX12_clearsOne_18 K2 K10 n k) n c (nI a) (nI b) (nI v) (nI (D (6 * v + a))) (nI (D (6 * a + b)))) = fX12_clearsOne_108 K2 K10 (fX12_clearsOne_18 K2 K10 n k) n c (nI a) (nI b) (nI v) (nI (lv D (36 * a + 6 * b + v))) := by
          rw [el]
          unfold fX12_clearsOne_95
          by_cases q1 : D (6 * b + v) ≤ D (6 * a + b)
          · rw [if_pos (nI_le q1 (by omega))]
            by_cases q2 : D (6 * b + v) ≤ D (6 * v + a)
            · rw [if_pos (nI_le q2 (by omega)), show min (D (6 * a + b)) (min (D (6 * b + v)) (D (6 * v + a))) = D (6 * b + v) by omega]
            · rw [if_neg (nI_ge (by omega) (by omega)), show min (D (6 * a + b)) (min (D (6 * b + v)) (D (6 * v + a))) = D (6 * v + a) by omega]
          · rw [if_neg (nI_ge (by omega) (by omega))]
            by_cases q2 : D (6 * a + b) ≤ D (6 * v + a)
            · rw [if_pos (nI_le q2 (by omega)), show min (D (6 * a + b)) (min (D (6 * b + v)) (D (6 * v + a))) = D (6 * a + b) by omega]
            · rw [if_neg (nI_ge (by omega) (by omega)), show min (D (6 * a + b)) (min (D (6 * b + v)) (D (6 * v + a))) = D (6 * v + a) by omega]
        rw [e95]
        rcases key with ⟨k1, k2⟩ | ⟨k1, d', k2, k3, k4⟩
        · rw [k2, if_neg (by omega)]
          exact next
        · rw [k2, if_pos k1]
          exact ⟨d', rfl, k3, k4⟩
      · have el : lv D (36 * a + 6 * b + v) = 0 := by
          unfold lv
          rw [t1, t2, t3, if_neg hd]
        rw [el, if_neg (Nat.lt_irrefl 0)]
        by_cases q1 : a = b
        · rw [if_pos (by rw [q1])]
          exact next
        · rw [if_neg (fun q => q1 (by rw [nIeq (by omega) (by omega)] at q; exact q))]
          by_cases q2 : b = v
          · rw [if_pos (by rw [q2])]
            exact next
          · rw [if_neg (fun q => q2 (by rw [nIeq (by omega) (by omega)] at q; exact q)), if_pos (show nI v = nI a by rw [show v = a by omega])]
            exact next
  have l10 : ∀ (a : Nat) (K2 : St → Int32 → Option (Bool × St)), a < 6 → (∀ (c : St) (D : Nat → Nat), DS 27 c D → ∃ c', K2 c (nI (a + 1)) = some ((srch (216 - 36 * (a + 1)) (36 * (a + 1)) D).isSome, c') ∧ DS 27 c' (sD D (srch (216 - 36 * (a + 1)) (36 * (a + 1)) D)) ∧ Fr 27 c c') → ∀ (r b k : Nat) (c : St) (D : Nat → Nat), b + r = 6 → r < k → DS 27 c D → ∃ c', fX12_clearsOne_10 K2 n k c (nI a) (nI b) = some ((srch (216 - (36 * a + 6 * b)) (36 * a + 6 * b) D).isSome, c') ∧ DS 27 c' (sD D (srch (216 - (36 * a + 6 * b)) (36 * a + 6 * b) D)) ∧ Fr 27 c c' := by
    intro a K2 ha hK r
    induction r with
    | zero =>
      intro b k c D hv hk h
      obtain ⟨k, rfl⟩ : ∃ k', k = k' + 1 := ⟨k - 1, by omega⟩
      rw [fX12_clearsOne_10, if_pos (show (6 : Int32) ≤ nI b from nI_le (a := 6) (by omega) (by omega)), bnd_x, nI_1, show 36 * a + 6 * b = 36 * (a + 1) by omega]
      exact hK c D h
    | succ r ih =>
      intro b k c D hv hk h
      obtain ⟨k, rfl⟩ : ∃ k', k = k' + 1 := ⟨k - 1, by omega⟩
      rw [fX12_clearsOne_10, if_neg (show ¬ (6 : Int32) ≤ nI b from nI_ge (b := 6) (by omega) (by omega))]
      exact l18 a b K2 (fX12_clearsOne_10 K2 n k) ha (by omega) (fun c D h => ih (b + 1) k c D (by omega) (by omega) h) 6 0 n c D (by omega) (by omega) h
  have l2 : ∀ (r a k : Nat) (c : St) (D : Nat → Nat), a + r = 6 → r < k → DS 27 c D → ∃ c', fX12_clearsOne_2 n k c (nI a) = some ((srch (216 - 36 * a) (36 * a) D).isSome, c') ∧ DS 27 c' (sD D (srch (216 - 36 * a) (36 * a) D)) ∧ Fr 27 c c' := by
    intro r
    induction r with
    | zero =>
      intro a k c D hv hk h
      obtain ⟨k, rfl⟩ : ∃ k', k = k' + 1 := ⟨k - 1, by omega⟩
      rw [fX12_clearsOne_2, if_pos (show (6 : Int32) ≤ nI a from nI_le (a := 6) (by omega) (by omega)), show 216 - 36 * a = 0 by omega]
      exact ⟨c, rfl, h, Fr_rf 27 c⟩
    | succ r ih =>
      intro a k c D hv hk h
      obtain ⟨k, rfl⟩ : ∃ k', k = k' + 1 := ⟨k - 1, by omega⟩
      rw [fX12_clearsOne_2, if_neg (show ¬ (6 : Int32) ≤ nI a from nI_ge (b := 6) (by omega) (by omega))]
      exact l10 a (fX12_clearsOne_2 n k) (by omega) (fun c D h => ih (a + 1) k c D (by omega) (by omega) h) 6 0 n c D (by omega) (by omega) h
  exact l2 6 0 n d D (by omega) (by omega) h
theorem d_clear_l {n : Nat} (hn : 5000 < n) {a1 : Int32} {u : Nat} (hu : u < 36) (h1 : (6 : Int32) * (a1 / 10) + rmI a1 10 = nI u) : ∀ (m t k : Nat) (d : St) (D : Nat → Nat), 216 ≤ t + m → t ≤ 216 → m + 1 < k → DS 27 d D → (∀ t', t' < t → lv D t' = 0) → ∃ d', fX12_cleared_52 n k d a1 1 = some (nI (FF (216 - t) t D u), d') ∧ Fr 27 d d' := by
  intro m
  induction m with
  | zero =>
    intro t k d D ht ht2 hk h hz
    obtain ⟨k, rfl⟩ : ∃ k', k = k' + 1 + 1 := ⟨k - 2, by omega⟩
    obtain ⟨d1, e1, e2, e3⟩ := d_clears hn h
    have es : srch 216 0 D = none := by
      have := srch_from (D := D) 216 0 0 (fun t' _ q => hz t' (by omega))
      exact this
    rw [es] at e1 e2
    rw [fX12_cleared_52, if_neg (by decide), e1, Option.bind_some, bnd_x, fX12_cleared_52, if_pos (show bI ((none : Option Nat).isSome, d1).1 = 0 from rfl), h1, inB_t hu (by omega), gd_true, nIc (by omega), show 216 - t = 0 by omega]
    exact ⟨d1, by rw [e2.1 u hu]; rfl, e3⟩
  | succ m ih =>
    intro t k d D ht ht2 hk h hz
    obtain ⟨k, rfl⟩ : ∃ k', k = k' + 1 + 1 := ⟨k - 2, by omega⟩
    obtain ⟨d1, e1, e2, e3⟩ := d_clears hn h
    have es : srch 216 0 D = srch (216 - t) t D := by
      have := srch_from (D := D) t (216 - t) 0 (fun t' _ q => hz t' (by omega))
      rw [show t + (216 - t) = 216 by omega, Nat.zero_add] at this
      exact this
    rw [es] at e1 e2
    rw [fX12_cleared_52, if_neg (by decide), e1, Option.bind_some, bnd_x]
    cases hs : srch (216 - t) t D with
    | none =>
      rw [hs] at e2
      rw [srch_none _ _ hs, fX12_cleared_52, if_pos (show bI ((none : Option Nat).isSome, d1).1 = 0 from rfl), h1, inB_t hu (by omega), gd_true, nIc (by omega)]
      exact ⟨d1, by rw [e2.1 u hu]; rfl, e3⟩
    | some s =>
      rw [hs] at e2
      obtain ⟨s1, s2, s3, s4, s5⟩ := srch_some _ _ _ hs
      obtain ⟨d', f1, f2⟩ := ih (s + 1) (k + 1) d1 (rgt D s) (by omega) (by omega) (by omega) e2 (fun t' ht' => by
        by_cases e : t' = s
        · rw [e]; exact lv_self D s
        · have q := lv_mono (fun k => rgt_le D s k) t'
          have q0 : lv D t' = 0 := by
            by_cases q2 : t' < t
            · exact hz t' q2
            · exact s4 t' (by omega) (by omega)
          omega)
      refine ⟨d', ?_, Fr_tr e3 f2⟩
      rw [s5, show 216 - t - (s - t) = (216 - (s + 1)) + 1 by omega, FF]
      exact f1
theorem cn_le (V : Nat → Nat → Int32) (B b : Nat) : ∀ n, cn V B b n ≤ n := by
  intro n
  induction n with
  | zero => exact Nat.le_refl 0
  | succ n ih => rw [cn]; split <;> omega
theorem owe_le (P : LwP) (V : Nat → Nat → Int32) {nc : Nat} (hnc : nc ≤ 12) (o m wh : Int32) (k : Nat) : oweN P V nc o m wh k ≤ 144 := by
  unfold oweN
  split
  · omega
  · unfold pyd
    split
    · have h1 : 12 / mn (gA P V o m wh) nc ≤ 12 := Nat.div_le_self _ _
      have h2 := cn_le V (bt (gA P V o m wh) nc) (k % 6) nc
      exact Nat.le_trans (Nat.mul_le_mul h1 (Nat.le_trans h2 hnc)) (by omega)
    · omega
theorem owe_dg {P : LwP} {V : Nat → Nat → Int32} {nc : Nat} {o m wh : Int32} {k : Nat} (hk : k / 6 = k % 6) : oweN P V nc o m wh k = 0 := by
  unfold oweN
  split
  · rfl
  · unfold pyd
    rw [if_neg (by omega)]
theorem DN_DG {P : LwP} {V : Nat → Nat → Int32} {nf nc : Nat} (hnc : nc ≤ 12) : ∀ f, f ≤ 10 → (∀ k, DN P V nf nc f k ≤ 144 * f) ∧ ∀ k, k / 6 = k % 6 → DN P V nf nc f k = 0 := by
  intro f
  induction f with
  | zero => intro _; exact ⟨fun k => Nat.le_refl 0, fun k _ => rfl⟩
  | succ f ih =>
    intro hf
    obtain ⟨i1, i2⟩ := ih (by omega)
    refine ⟨fun k => ?_, fun k hk => ?_⟩
    · rw [DN]
      have := i1 k
      have := owe_le P V hnc (owF V nf f) (V 8 f) (V 9 f) k
      omega
    · rw [DN, i2 k hk, owe_dg hk]
def wrt (D : Nat → Nat) (p : Nat) : Int32 := nI (sC D p 6 0) - nI (sR D p 6 0)
def rch (D : Nat → Nat) : Nat → Nat → Nat → Nat
  | 0, _, b => b
  | r + 1, p, b => if wrt D p ≤ wrt D b then rch D r (p + 1) b else rch D r (p + 1) p
theorem rch_lt {D : Nat → Nat} : ∀ r p b, p + r = 6 → b < 6 → rch D r p b < 6 := by
  intro r
  induction r with
  | zero => intro p b _ hb; exact hb
  | succ r ih =>
    intro p b hp hb
    rw [rch]
    split
    · exact ih _ _ (by omega) hb
    · exact ih _ _ (by omega) (by omega)
theorem c_worth {n : Nat} (hn : 5000 < n) {c : St} {D : Nat → Nat} (hD : ∀ k, k < 36 → gI c 25 k = nI (D k)) {p : Nat} (hp : p < 6) : fX6_worthOf n c (nI p) = some (wrt D p) := by
  unfold fX6_worthOf
  rw [c_isOwed hn hD hp, Option.bind_some, c_owes hn hD hp, Option.bind_some]
  rfl
theorem c_rich {n : Nat} (hn : 5000 < n) {c : St} {D : Nat → Nat} (hD : ∀ k, k < 36 → gI c 25 k = nI (D k)) : fX6_richest n c = some (nI (rch D 5 1 0)) := by
  have main : ∀ (r p k b : Nat), p + r = 6 → r < k → b < 6 → fX6_richest_4 n c k (nI b) (nI p) = some (nI (rch D r p b)) := by
    intro r
    induction r with
    | zero =>
      intro p k b hp hk hb
      obtain ⟨k, rfl⟩ : ∃ k', k = k' + 1 := ⟨k - 1, by omega⟩
      rw [fX6_richest_4, if_pos (show (6 : Int32) ≤ nI p from nI_le (a := 6) (by omega) (by omega)), rch]
    | succ r ih =>
      intro p k b hp hk hb
      obtain ⟨k, rfl⟩ : ∃ k', k = k' + 1 := ⟨k - 1, by omega⟩
      rw [fX6_richest_4, if_neg (show ¬ (6 : Int32) ≤ nI p from nI_ge (b := 6) (by omega) (by omega)), c_worth hn hD (by omega), Option.bind_some, c_worth hn hD hb, Option.bind_some, rch]
      simp only [bnd_x, nI_1]
      by_cases z : wrt D p ≤ wrt D b
      · rw [if_pos z, if_pos z]
        exact ih (p + 1) k b (by omega) (by omega) hb
      · rw [if_neg z, if_neg z]
        exact ih (p + 1) k p (by omega) (by omega) (by omega)
  exact main 5 1 n 0 rfl (by omega) (by omega)
theorem d_rich {n : Nat} (hn : 5000 < n) {d : St} {D : Nat → Nat} (hD : ∀ k, k < 36 → gI d 27 k = nI (D k)) (a2 : Int32) : fX12_cleared_87 n n d a2 0 1 = some (if a2 = 1 then nI (rch D 5 1 0) else wrt D (rch D 5 1 0), d) := by
  have main : ∀ (r p k b : Nat), p + r = 6 → r < k → b < 6 → fX12_cleared_87 n k d a2 (nI b) (nI p) = some (if a2 = 1 then nI (rch D r p b) else wrt D (rch D r p b), d) := by
    intro r
    induction r with
    | zero =>
      intro p k b hp hk hb
      obtain ⟨k, rfl⟩ : ∃ k', k = k' + 1 := ⟨k - 1, by omega⟩
      rw [fX12_cleared_87, if_pos (show (6 : Int32) ≤ nI p from nI_le (a := 6) (by omega) (by omega)), rch, d_owedAll hn hD hb, d_owesAll hn hD hb]
      by_cases z : a2 = 1
      · rw [if_pos z, if_pos z]
      · rw [if_neg z, if_neg z]; rfl
    | succ r ih =>
      intro p k b hp hk hb
      obtain ⟨k, rfl⟩ : ∃ k', k = k' + 1 := ⟨k - 1, by omega⟩
      rw [fX12_cleared_87, if_neg (show ¬ (6 : Int32) ≤ nI p from nI_ge (b := 6) (by omega) (by omega)), d_owedAll hn hD (by omega), d_owesAll hn hD (by omega), d_owedAll hn hD hb, d_owesAll hn hD hb, rch]
      simp only [bnd_x, nI_1, Option.bind_some]
      by_cases z : wrt D p ≤ wrt D b
      · rw [if_pos z, if_pos (show nI (sC D p 6 0) - nI (sR D p 6 0) ≤ nI (sC D b 6 0) - nI (sR D b 6 0) from z)]
        exact ih (p + 1) k b (by omega) (by omega) hb
      · rw [if_neg z, if_neg (show ¬ nI (sC D p 6 0) - nI (sR D p 6 0) ≤ nI (sC D b 6 0) - nI (sR D b 6 0) from z)]
        exact ih (p + 1) k p (by omega) (by omega) (by omega)
  exact main 5 1 n 0 rfl (by omega) (by omega)
