/-! ears -/
theorem d_told {c d : St} {s ln j : Nat} (hs : s < 6) (hR : rwE c d s ln) (hj : j < 60) : fX12_told d (nI s) (nI j) = some (eR c s j) := by
  unfold fX12_told
  rw [show (60 : Int32) * nI s + nI j = nI (60 * s + j) by rw [show (60 : Int32) = nI 60 from rfl, pk_mul, nI_add], inB_t (show 60 * s + j < 360 by omega) (by omega), gd_true, nIc (by omega), (hR.2.2.2 j hj).2]
  rfl
theorem nk2 (a : Nat) : nI a + 2 = nI (a + 2) := nI_add a 2
theorem nk3 (a : Nat) : nI a + 3 = nI (a + 3) := nI_add a 3
theorem nk4 (a : Nat) : nI a + 4 = nI (a + 4) := nI_add a 4
theorem ap_sym {a b : Nat} (ha : a < 100000) (hb : b < 100000) : fX12_apart (nI a) (nI b) = fX12_apart (nI b) (nI a) := by
  unfold fX12_apart
  by_cases h : b ≤ a
  · by_cases h2 : a ≤ b
    · rw [show a = b by omega]
    · rw [if_pos (nI_le h (by omega)), if_neg (nI_ge (by omega) (by omega))]
  · rw [if_neg (nI_ge (by omega) (by omega)), if_pos (nI_le (by omega) (by omega))]
def in19 (x : Int32) : Bool := decide (0 ≤ x ∧ x ≤ 19)
def hrd (E : Nat → Int32) : Nat → Nat → Bool
  | 0, _ => true
  | r + 1, j => in19 (E (3 * j)) && (in19 (E (3 * j + 1)) && hrd E r (j + 1))
theorem hrd_at {E : Nat → Int32} : ∀ r j, hrd E r j = true → ∀ i, j ≤ i → i < j + r → (0 ≤ E (3 * i) ∧ E (3 * i) ≤ 19) ∧ (0 ≤ E (3 * i + 1) ∧ E (3 * i + 1) ≤ 19) := by
  intro r
  induction r with
  | zero => intro j _ i h1 h2; omega
  | succ r ih =>
    intro j h i h1 h2
    rw [hrd, Bool.and_eq_true, Bool.and_eq_true] at h
    by_cases e : i = j
    · rw [e]
      exact ⟨of_decide_eq_true h.1, of_decide_eq_true h.2.1⟩
    · exact ih (j + 1) h.2.2 i (by omega) (by omega)
/-- whether all are as they may be, in the reference -/
theorem d_heard {n : Nat} {c d : St} {s ln : Nat} (hs : s < 6) (hR : rwE c d s ln) {R : Nat} (hl : ln = 3 * R) : ∀ (r j k : Nat), j + r = R → r < k → fX12_areHeard_2 n d k (nI s) (nI (3 * j)) = some (if 0 < R then hrd (eR c s) r j else false) := by
  have hl60 := hR.1
  intro r
  induction r with
  | zero =>
    intro j k hj hk
    obtain ⟨k, rfl⟩ : ∃ k', k = k' + 1 := ⟨k - 1, by omega⟩
    rw [fX12_areHeard_2, inB_t hs (by omega), gd_true, gd_true, nIc (by omega), hR.2.2.1, if_pos (nI_le (by omega) (by omega))]
    by_cases z : 0 < R
    · rw [if_pos z, if_neg (show ¬ nI ln ≤ 0 from nI_ge (a := 0) (by omega) (by omega))]
      rfl
    · rw [if_neg z, if_pos (show nI ln ≤ 0 from nI_le (b := 0) (by omega) (by omega))]
  | succ r ih =>
    intro j k hj hk
    obtain ⟨k, rfl⟩ : ∃ k', k = k' + 1 := ⟨k - 1, by omega⟩
    rw [if_pos (show 0 < R by omega)]
    have ih' := ih (j + 1) k (by omega) (by omega)
    rw [if_pos (show 0 < R by omega)] at ih'
    rw [fX12_areHeard_2, inB_t hs (by omega)]
    simp only [gd_true, nIc (show s < 100000 by omega), hR.2.2.1, nk2, nk3, nI_1, bnd_x]
    rw [if_neg (show ¬ nI ln ≤ nI (3 * j) from nI_ge (by omega) (by omega)), if_neg (show ¬ nI ln ≤ nI (3 * j + 2) from nI_ge (by omega) (by omega)), d_told hs hR (show 3 * j < 60 by omega), Option.bind_some, d_told hs hR (show 3 * j + 1 < 60 by omega), Option.bind_some, isI, isI, if_bI, if_bI, show 3 * j + 3 = 3 * (j + 1) by omega, ih', hrd]
    show cond (in19 (eR c s (3 * j))) (cond (in19 (eR c s (3 * j + 1))) (some (hrd (eR c s) r (j + 1))) (some false)) (some false) = _
    cases in19 (eR c s (3 * j)) <;> cases in19 (eR c s (3 * j + 1)) <;> rfl
theorem d_heard_n {n : Nat} {c d : St} {s ln : Nat} (hs : s < 6) (hR : rwE c d s ln) (hl : ¬ ln % 3 = 0) : ∀ (r j k : Nat), j + r = 20 → r < k → 3 * j < ln → fX12_areHeard_2 n d k (nI s) (nI (3 * j)) = some false := by
  have hl60 := hR.1
  intro r
  induction r with
  | zero => intro j k hj hk h; omega
  | succ r ih =>
    intro j k hj hk h
    obtain ⟨k, rfl⟩ : ∃ k', k = k' + 1 := ⟨k - 1, by omega⟩
    rw [fX12_areHeard_2, inB_t hs (by omega)]
    simp only [gd_true, nIc (show s < 100000 by omega), hR.2.2.1, nk2, nk3, nI_1, bnd_x]
    rw [if_neg (show ¬ nI ln ≤ nI (3 * j) from nI_ge (by omega) (by omega))]
    by_cases z : ln ≤ 3 * j + 2
    · rw [if_pos (show nI ln ≤ nI (3 * j + 2) from nI_le z (by omega))]
    · rw [if_neg (show ¬ nI ln ≤ nI (3 * j + 2) from nI_ge (by omega) (by omega)), d_told hs hR (show 3 * j < 60 by omega), Option.bind_some, d_told hs hR (show 3 * j + 1 < 60 by omega), Option.bind_some, show 3 * j + 3 = 3 * (j + 1) by omega, ih (j + 1) k (by omega) (by omega) (by omega)]
      simp only [ite_self]
/-- when it was cried at a cell, by one who heard it -/
def hB (E : Nat → Int32) (xy j : Nat) : Int32 := E (3 * j + 2) - (abI (E (3 * j) - nI (xy % 20)) + abI (E (3 * j + 1) - nI (xy / 20)))
def mcr (B : Nat → Int32) : Nat → Nat → Int32 → Int32
  | 0, _, m => m
  | r + 1, j, m => if B j < 0 then -1 else if j = 0 then mcr B r (j + 1) (B j) else if B j = m then mcr B r (j + 1) (B j) else -1
theorem c_mcr {n : Nat} {c c0 d0 : St} {s ln R xy : Nat} (hR : rwE c0 d0 s ln) (hl : ln = 3 * R) (hxy : xy < 400) (h53 : gI c (53 + 2 * s) = gI c0 (53 + 2 * s)) (h54 : gL c (54 + 2 * s) = gL c0 (54 + 2 * s)) (hR1 : 0 < R) : ∀ (r j k : Nat) (m : Int32), j + r = R → r < k → fX8_minuteCried_5 n c k s (nI xy) m (nI (3 * j)) = some (mcr (hB (eR c0 s) xy) r j m) := by
  have hl60 := hR.1
  have e20 : rmI (nI xy) 20 = nI (xy % 20) := rm_nI (d := 20) (by omega) (by omega) (by omega)
  have e21 : nI xy / 20 = nI (xy / 20) := dv_nI (d := 20) (by omega) (by omega) (by omega)
  intro r
  induction r with
  | zero =>
    intro j k m hj hk
    obtain ⟨k, rfl⟩ : ∃ k', k = k' + 1 := ⟨k - 1, by omega⟩
    rw [fX8_minuteCried_5, h53, hR.2.1, show (3 : Int32) = nI 3 from rfl, pk_sub (by omega), if_pos (nI_lt (by omega) (by omega))]
    rfl
  | succ r ih =>
    intro j k m hj hk
    obtain ⟨k, rfl⟩ : ∃ k', k = k' + 1 := ⟨k - 1, by omega⟩
    have ih' := fun m => ih (j + 1) k m (by omega) (by omega)
    rw [show 3 * (j + 1) = 3 * j + 3 by omega] at ih'
    rw [fX8_minuteCried_5, h53, h54, hR.2.1, e20, e21]
    simp only [nk2, nk3, nI_1]
    rw [show nI ln - 3 = nI (ln - 3) from pk_sub (b := 3) (by omega), if_neg (nI_nlt (by omega) (by omega)), inB_t (show 3 * j < 60 by omega) (by omega), inB_t (show 3 * j + 1 < 60 by omega) (by omega), inB_t (show 3 * j + 2 < 60 by omega) (by omega)]
    simp only [gd_true, bnd_x, nIc (show 3 * j < 100000 by omega), nIc (show 3 * j + 1 < 100000 by omega), nIc (show 3 * j + 2 < 100000 by omega), ih']
    rw [mcr]
    show (if hB (eR c0 s) xy j < 0 then some (-1) else if nI (3 * j) ≤ 0 then some (mcr (hB (eR c0 s) xy) r (j + 1) (hB (eR c0 s) xy j)) else if hB (eR c0 s) xy j = m then some (mcr (hB (eR c0 s) xy) r (j + 1) (hB (eR c0 s) xy j)) else some (-1)) = _
    by_cases z1 : hB (eR c0 s) xy j < 0
    · rw [if_pos z1, if_pos z1]
    · rw [if_neg z1, if_neg z1]
      by_cases z2 : j = 0
      · rw [if_pos z2, if_pos (show nI (3 * j) ≤ 0 from nI_le (b := 0) (by omega) (by omega))]
      · rw [if_neg z2, if_neg (show ¬ nI (3 * j) ≤ 0 from nI_ge (a := 0) (by omega) (by omega))]
        by_cases z3 : hB (eR c0 s) xy j = m
        · rw [if_pos z3, if_pos z3]
        · rw [if_neg z3, if_neg z3]
theorem d_mcr {n : Nat} {c d : St} {s ln R xy : Nat} (hs : s < 6) (hR : rwE c d s ln) (hl : ln = 3 * R) (hxy : xy < 400) (hH : hrd (eR c s) R 0 = true) : ∀ (r j k : Nat) (m : Int32), j + r = R → r < k → fX12_criedBy_5 n d k (nI s) (nI xy) m (nI (3 * j)) = some (mcr (hB (eR c s) xy) r j m) := by
  have hl60 := hR.1
  have e20 : rmI (nI xy) 20 = nI (xy % 20) := rm_nI (d := 20) (by omega) (by omega) (by omega)
  have e21 : nI xy / 20 = nI (xy / 20) := dv_nI (d := 20) (by omega) (by omega) (by omega)
  intro r
  induction r with
  | zero =>
    intro j k m hj hk
    obtain ⟨k, rfl⟩ : ∃ k', k = k' + 1 := ⟨k - 1, by omega⟩
    rw [fX12_criedBy_5, inB_t hs (by omega), gd_true, nIc (by omega), hR.2.2.1, if_pos (nI_le (by omega) (by omega))]
    rfl
  | succ r ih =>
    intro j k m hj hk
    obtain ⟨k, rfl⟩ : ∃ k', k = k' + 1 := ⟨k - 1, by omega⟩
    have ih' := fun m => ih (j + 1) k m (by omega) (by omega)
    rw [show 3 * (j + 1) = 3 * j + 3 by omega] at ih'
    obtain ⟨a1, a2⟩ := hrd_at R 0 hH j (by omega) (by omega)
    obtain ⟨p, hp, ep⟩ := (in_nat (n := 19) rfl (by omega)).mp a1
    obtain ⟨q, hq, eq⟩ := (in_nat (n := 19) rfl (by omega)).mp a2
    have key : eR c s (3 * j + 2) - fX12_apart (eR c s (3 * j)) (nI (xy % 20)) - fX12_apart (eR c s (3 * j + 1)) (nI (xy / 20)) = hB (eR c s) xy j := by
      unfold hB
      rw [ep, eq, ap_sym (by omega) (by omega), ap_sym (a := q) (by omega) (by omega), ← ab_eq (by omega) (by omega), ← ab_eq (by omega) (by omega)]
      grind
    rw [fX12_criedBy_5, inB_t hs (by omega), gd_true, nIc (by omega), hR.2.2.1, if_neg (nI_ge (by omega) (by omega)), e20, e21]
    simp only [nk2, nk3, nI_1]
    rw [d_told hs hR (show 3 * j + 2 < 60 by omega), Option.bind_some, d_told hs hR (show 3 * j < 60 by omega), Option.bind_some, d_told hs hR (show 3 * j + 1 < 60 by omega), Option.bind_some, key]
    simp only [bnd_x, ih']
    rw [mcr]
    by_cases z1 : hB (eR c s) xy j < 0
    · rw [if_pos z1, if_pos z1]
    · rw [if_neg z1, if_neg z1]
      by_cases z2 : j = 0
      · rw [if_pos z2, if_pos (show nI (3 * j) ≤ 0 from nI_le (b := 0) (by omega) (by omega))]
      · rw [if_neg z2, if_neg (show ¬ nI (3 * j) ≤ 0 from nI_ge (a := 0) (by omega) (by omega))]
        by_cases z3 : hB (eR c s) xy j = m
        · rw [if_pos z3, if_pos z3]
        · rw [if_neg z3, if_neg z3]
def erl (C : Nat → Int32) : Nat → Nat → Nat → Int32 → Int32 → Nat × Int32 × Int32
  | 0, _, m, f, i => (m, f, i)
  | r + 1, x, m, f, i => if C x < 0 then erl C r (x + 1) m f i else erl C r (x + 1) (m + 1) (if m = 0 then nI x else f) (if m = 0 then C x else i)
def ivE (C : Nat → Int32) (q : Nat × Int32 × Int32) : Prop := (q.1 = 0 ∧ q.2.1 = -2 ∧ q.2.2 = -2) ∨ (0 < q.1 ∧ ∃ j, j < 400 ∧ q.2.1 = nI j ∧ q.2.2 = C j)
theorem erl_iv {C : Nat → Int32} : ∀ r x m f i, x + r = 400 → ivE C (m, f, i) → ivE C (erl C r x m f i) := by
  intro r
  induction r with
  | zero => intro x m f i _ h; exact h
  | succ r ih =>
    intro x m f i hx h
    rw [erl]
    by_cases z : C x < 0
    · rw [if_pos z]; exact ih (x + 1) m f i (by omega) h
    · rw [if_neg z]
      refine ih (x + 1) _ _ _ (by omega) (Or.inr ⟨Nat.succ_pos _, ?_⟩)
      by_cases z0 : m = 0
      · exact ⟨x, by omega, if_pos z0, if_pos z0⟩
      · rcases h with h | ⟨h1, j, h2, h3, h4⟩
        · exact absurd h.1 z0
        · exact ⟨j, h2, (if_neg z0).trans h3, (if_neg z0).trans h4⟩
/-- what the class writes of those who saw or heard -/
def Qn (c c' : St) : Prop := (∀ k, k ≠ 36 → k ≠ 37 → k ≠ 38 → gI c' k = gI c k) ∧ ∀ k, gL c' k = gL c k
theorem Qn_q {c c' : St} (h : Qn c c') : Qc c c' := ⟨fun k q => h.1 k (by omega) (by omega) (by omega), h.2⟩
theorem Qn_rf (c : St) : Qn c c := ⟨fun _ _ _ _ => rfl, fun _ => rfl⟩
theorem Qn_tr {a b c : St} (h1 : Qn a b) (h2 : Qn b c) : Qn a c := ⟨fun k p q r => (h2.1 k p q r).trans (h1.1 k p q r), fun k => (h2.2 k).trans (h1.2 k)⟩
theorem Qn_sI (c : St) (k i : Nat) (v : Int32) (hk : k = 36 ∨ k = 37 ∨ k = 38) : Qn c (sI c k i v) := ⟨fun a h1 h2 h3 => by rw [gI_sIx, if_neg (by omega)], fun _ => rfl⟩
theorem Qn_sIs (c : St) (k : Nat) (f : Nat → Int32) (hk : k = 36 ∨ k = 37 ∨ k = 38) : Qn c (sIs c k f) := ⟨fun a h1 h2 h3 => by rw [gI_sIsx, if_neg (by omega)], fun _ => rfl⟩
theorem forget_q (c : St) : Qn c (fX8_forget c) ∧ gI (fX8_forget c) 36 0 = 0 ∧ gI (fX8_forget c) 36 1 = -2 ∧ gI (fX8_forget c) 36 2 = 0 ∧ gI (fX8_forget c) 36 3 = -2 ∧ (∀ j, j < 20 → gI (fX8_forget c) 38 j = 0) := by
  unfold fX8_forget
  simp only [bnd_x]
  refine ⟨Qn_tr (Qn_tr (Qn_tr (Qn_tr (Qn_sI _ _ _ _ (by omega)) (Qn_sI _ _ _ _ (by omega))) (Qn_sI _ _ _ _ (by omega))) (Qn_sI _ _ _ _ (by omega))) (Qn_sIs _ _ _ (by omega)), ?_, ?_, ?_, ?_, fun j hj => ?_⟩
  · rw [gI_sIsx, if_neg (by omega), gIp, if_neg (by omega), gIp, if_neg (by omega), gIp, if_neg (by omega), gIp, if_pos ⟨rfl, rfl⟩]
  · rw [gI_sIsx, if_neg (by omega), gIp, if_neg (by omega), gIp, if_neg (by omega), gIp, if_pos ⟨rfl, rfl⟩]
  · rw [gI_sIsx, if_neg (by omega), gIp, if_neg (by omega), gIp, if_pos ⟨rfl, rfl⟩]
  · rw [gI_sIsx, if_neg (by omega), gIp, if_pos ⟨rfl, rfl⟩]
  · rw [gI_sIsx, if_pos rfl]
    show (if j < 20 then (0 : Int32) else _) = 0
    rw [if_pos hj]
