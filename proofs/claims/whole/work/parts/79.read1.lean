/-! THE LAW'S TEXT: both readers, side by side -/
def sb (b : Nat) : Int32 := (nI b).toInt8.toInt32
theorem sb_s : ∀ b, b < 256 → ((b < 128 ∧ sb b = nI b) ∨ (128 ≤ b ∧ sb b < 0)) := by decide +kernel
def WP (c0 d0 : St) (K nt : Nat) (tp : Nat → Nat) : Prop := nt ≤ 120 ∧ (K = 18 ∨ K = 23) ∧ gI c0 21 1 = nI nt ∧ gI c0 21 3 = nI K ∧ gI d0 0 25 = nI nt ∧ ∀ j, j < nt → tp j < 256 ∧ gI c0 22 j = nI (tp j) ∧ gI d0 19 j = sb (tp j)
/-- the byte at a place; 256: none -/
def ch (tp : Nat → Nat) (nt a : Nat) : Nat := if a < nt then tp a else 256
def lkv (tp : Nat → Nat) (nt a : Nat) : Int32 := if a < nt then sb (tp a) else -1
def CB (c0 c : St) (K : Nat) : Prop := (∀ k i, ¬ (k = 21 ∧ (i = 2 ∨ i = 4)) → k ≠ K → gI c k i = gI c0 k i) ∧ ∀ k, gL c k = gL c0 k
def DB (d0 d : St) : Prop := (∀ k i, ¬ (k = 0 ∧ 26 ≤ i ∧ i ≤ 29) → ¬ ((k = 20 ∨ k = 21) ∧ 130 ≤ i) → ¬ (k = 22 ∧ i = 1) → ¬ ((k = 23 ∨ k = 24) ∧ 61 ≤ i) → gI d k i = gI d0 k i) ∧ ∀ k, gL d k = gL d0 k
def cdT (d : St) (TL : List Tk) : Prop := ∀ i (h : i < TL.length), gI d 20 (130 + i) = nI (TL[i].1) ∧ gI d 21 (130 + i) = TL[i].2
/-- the class reads on: at a place -/
def PQ (c0 c : St) (K a : Nat) : Prop := CB c0 c K ∧ gI c 21 2 = nI a
def PC (c0 c : St) (K a : Nat) (CL : List Int32) : Prop := PQ c0 c K a ∧ gI c 21 4 = nI CL.length ∧ cod (gI c K) 0 CL
/-- the class has not seen yet that it can't go on -/
def PS (c0 c : St) (K a : Nat) : Prop := PQ c0 c K a ∧ ∃ m : Nat, m ≤ 121 ∧ gI c 21 4 = nI m
def PD (d0 d : St) (a o : Nat) (TL : List Tk) : Prop := DB d0 d ∧ gI d 0 26 = nI a ∧ gI d 0 27 = -1 ∧ gI d 0 28 = nI o ∧ gI d 0 29 = nI TL.length ∧ cdT d TL
/-- the reference has a fault -/
def PG (d0 d : St) (nt a l : Nat) : Prop := DB d0 d ∧ gI d 0 27 = nI a ∧ gI d 0 29 = nI l ∧ ∃ p : Nat, p ≤ nt ∧ gI d 0 26 = nI p
/-- lines are as they were -/
def rwL (d d' : St) : Prop := ∀ k, 22 ≤ k → k ≤ 24 → gI d' k = gI d k
theorem rwL_rf (d : St) : rwL d d := fun _ _ _ => rfl
theorem rwL_tr {a b c : St} (h1 : rwL a b) (h2 : rwL b c) : rwL a c := fun k p q => (h2 k p q).trans (h1 k p q)
theorem rwL_sI (d : St) {k : Nat} (i : Nat) (v : Int32) (hk : k < 22) : rwL d (sI d k i v) := fun a p q => by rw [gI_sIx, if_neg (by omega)]
theorem lkv_eq {c0 d0 : St} {K nt : Nat} {tp : Nat → Nat} (H : WP c0 d0 K nt tp) (a x : Nat) (hx : x < 128) : (lkv tp nt a = nI x) ↔ ch tp nt a = x := by
  unfold lkv ch
  by_cases z : a < nt
  · rw [if_pos z, if_pos z]
    rcases sb_s (tp a) (H.2.2.2.2.2 a z).1 with ⟨h1, h2⟩ | ⟨h1, h2⟩
    · rw [h2, nIeq (by omega) (by omega)]
    · refine ⟨fun q => ?_, fun q => by omega⟩
      rw [q] at h2
      exact absurd h2 (nI_pos (by omega))
  · rw [if_neg z, if_neg z]
    exact ⟨fun q => absurd q.symm (neg1_nI (by omega)), fun q => by omega⟩
theorem CB_len {c0 d0 c : St} {K nt : Nat} {tp : Nat → Nat} (H : WP c0 d0 K nt tp) (h : CB c0 c K) : gI c 21 1 = nI nt ∧ gI c 21 3 = nI K ∧ ∀ j, j < nt → gI c 22 j = nI (tp j) := by
  obtain ⟨h1, h2, h3, h4, h5, h6⟩ := H
  refine ⟨by rw [h.1 21 1 (by omega) (by omega), h3], by rw [h.1 21 3 (by omega) (by omega), h4], fun j hj => by rw [h.1 22 j (by omega) (by omega), (h6 j hj).2.1]⟩
/-- 'is there such a byte here' -/
theorem c_test {α : Type} {c0 d0 c : St} {K nt a : Nat} {tp : Nat → Nat} (H : WP c0 d0 K nt tp) (h : PQ c0 c K a) (ha : a ≤ nt) (x : Nat) (hx : x < 128) (A B : Option α) : (if gI c 21 1 ≤ gI c 21 2 then A else gd (inB (gI c 21 2) 120) (if gI c 22 (gI c 21 2).toNatClampNeg = nI x then B else A)) = if ch tp nt a = x then B else A := by
  obtain ⟨h1, h2, h3⟩ := CB_len H h.1
  have hn := H.1
  rw [h1, h.2]
  unfold ch
  by_cases z : a < nt
  · have ht := (H.2.2.2.2.2 a z).1
    rw [if_neg (nI_ge z (by omega)), inB_t (show a < 120 by omega) (by omega), gd_true, nIc (by omega), h3 a z, if_pos z]
    by_cases w : tp a = x
    · rw [if_pos w, if_pos (by rw [w])]
    · rw [if_neg w, if_neg (fun q => w (by rw [nIeq (by omega) (by omega)] at q; exact q))]
  · rw [if_neg z, if_neg (show ¬ 256 = x by omega)]
    rw [if_pos (nI_le (by omega) (by omega))]
theorem PQ_adv {c0 c : St} {K a : Nat} (h : PQ c0 c K a) : PQ c0 (sI c 21 2 (nI (a + 1))) K (a + 1) := by
  refine ⟨⟨fun k i p q => ?_, h.1.2⟩, by rw [gIp, if_pos ⟨rfl, rfl⟩]⟩
  rw [gIp, if_neg (by omega)]
  exact h.1.1 k i p q
theorem PC_adv {c0 c : St} {K a : Nat} {CL : List Int32} (hK : K = 18 ∨ K = 23) (h : PC c0 c K a CL) : PC c0 (sI c 21 2 (nI (a + 1))) K (a + 1) CL := by
  refine ⟨PQ_adv h.1, by rw [gIp, if_neg (by omega)]; exact h.2.1, fun i hi => ?_⟩
  rw [gIp, if_neg (by omega)]
  exact h.2.2 i hi
theorem cod_snoc {f g : Nat → Int32} {L : List Int32} {v : Int32} (h : cod f 0 L) (h1 : ∀ i, i < L.length → g i = f i) (h2 : g L.length = v) : cod g 0 (L ++ [v]) := by
  intro i hi
  simp only [List.length_append, List.length_cons, List.length_nil] at hi
  by_cases e : i < L.length
  · rw [List.getElem_append_left e, Nat.zero_add, h1 i e]
    have := h i e
    rw [Nat.zero_add] at this
    exact this
  · have e2 : i = L.length := by omega
    subst e2
    rw [Nat.zero_add, h2]
    simp
theorem PQ_add {c0 d0 c : St} {K nt a m : Nat} {tp : Nat → Nat} (H : WP c0 d0 K nt tp) (h : PQ c0 c K a) (hm : gI c 21 4 = nI m) (hm2 : m < 121) (v : Int32) : ∃ c', fX5_add c v = some c' ∧ PQ c0 c' K a ∧ gI c' 21 4 = nI (m + 1) ∧ (∀ i, i < m → gI c' K i = gI c K i) ∧ gI c' K m = v := by
  obtain ⟨h1, h2, h3⟩ := CB_len H h.1
  have hK := H.2.1
  unfold fX5_add
  have hcd : cdB (nI K) = true := by rcases hK with rfl | rfl <;> decide
  rw [hm, h2, if_neg (show ¬ (121 : Int32) ≤ nI m from nI_ge (b := 121) (by omega) (by omega)), hcd, gd_true, inB_t (show m < 121 by omega) (by omega), gd_true, nIc (by omega), nIc (by omega), bnd_x, bnd_x, gI_sIx, if_neg (by omega), hm, nI_1]
  refine ⟨_, rfl, ⟨⟨fun k i p q => ?_, h.1.2⟩, ?_⟩, ?_, fun i hi => ?_, ?_⟩
  · rw [gIp, if_neg (by omega), gIp, if_neg (by omega)]
    exact h.1.1 k i p q
  · rw [gIp, if_neg (by omega), gIp, if_neg (by omega)]
    exact h.2
  · rw [gIp, if_pos ⟨rfl, rfl⟩]
  · rw [gIp, if_neg (by omega), gIp, if_neg (by omega)]
  · rw [gIp, if_neg (by omega), gIp, if_pos ⟨rfl, rfl⟩]
theorem PC_add {c0 d0 c : St} {K nt a : Nat} {tp : Nat → Nat} {CL : List Int32} (H : WP c0 d0 K nt tp) (h : PC c0 c K a CL) (hm : CL.length < 121) (v : Int32) : ∃ c', fX5_add c v = some c' ∧ PC c0 c' K a (CL ++ [v]) := by
  obtain ⟨c', e1, e2, e3, e4, e5⟩ := PQ_add H h.1 h.2.1 hm v
  exact ⟨c', e1, e2, by rw [e3]; simp, cod_snoc h.2.2 e4 e5⟩
theorem PS_add {c0 d0 c : St} {K nt a : Nat} {tp : Nat → Nat} (H : WP c0 d0 K nt tp) (h : PS c0 c K a) (v : Int32) : ∃ c', fX5_add c v = some c' ∧ PS c0 c' K a := by
  obtain ⟨h1, m, h2, h3⟩ := h
  by_cases z : m < 121
  · obtain ⟨c', e1, e2, e3, -, -⟩ := PQ_add H h1 h3 z v
    exact ⟨c', e1, e2, m + 1, by omega, e3⟩
  · refine ⟨c, ?_, h1, m, h2, h3⟩
    unfold fX5_add
    rw [h3, if_pos (show (121 : Int32) ≤ nI m from nI_le (a := 121) (by omega) (by omega))]
theorem PC_S {c0 c : St} {K a : Nat} {CL : List Int32} (h : PC c0 c K a CL) (hl : CL.length ≤ 121) : PS c0 c K a := ⟨h.1, CL.length, hl, h.2.1⟩
/-- the reference's side -/
theorem d_look {c0 d0 d : St} {K nt a : Nat} {tp : Nat → Nat} (H : WP c0 d0 K nt tp) (h : DB d0 d) (h26 : gI d 0 26 = nI a) (ha : a ≤ nt) : fX12_look d = some (lkv tp nt a) := by
  have hn := H.1
  unfold fX12_look lkv
  rw [h26, h.1 0 25 (by omega) (by omega) (by omega) (by omega), H.2.2.2.2.1]
  by_cases z : a < nt
  · rw [if_neg (nI_ge z (by omega)), inB_t (show a < 120 by omega) (by omega), gd_true, nIc (by omega), h.1 19 a (by omega) (by omega) (by omega) (by omega), (H.2.2.2.2.2 a z).2.2, if_pos z]
  · rw [if_pos (nI_le (by omega) (by omega)), if_neg z]
theorem DB_sI0 {d0 d : St} {i : Nat} {v : Int32} (h : DB d0 d) (hi : 26 ≤ i ∧ i ≤ 29) : DB d0 (sI d 0 i v) := ⟨fun k j p q r s => by rw [gIp, if_neg (by omega)]; exact h.1 k j p q r s, h.2⟩
theorem cdT_0 {d : St} {TL : List Tk} {i : Nat} {v : Int32} (h : cdT d TL) : cdT (sI d 0 i v) TL := fun j hj => by
  rw [gIp, if_neg (by omega), gIp, if_neg (by omega)]
  exact h j hj
theorem PD_adv {d0 d : St} {a o : Nat} {TL : List Tk} (h : PD d0 d a o TL) : PD d0 (sI d 0 26 (nI (a + 1))) (a + 1) o TL := by
  obtain ⟨h1, h2, h3, h4, h5, h6⟩ := h
  exact ⟨DB_sI0 h1 (by omega), by rw [gIp, if_pos ⟨rfl, rfl⟩], by rw [gIp, if_neg (by omega)]; exact h3, by rw [gIp, if_neg (by omega)]; exact h4, by rw [gIp, if_neg (by omega)]; exact h5, cdT_0 h6⟩
theorem PD_open {d0 d : St} {a o p : Nat} {TL : List Tk} (h : PD d0 d a o TL) : PD d0 (sI d 0 28 (nI p)) a p TL := by
  obtain ⟨h1, h2, h3, h4, h5, h6⟩ := h
  exact ⟨DB_sI0 h1 (by omega), by rw [gIp, if_neg (by omega)]; exact h2, by rw [gIp, if_neg (by omega)]; exact h3, by rw [gIp, if_pos ⟨rfl, rfl⟩], by rw [gIp, if_neg (by omega)]; exact h5, cdT_0 h6⟩
theorem d_step {d0 d : St} {l : Nat} (h : DB d0 d) (h29 : gI d 0 29 = nI l) (hl : l < 130) (x y : Int32) : ∃ d', fX12_addStep d x y = some d' ∧ DB d0 d' ∧ gI d' 0 29 = nI (l + 1) ∧ (∀ i, i ≠ 29 → gI d' 0 i = gI d 0 i) ∧ (∀ i, i < l → gI d' 20 (130 + i) = gI d 20 (130 + i) ∧ gI d' 21 (130 + i) = gI d 21 (130 + i)) ∧ gI d' 20 (130 + l) = vp_nar .byte x.toInt8.toInt32 ∧ gI d' 21 (130 + l) = y ∧ rwL d d' := by
  unfold fX12_addStep
  simp only [gI_sIx, Nat.reduceEqDiff, reduceIte, h29, show (130 : Int32) + nI l = nI (130 + l) from nI_add 130 l, inB_t (show 130 + l < 260 by omega) (by omega), gd_true, bnd_x, nIc (show 130 + l < 100000 by omega), nI_1]
  refine ⟨_, rfl, ⟨fun k i p q r s => ?_, h.2⟩, ?_, fun i hi => ?_, fun i hi => ⟨?_, ?_⟩, ?_, ?_, fun k p q => ?_⟩
  · rw [gIp, if_neg (by omega), gIp, if_neg (by omega), gIp, if_neg (by omega)]
    exact h.1 k i p q r s
  · rw [gIp, if_pos ⟨rfl, rfl⟩]
  · rw [gIp, if_neg (by omega), gIp, if_neg (by omega), gIp, if_neg (by omega)]
  · rw [gIp, if_neg (by omega), gIp, if_neg (by omega), gIp, if_neg (by omega)]
  · rw [gIp, if_neg (by omega), gIp, if_neg (by omega), gIp, if_neg (by omega)]
  · rw [gIp, if_neg (by omega), gIp, if_neg (by omega), gIp, if_pos ⟨rfl, rfl⟩]
  · rw [gIp, if_neg (by omega), gIp, if_pos ⟨rfl, rfl⟩]
  · rw [gI_sIx, if_neg (by omega), gI_sIx, if_neg (by omega), gI_sIx, if_neg (by omega)]
theorem nar_b : ∀ x, x < 128 → vp_nar .byte (nI x).toInt8.toInt32 = nI x := by decide +kernel
theorem PD_add {d0 d : St} {a o : Nat} {TL : List Tk} (h : PD d0 d a o TL) (hl : TL.length < 130) (x : Nat) (hx : x < 128) (y : Int32) : ∃ d', fX12_addStep d (nI x) y = some d' ∧ PD d0 d' a o (TL ++ [(x, y)]) ∧ rwL d d' := by
  obtain ⟨h1, h2, h3, h4, h5, h6⟩ := h
  obtain ⟨d', e1, e2, e3, e4, e5, e6, e7, e8⟩ := d_step h1 h5 hl (nI x) y
  refine ⟨d', e1, ⟨e2, by rw [e4 26 (by omega)]; exact h2, by rw [e4 27 (by omega)]; exact h3, by rw [e4 28 (by omega)]; exact h4, by rw [e3]; simp, fun i hi => ?_⟩, e8⟩
  simp only [List.length_append, List.length_cons, List.length_nil] at hi
  by_cases e : i < TL.length
  · rw [List.getElem_append_left e, (e5 i e).1, (e5 i e).2]
    exact h6 i e
  · have ei : i = TL.length := by omega
    subst ei
    rw [e6, e7, nar_b x hx]
    simp
theorem PG_add {d0 d : St} {nt a l : Nat} (h : PG d0 d nt a l) (hl : l < 130) (x y : Int32) : ∃ d', fX12_addStep d x y = some d' ∧ PG d0 d' nt a (l + 1) ∧ rwL d d' := by
  obtain ⟨h1, h2, h3, p, h4, h5⟩ := h
  obtain ⟨d', e1, e2, e3, e4, e5, e6, e7, e8⟩ := d_step h1 h3 hl x y
  exact ⟨d', e1, ⟨e2, by rw [e4 27 (by omega)]; exact h2, e3, p, h4, by rw [e4 26 (by omega)]; exact h5⟩, e8⟩
theorem PD_wrong {d0 d : St} {nt a o : Nat} {TL : List Tk} (h : PD d0 d a o TL) (ha : a ≤ nt) : PG d0 (fX12_wrong d) nt a TL.length ∧ rwL d (fX12_wrong d) := by
  obtain ⟨h1, h2, h3, h4, h5, h6⟩ := h
  unfold fX12_wrong
  rw [h3, if_neg (by decide), bnd_x, h2]
  exact ⟨⟨DB_sI0 h1 (by omega), by rw [gIp, if_pos ⟨rfl, rfl⟩], by rw [gIp, if_neg (by omega)]; exact h5, a, ha, by rw [gIp, if_neg (by omega)]; exact h2⟩, rwL_sI d 27 _ (by omega)⟩
theorem PG_f {d0 d : St} {nt a l : Nat} (h : PG d0 d nt a l) (ha : a ≤ 120) : 0 ≤ gI d 0 27 := by
  rw [h.2.1]
  exact nI_pos' (by omega)
theorem PD_f {d0 d : St} {a o : Nat} {TL : List Tk} (h : PD d0 d a o TL) : ¬ 0 ≤ gI d 0 27 := by
  rw [h.2.2.1]
  decide
