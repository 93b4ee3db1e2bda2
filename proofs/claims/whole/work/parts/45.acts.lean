/-! acts: the class runs bodies by a table, the reference by names -/
abbrev RunT : Type := Nat → St → Int32 → Int32 → Int32 → Int32 → Option (Int32 × St)
def tFB : List (List Int32) := [[1, 10, 11, 2], [20, 10, 11, 2], [1, 30, 11, 2], [1, 41, 40, 2], [20, 10, 11, 50], [1, 41, 60, 61], [70, 10, 11, 2], [81, 80, 11, 2]]
def fb (k a : Nat) : Int32 := (tFB.getD k []).getD a 0
set_option maxHeartbeats 4000000 in
theorem run_t (G : RunT) (n m : Nat) (st : St) (v2 v4 v5 : Int32) {k a : Nat} (hk : k < 8) (ha : a < 4) : fX0_runFromg_6 G n (m + 9) st v2 (nI a) v4 v5 (nI k) 0 = if 20 ≤ v5 then some (0, st) else (G n st (fb k a) v2 v4 (v5 + 1)).bind (fun r => some (r.1, r.2)) := by
  rcases (show k = 0 ∨ k = 1 ∨ k = 2 ∨ k = 3 ∨ k = 4 ∨ k = 5 ∨ k = 6 ∨ k = 7 by omega) with rfl | rfl | rfl | rfl | rfl | rfl | rfl | rfl <;>
  rcases (show a = 0 ∨ a = 1 ∨ a = 2 ∨ a = 3 by omega) with rfl | rfl | rfl | rfl <;> rfl
theorem own_t (G : RunT) {n : Nat} (hn : 5000 < n) (st : St) {b k a e : Nat} (hb : b < 50) (hk : k < 8) (ha : a < 4) (he : e < 20) (hkd : gI st 50 b = nI k) (x : Int32) : fX0_ofItsOwng G n st (nI b) (nI a) x (nI e) = G n st (fb k a) (nI b) x (nI (e + 1)) := by
  unfold fX0_ofItsOwng fX0_runFromg
  obtain ⟨m, rfl⟩ : ∃ m, n = m + 9 := ⟨n - 9, by omega⟩
  rw [inB_t hb (by omega), gd_true, nIc (by omega), hkd, run_t G _ m st _ _ _ hk ha, if_neg (show ¬ (20 : Int32) ≤ nI e from nI_ge (b := 20) he (by omega)), nI_1, some_eta, some_eta]
theorem abv_t (G : RunT) {n : Nat} (hn : 5000 < n) (st : St) {k k2 a e : Nat} (hk : k < 8) (hk2 : k2 < 8) (ha : a < 4) (he : e < 20) (h : tb tABOVE k = nI k2) (v2 x : Int32) : fX0_fromAboveg G n st (nI k) v2 (nI a) x (nI e) = G n st (fb k2 a) v2 x (nI (e + 1)) := by
  unfold fX0_fromAboveg fX0_runFromg
  obtain ⟨m, rfl⟩ : ∃ m, n = m + 9 := ⟨n - 9, by omega⟩
  rw [inB_t hk (by omega), gd_true, nIc (by omega), h, run_t G _ m st _ _ _ hk2 ha, if_neg (show ¬ (20 : Int32) ≤ nI e from nI_ge (b := 20) he (by omega)), nI_1, some_eta, some_eta]
/-- what ran so far is alike; nothing else changed -/
def AR (c0 d0 c d : St) (t : Nat) : Prop := (gI c 49 3 = nI t ∧ gI d 0 52 = nI t ∧ (∀ j, j < t → j < 24 → gI d 38 j = gI c 51 j)) ∧ (∀ q x, ¬ (q = 49 ∧ x = 3) → q ≠ 51 → gI c q x = gI c0 q x) ∧ (∀ q, gL c q = gL c0 q) ∧ (∀ q x, ¬ (q = 0 ∧ x = 52) → q ≠ 38 → gI d q x = gI d0 q x) ∧ (∀ q, gL d q = gL d0 q)
def SIM (c0 d0 : St) (t K : Nat) (f g : Option (Int32 × St)) : Prop := ∃ r c' d' t', f = some (r, c') ∧ g = some (r, d') ∧ AR c0 d0 c' d' t' ∧ t' ≤ t + K
theorem rg {c0 d0 c d : St} {t : Nat} (h : AR c0 d0 c d t) (ht : t < 900) (b : Int32) : ∃ c1 d', (∀ (G : RunT) (n : Nat) (v2 v3 v4 : Int32), fX0_rung G n c b v2 v3 v4 = fX0_rung_19 G n c1 b v2 v3 v4) ∧ fX12_ran d b = some d' ∧ AR c0 d0 (sI c1 49 3 (gI c1 49 3 + 1)) d' (t + 1) := by
  obtain ⟨⟨h1, h2, h3⟩, h4, h5, h6, h7⟩ := h
  by_cases q : 24 ≤ t
  · refine ⟨c, sI d 0 52 (nI (t + 1)), fun G n v2 v3 v4 => ?_, ?_, ⟨⟨?_, ?_, fun j hj hj2 => ?_⟩, fun q x a b => ?_, h5, fun q x a b => ?_, h7⟩⟩
    · unfold fX0_rung
      rw [h1, if_pos (show (24 : Int32) ≤ nI t from nI_le (a := 24) q (by omega))]
    · unfold fX12_ran
      rw [h2, if_pos (show (24 : Int32) ≤ nI t from nI_le (a := 24) q (by omega)), nI_1]
      rfl
    · rw [gI_sIx, if_pos rfl, upd_x, if_pos rfl, h1, nI_1]
    · rw [gI_sIx, if_pos rfl, upd_x, if_pos rfl]
    · rw [gI_sIx, if_neg (by omega), gI_sIx, if_neg (by omega)]
      exact h3 j (by omega) hj2
    · rw [gI_sIx]
      by_cases e : q = 49
      · rw [if_pos e, upd_x, if_neg (by omega), ← e]
        exact h4 q x a b
      · rw [if_neg e]
        exact h4 q x a b
    · rw [gI_sIx]
      by_cases e : q = 0
      · rw [if_pos e, upd_x, if_neg (by omega), ← e]
        exact h6 q x a b
      · rw [if_neg e]
        exact h6 q x a b
  · refine ⟨sI c 51 t b, sI (sI d 38 t b) 0 52 (nI (t + 1)), fun G n v2 v3 v4 => ?_, ?_, ⟨⟨?_, ?_, fun j hj hj2 => ?_⟩, fun q x a b => ?_, h5, fun q x a b => ?_, h7⟩⟩
    · unfold fX0_rung
      rw [h1, if_neg (show ¬ (24 : Int32) ≤ nI t from nI_ge (b := 24) (by omega) (by omega)), inB_t (by omega) (by omega), gd_true, nIc (by omega)]
      rfl
    · unfold fX12_ran
      rw [h2, if_neg (show ¬ (24 : Int32) ≤ nI t from nI_ge (b := 24) (by omega) (by omega)), inB_t (by omega) (by omega), gd_true, nIc (by omega)]
      simp only [bnd_x]
      rw [show gI (sI d 38 t b) 0 52 = nI t from h2, nI_1]
    · rw [gI_sIx, if_pos rfl, upd_x, if_pos rfl, show gI (sI c 51 t b) 49 3 = nI t from h1, nI_1]
    · rw [gI_sIx, if_pos rfl, upd_x, if_pos rfl]
    · show (if j = t then b else gI d 38 j) = (if j = t then b else gI c 51 j)
      by_cases e : j = t
      · rw [if_pos e, if_pos e]
      · rw [if_neg e, if_neg e]
        exact h3 j (by omega) hj2
    · rw [gI_sIx]
      by_cases e : q = 49
      · rw [if_pos e, upd_x, if_neg (by omega), gI_sIx, if_neg (by omega), ← e]
        exact h4 q x a b
      · rw [if_neg e, gI_sIx, if_neg b]
        exact h4 q x a b
    · rw [gI_sIx]
      by_cases e : q = 0
      · rw [if_pos e, upd_x, if_neg (by omega), gI_sIx, if_neg (by omega), ← e]
        exact h6 q x a b
      · rw [if_neg e, gI_sIx, if_neg b]
        exact h6 q x a b
theorem gr_s (D : Nat) : grX0 (D + 1) = fX0_rung (grX0 D) := rfl
/-- a body with one act in it -/
theorem SIM_map {c0 d0 : St} {t K : Nat} {f g : Option (Int32 × St)} (F : Int32 → Int32) (h : SIM c0 d0 t K f g) : SIM c0 d0 t K (f.bind (fun r => some (F r.1, r.2))) (g.bind (fun r => some (F r.1, r.2))) := by
  obtain ⟨r, c', d', t', e1, e2, e3, e4⟩ := h
  exact ⟨F r, c', d', t', by rw [e1]; rfl, by rw [e2]; rfl, e3, e4⟩
/-- a body with two -/
theorem SIM_two {c0 d0 : St} {t K L : Nat} {f g : Option (Int32 × St)} {f2 g2 : Int32 × St → Option (Int32 × St)} (F : Int32 → Int32 → Int32) (h : SIM c0 d0 t K f g) (h2 : ∀ r c' d' t', AR c0 d0 c' d' t' → t' ≤ t + K → SIM c0 d0 t' L (f2 (r, c')) (g2 (r, d'))) : SIM c0 d0 t (K + L) (f.bind (fun r => (f2 r).bind (fun q => some (F r.1 q.1, q.2)))) (g.bind (fun r => (g2 r).bind (fun q => some (F r.1 q.1, q.2)))) := by
  obtain ⟨r, c', d', t', e1, e2, e3, e4⟩ := h
  obtain ⟨r2, c2, d2, t2, q1, q2, q3, q4⟩ := h2 r c' d' t' e3 e4
  exact ⟨F r r2, c2, d2, t2, by rw [e1]; show (f2 (r, c')).bind _ = _; rw [q1]; rfl, by rw [e2]; show (g2 (r, d')).bind _ = _; rw [q2]; rfl, q3, by omega⟩
theorem SIM_up {c0 d0 : St} {t t' K L : Nat} {f g : Option (Int32 × St)} (h : SIM c0 d0 t K f g) (hh : t + K ≤ t' + L) : SIM c0 d0 t' L f g := by
  obtain ⟨r, c', d', t2, e1, e2, e3, e4⟩ := h
  exact ⟨r, c', d', t2, e1, e2, e3, by omega⟩
theorem b_1 {c0 d0 c d : St} {t n b : Nat} (hn : 5000 < n) (hb : b < 50) (x : Int32) (G : RunT) (v : Int32) (h : AR c0 d0 c d t) (ht : t < 900) : SIM c0 d0 t 1 (fX0_rung G n c 1 (nI b) x v) (fX12_plainFalls d (nI b) x) := by
  obtain ⟨c1, d', e1, e2, e3⟩ := rg h ht 1
  rw [e1]
  unfold fX12_plainFalls
  rw [e2]
  exact ⟨_, _, _, _, rfl, rfl, e3, by omega⟩
theorem b_11 {c0 d0 c d : St} {t n b : Nat} (hn : 5000 < n) (hb : b < 50) (x : Int32) (G : RunT) (v : Int32) (h : AR c0 d0 c d t) (ht : t < 900) : SIM c0 d0 t 1 (fX0_rung G n c 11 (nI b) x v) (fX12_plainOwes d (nI b) x) := by
  obtain ⟨c1, d', e1, e2, e3⟩ := rg h ht 11
  rw [e1]
  unfold fX12_plainOwes
  rw [e2]
  exact ⟨_, _, _, _, rfl, rfl, e3, by omega⟩
theorem b_70 {c0 d0 c d : St} {t n b e : Nat} (hn : 5000 < n) (hb : b < 50) (x : Int32) (D : Nat) (he : e < 20) (h : AR c0 d0 c d t) (ht : t < 800) : SIM c0 d0 t 2 (fX0_rung (grX0 (D + 1)) n c 70 (nI b) x (nI e)) (fX12_pawnFalls d (nI b) x) := by
  obtain ⟨c1, d', e1, e2, e3⟩ := rg h (by omega) 70
  rw [e1]
  unfold fX12_pawnFalls
  rw [e2, Option.bind_some]
  refine SIM_map (fun z => z * 2) (f := fX0_fromAboveg (grX0 (D + 1)) n (sI c1 49 3 (gI c1 49 3 + 1)) (nI 6) (nI b) (nI 0) x (nI e)) ?_
  rw [abv_t _ hn _ (k2 := 0) (by omega) (by omega) (by omega) he rfl, gr_s]
  exact SIM_up (b_1 hn hb x _ _ e3 (by omega)) (by omega)
theorem a_falls {c0 d0 c d : St} {t n b e k : Nat} (hn : 5000 < n) (hb : b < 50) (x : Int32) (D : Nat) (he : e + 3 < 20) (hk : k < 8) (kc : gI c0 50 b = nI k) (kd : gI d0 37 b = nI k) (h : AR c0 d0 c d t) (ht : t < 790) : SIM c0 d0 t 3 (fX0_ofItsOwng (grX0 (D + 3)) n c (nI b) 0 x (nI e)) (fX12_falling d (nI b) x) := by
  have kc' : gI c 50 b = nI k := by rw [h.2.1 50 b (by omega) (by omega)]; exact kc
  have kd' : gI d 37 b = nI k := by rw [h.2.2.2.1 37 b (by omega) (by omega)]; exact kd
  rw [show (0 : Int32) = nI 0 from rfl, own_t _ hn c hb hk (by omega) (by omega) kc', gr_s]
  unfold fX12_falling
  simp only [inB_t hb (by omega), gd_true, nIc (show b < 100000 by omega), kd', some_eta]
  have p1 := SIM_up (K := 1) (L := 3) (t' := t) (b_1 hn hb x (grX0 (D + 2)) (nI (e + 1)) h (by omega)) (by omega)
  have p20 : SIM c0 d0 t 3 (fX0_rung (grX0 (D + 2)) n c 20 (nI b) x (nI (e + 1))) ((fX12_ran d 20).bind (fun r15 => (fX12_plainFalls r15 (nI b) x).bind (fun r17 => some ((r17.1 + (3 : Int32)), r17.2)))) := by
    obtain ⟨c1, d', e1, e2, e3⟩ := rg h (by omega) 20
    rw [e1, e2, Option.bind_some]
    refine SIM_map (fun z => z + 3) (f := fX0_fromAboveg (grX0 (D + 2)) n (sI c1 49 3 (gI c1 49 3 + 1)) (nI 1) (nI b) (nI 0) x (nI (e + 1))) ?_
    rw [abv_t _ hn _ (k2 := 0) (by omega) (by omega) (by omega) (by omega) rfl, gr_s]
    exact SIM_up (b_1 hn hb x _ _ e3 (by omega)) (by omega)
  have p81 : SIM c0 d0 t 3 (fX0_rung (grX0 (D + 2)) n c 81 (nI b) x (nI (e + 1))) ((fX12_ran d 81).bind (fun r11 => (fX12_pawnFalls r11 (nI b) x).bind (fun r13 => some ((r13.1 - (1 : Int32)), r13.2)))) := by
    obtain ⟨c1, d', e1, e2, e3⟩ := rg h (by omega) 81
    rw [e1, e2, Option.bind_some]
    refine SIM_map (fun z => z - 1) (f := fX0_fromAboveg (grX0 (D + 2)) n (sI c1 49 3 (gI c1 49 3 + 1)) (nI 7) (nI b) (nI 0) x (nI (e + 1))) ?_
    rw [abv_t _ hn _ (k2 := 6) (by omega) (by omega) (by omega) (by omega) rfl, gr_s]
    exact SIM_up (b_70 hn hb x D (by omega) e3 (by omega)) (by omega)
  have p70 := SIM_up (K := 2) (L := 3) (t' := t) (b_70 hn hb x (D + 1) (e := e + 1) (by omega) h (by omega)) (by omega)
  rcases (show k = 0 ∨ k = 1 ∨ k = 2 ∨ k = 3 ∨ k = 4 ∨ k = 5 ∨ k = 6 ∨ k = 7 by omega) with rfl | rfl | rfl | rfl | rfl | rfl | rfl | rfl
  · exact p1
  · exact p20
  · exact p1
  · exact p1
  · exact p20
  · exact p1
  · exact p70
  · exact p81
theorem b_10 {c0 d0 c d : St} {t n b e k : Nat} (hn : 5000 < n) (hb : b < 50) (x : Int32) (D : Nat) (he : e + 3 < 20) (hk : k < 8) (kc : gI c0 50 b = nI k) (kd : gI d0 37 b = nI k) (h : AR c0 d0 c d t) (ht : t < 700) : SIM c0 d0 t 4 (fX0_rung (grX0 (D + 3)) n c 10 (nI b) x (nI e)) (fX12_plainWishes d (nI b) x) := by
  obtain ⟨c1, d', e1, e2, e3⟩ := rg h (by omega) 10
  rw [e1]
  unfold fX12_plainWishes
  rw [e2, Option.bind_some]
  refine SIM_map (fun z => z * 2) (f := fX0_ofItsOwng (grX0 (D + 3)) n (sI c1 49 3 (gI c1 49 3 + 1)) (nI b) 0 x (nI e)) ?_
  exact SIM_up (a_falls hn hb x D he hk kc kd e3 (by omega)) (by omega)
theorem b_30 {c0 d0 c d : St} {t n b e k : Nat} (hn : 5000 < n) (hb : b < 50) (x : Int32) (D : Nat) (he : e + 4 < 20) (hk : k < 8) (kc : gI c0 50 b = nI k) (kd : gI d0 37 b = nI k) (h : AR c0 d0 c d t) (ht : t < 600) : SIM c0 d0 t 5 (fX0_rung (grX0 (D + 4)) n c 30 (nI b) x (nI e)) (fX12_hingeWishes d (nI b) x) := by
  obtain ⟨c1, d', e1, e2, e3⟩ := rg h (by omega) 30
  rw [e1]
  unfold fX12_hingeWishes
  rw [e2, Option.bind_some]
  refine SIM_map (fun z => -z) (f := fX0_fromAboveg (grX0 (D + 4)) n (sI c1 49 3 (gI c1 49 3 + 1)) (nI 2) (nI b) (nI 1) x (nI e)) ?_
  rw [abv_t _ hn _ (k2 := 0) (by omega) (by omega) (by omega) (by omega) rfl, gr_s]
  exact SIM_up (b_10 hn hb x D (by omega) hk kc kd e3 (by omega)) (by omega)
theorem b_40 {c0 d0 c d : St} {t n b e : Nat} (hn : 5000 < n) (hb : b < 50) (x : Int32) (D : Nat) (he : e + 1 < 20) (h : AR c0 d0 c d t) (ht : t < 800) : SIM c0 d0 t 2 (fX0_rung (grX0 (D + 1)) n c 40 (nI b) x (nI e)) (fX12_spoonOwes d (nI b) x) := by
  obtain ⟨c1, d', e1, e2, e3⟩ := rg h (by omega) 40
  rw [e1]
  unfold fX12_spoonOwes
  rw [e2, Option.bind_some]
  refine SIM_map (fun z => z * 3) (f := fX0_fromAboveg (grX0 (D + 1)) n (sI c1 49 3 (gI c1 49 3 + 1)) (nI 3) (nI b) (nI 2) x (nI e)) ?_
  rw [abv_t _ hn _ (k2 := 2) (by omega) (by omega) (by omega) (by omega) rfl, gr_s]
  exact SIM_up (b_11 hn hb x _ _ e3 (by omega)) (by omega)
theorem a_owes {c0 d0 c d : St} {t n b e k : Nat} (hn : 5000 < n) (hb : b < 50) (x : Int32) (D : Nat) (he : e + 4 < 20) (hk : k < 8) (kc : gI c0 50 b = nI k) (kd : gI d0 37 b = nI k) (h : AR c0 d0 c d t) (ht : t < 700) : SIM c0 d0 t 6 (fX0_ofItsOwng (grX0 (D + 4)) n c (nI b) 2 x (nI e)) (fX12_owing d (nI b) x) := by
  have kc' : gI c 50 b = nI k := by rw [h.2.1 50 b (by omega) (by omega)]; exact kc
  have kd' : gI d 37 b = nI k := by rw [h.2.2.2.1 37 b (by omega) (by omega)]; exact kd
  rw [show (2 : Int32) = nI 2 from rfl, own_t _ hn c hb hk (by omega) (by omega) kc', gr_s]
  unfold fX12_owing
  simp only [inB_t hb (by omega), gd_true, nIc (show b < 100000 by omega), kd', some_eta]
  have p11 := SIM_up (K := 1) (L := 6) (t' := t) (b_11 hn hb x (grX0 (D + 3)) (nI (e + 1)) h (by omega)) (by omega)
  have p40 := SIM_up (K := 2) (L := 6) (t' := t) (b_40 hn hb x (D + 2) (e := e + 1) (by omega) h (by omega)) (by omega)
  have p60 : SIM c0 d0 t 6 (fX0_rung (grX0 (D + 3)) n c 60 (nI b) x (nI (e + 1))) ((fX12_ran d 60).bind (fun r9 => (fX12_spoonOwes r9 (nI b) x).bind (fun r11 => (fX12_falling r11.2 (nI b) (2 : Int32)).bind (fun r13 => some ((r11.1 - r13.1), r13.2))))) := by
    obtain ⟨c1, d', e1, e2, e3⟩ := rg h (by omega) 60
    rw [e1, e2, Option.bind_some]
    refine SIM_up (SIM_two (K := 2) (L := 3) (t := t + 1) (fun y z => y - z) (f := fX0_fromAboveg (grX0 (D + 3)) n (sI c1 49 3 (gI c1 49 3 + 1)) (nI 5) (nI b) (nI 2) x (nI (e + 1))) (f2 := fun r => fX0_ofItsOwng (grX0 (D + 3)) n r.2 (nI b) 0 2 (nI (e + 1))) (g2 := fun r => fX12_falling r.2 (nI b) 2) ?_ (fun r c' d' t' a1 a2 => ?_)) (show t + 1 + (2 + 3) ≤ t + 6 by omega)
    · rw [abv_t _ hn _ (k2 := 3) (by omega) (by omega) (by omega) (by omega) rfl, gr_s]
      exact SIM_up (b_40 hn hb x (D + 1) (by omega) e3 (by omega)) (by omega)
    · exact a_falls hn hb 2 D (by omega) hk kc kd a1 (by omega)
  rcases (show k = 0 ∨ k = 1 ∨ k = 2 ∨ k = 3 ∨ k = 4 ∨ k = 5 ∨ k = 6 ∨ k = 7 by omega) with rfl | rfl | rfl | rfl | rfl | rfl | rfl | rfl
  · exact p11
  · exact p11
  · exact p11
  · exact p40
  · exact p11
  · exact p60
  · exact p11
  · exact p11
theorem a_wishes {c0 d0 c d : St} {t n b e k : Nat} (hn : 5000 < n) (hb : b < 50) (x : Int32) (D : Nat) (he : e + 6 < 20) (hk : k < 8) (kc : gI c0 50 b = nI k) (kd : gI d0 37 b = nI k) (h : AR c0 d0 c d t) (ht : t < 500) : SIM c0 d0 t 12 (fX0_ofItsOwng (grX0 (D + 6)) n c (nI b) 1 x (nI e)) (fX12_wishing d (nI b) x) := by
  have kc' : gI c 50 b = nI k := by rw [h.2.1 50 b (by omega) (by omega)]; exact kc
  have kd' : gI d 37 b = nI k := by rw [h.2.2.2.1 37 b (by omega) (by omega)]; exact kd
  rw [show (1 : Int32) = nI 1 from rfl, own_t _ hn c hb hk (by omega) (by omega) kc', gr_s]
  unfold fX12_wishing
  simp only [inB_t hb (by omega), gd_true, nIc (show b < 100000 by omega), kd', some_eta]
  have p10 := SIM_up (K := 4) (L := 12) (t' := t) (b_10 hn hb x (D + 2) (e := e + 1) (by omega) hk kc kd h (by omega)) (by omega)
  have p30 := SIM_up (K := 5) (L := 12) (t' := t) (b_30 hn hb x (D + 1) (e := e + 1) (by omega) hk kc kd h (by omega)) (by omega)
  have p41 : SIM c0 d0 t 12 (fX0_rung (grX0 (D + 5)) n c 41 (nI b) x (nI (e + 1))) ((fX12_ran d 41).bind (fun r17 => (fX12_hingeWishes r17 (nI b) (x + (1 : Int32))))) := by
    obtain ⟨c1, d', e1, e2, e3⟩ := rg h (by omega) 41
    rw [e1, e2, Option.bind_some, ← some_eta (fX12_hingeWishes d' (nI b) (x + 1))]
    refine SIM_map (fun z => z) (f := fX0_fromAboveg (grX0 (D + 5)) n (sI c1 49 3 (gI c1 49 3 + 1)) (nI 3) (nI b) (nI 1) (x + 1) (nI (e + 1))) ?_
    rw [abv_t _ hn _ (k2 := 2) (by omega) (by omega) (by omega) (by omega) rfl, gr_s]
    exact SIM_up (b_30 hn hb (x + 1) D (by omega) hk kc kd e3 (by omega)) (by omega)
  have p80 : SIM c0 d0 t 12 (fX0_rung (grX0 (D + 5)) n c 80 (nI b) x (nI (e + 1))) ((fX12_ran d 80).bind (fun r11 => (fX12_plainWishes r11 (nI b) x).bind (fun r13 => (fX12_owing r13.2 (nI b) (2 : Int32)).bind (fun r15 => some ((r13.1 + r15.1), r15.2))))) := by
    obtain ⟨c1, d', e1, e2, e3⟩ := rg h (by omega) 80
    rw [e1, e2, Option.bind_some]
    refine SIM_up (SIM_two (K := 4) (L := 6) (t := t + 1) (fun y z => y + z) (f := fX0_fromAboveg (grX0 (D + 5)) n (sI c1 49 3 (gI c1 49 3 + 1)) (nI 7) (nI b) (nI 1) x (nI (e + 1))) (f2 := fun r => fX0_ofItsOwng (grX0 (D + 5)) n r.2 (nI b) 2 2 (nI (e + 1))) (g2 := fun r => fX12_owing r.2 (nI b) 2) ?_ (fun r c' d' t' a1 a2 => ?_)) (show t + 1 + (4 + 6) ≤ t + 12 by omega)
    · rw [abv_t _ hn _ (k2 := 6) (by omega) (by omega) (by omega) (by omega) rfl, gr_s]
      exact SIM_up (b_10 hn hb x (D + 1) (by omega) hk kc kd e3 (by omega)) (by omega)
    · exact a_owes hn hb 2 (D + 1) (by omega) hk kc kd a1 (by omega)
  rcases (show k = 0 ∨ k = 1 ∨ k = 2 ∨ k = 3 ∨ k = 4 ∨ k = 5 ∨ k = 6 ∨ k = 7 by omega) with rfl | rfl | rfl | rfl | rfl | rfl | rfl | rfl
  · exact p10
  · exact p10
  · exact p30
  · exact p41
  · exact p10
  · exact p41
  · exact p10
  · exact p80
theorem b_2 {c0 d0 c d : St} {t n b e k : Nat} (hn : 5000 < n) (hb : b < 50) (x : Int32) (D : Nat) (he : e + 7 < 20) (hk : k < 8) (kc : gI c0 50 b = nI k) (kd : gI d0 37 b = nI k) (h : AR c0 d0 c d t) (ht : t < 400) : SIM c0 d0 t 19 (fX0_rung (grX0 (D + 6)) n c 2 (nI b) x (nI e)) (fX12_plainTells d (nI b) x) := by
  obtain ⟨c1, d', e1, e2, e3⟩ := rg h (by omega) 2
  rw [e1]
  unfold fX12_plainTells
  rw [e2, Option.bind_some]
  refine SIM_up (SIM_two (K := 12) (L := 6) (t := t + 1) (fun y z => y - z) (f := fX0_ofItsOwng (grX0 (D + 6)) n (sI c1 49 3 (gI c1 49 3 + 1)) (nI b) 1 x (nI e)) (f2 := fun r => fX0_ofItsOwng (grX0 (D + 6)) n r.2 (nI b) 2 1 (nI e)) (g2 := fun r => fX12_owing r.2 (nI b) 1) ?_ (fun r c' d' t' a1 a2 => ?_)) (show t + 1 + (12 + 6) ≤ t + 19 by omega)
  · exact a_wishes hn hb x D (by omega) hk kc kd e3 (by omega)
  · exact a_owes hn hb 1 (D + 2) (by omega) hk kc kd a1 (by omega)
theorem a_tells {c0 d0 c d : St} {t n b e k : Nat} (hn : 5000 < n) (hb : b < 50) (x : Int32) (D : Nat) (he : e + 9 < 20) (hk : k < 8) (kc : gI c0 50 b = nI k) (kd : gI d0 37 b = nI k) (h : AR c0 d0 c d t) (ht : t < 300) : SIM c0 d0 t 20 (fX0_ofItsOwng (grX0 (D + 8)) n c (nI b) 3 x (nI e)) (fX12_telling d (nI b) x) := by
  have kc' : gI c 50 b = nI k := by rw [h.2.1 50 b (by omega) (by omega)]; exact kc
  have kd' : gI d 37 b = nI k := by rw [h.2.2.2.1 37 b (by omega) (by omega)]; exact kd
  rw [show (3 : Int32) = nI 3 from rfl, own_t _ hn c hb hk (by omega) (by omega) kc', gr_s]
  unfold fX12_telling
  simp only [inB_t hb (by omega), gd_true, nIc (show b < 100000 by omega), kd', some_eta]
  have p2 := SIM_up (K := 19) (L := 20) (t' := t) (b_2 hn hb x (D + 1) (e := e + 1) (by omega) hk kc kd h (by omega)) (by omega)
  have p50 : SIM c0 d0 t 20 (fX0_rung (grX0 (D + 7)) n c 50 (nI b) x (nI (e + 1))) ((fX12_ran d 50).bind (fun r11 => (fX12_plainTells r11 (nI b) x).bind (fun r13 => some ((r13.1 ^^^ (5 : Int32)), r13.2)))) := by
    obtain ⟨c1, d', e1, e2, e3⟩ := rg h (by omega) 50
    rw [e1, e2, Option.bind_some]
    refine SIM_map (fun z => z ^^^ 5) (f := fX0_fromAboveg (grX0 (D + 7)) n (sI c1 49 3 (gI c1 49 3 + 1)) (nI 4) (nI b) (nI 3) x (nI (e + 1))) ?_
    rw [abv_t _ hn _ (k2 := 1) (by omega) (by omega) (by omega) (by omega) rfl, gr_s]
    exact SIM_up (b_2 hn hb x D (by omega) hk kc kd e3 (by omega)) (by omega)
  have p61 : SIM c0 d0 t 20 (fX0_rung (grX0 (D + 7)) n c 61 (nI b) x (nI (e + 1))) ((fX12_ran d 61).bind (fun r7 => (fX12_plainTells r7 (nI b) x).bind (fun r9 => some ((r9.1 + (1 : Int32)), r9.2)))) := by
    obtain ⟨c1, d', e1, e2, e3⟩ := rg h (by omega) 61
    rw [e1, e2, Option.bind_some]
    refine SIM_map (fun z => z + 1) (f := fX0_fromAboveg (grX0 (D + 7)) n (sI c1 49 3 (gI c1 49 3 + 1)) (nI 5) (nI b) (nI 3) x (nI (e + 1))) ?_
    rw [abv_t _ hn _ (k2 := 3) (by omega) (by omega) (by omega) (by omega) rfl, gr_s]
    exact SIM_up (b_2 hn hb x D (by omega) hk kc kd e3 (by omega)) (by omega)
  rcases (show k = 0 ∨ k = 1 ∨ k = 2 ∨ k = 3 ∨ k = 4 ∨ k = 5 ∨ k = 6 ∨ k = 7 by omega) with rfl | rfl | rfl | rfl | rfl | rfl | rfl | rfl
  · exact p2
  · exact p2
  · exact p2
  · exact p2
  · exact p50
  · exact p61
  · exact p2
  · exact p2
set_option maxHeartbeats 4000000 in
theorem s_act {n : Nat} (hn : 5000 < n) : S_act Rel n := by
  intro c d a1 a2 a3 h
  obtain ⟨hL, hC, hD, hI, hB, hS, hT, hW⟩ := id h
  obtain ⟨⟨nb, b1, b2, b3, b4⟩, nr, r1, r2, r3, r4⟩ := id hB
  have h0 : AR (sI c 49 3 0) (sI d 0 52 0) (sI c 49 3 0) (sI d 0 52 0) 0 := ⟨⟨rfl, rfl, fun j hj => absurd hj (by omega)⟩, fun _ _ _ _ => rfl, fun _ => rfl, fun _ _ _ _ => rfl, fun _ => rfl⟩
  have fin : ∀ (c' d' : St) (t : Nat), AR (sI c 49 3 0) (sI d 0 52 0) c' d' t → t ≤ 1000 → Rel c' d' := by
    intro c' d' t q ht
    obtain ⟨⟨q1, q2, q3⟩, q4, q5, q6, q7⟩ := q
    have k1 : ∀ q x, ¬ (q = 49 ∧ x = 3) → q ≠ 51 → gI c' q x = gI c q x := fun q x u v => by
      rw [q4 q x u v, gI_sIx]
      by_cases e : q = 49
      · rw [if_pos e, upd_x, if_neg (by omega), e]
      · rw [if_neg e]
    have k2 : ∀ q x, ¬ (q = 0 ∧ x = 52) → q ≠ 38 → gI d' q x = gI d q x := fun q x u v => by
      rw [q6 q x u v, gI_sIx]
      by_cases e : q = 0
      · rw [if_pos e, upd_x, if_neg (by omega), e]
      · rw [if_neg e]
    have hm : cle c c' := cle_eq fun i _ _ => k1 1 i (by omega) (by omega)
    refine ⟨RLa_fr hL (fun k i q => k1 k i ?_ ?_) (fun k i q => k2 k i ?_ ?_), RC_fr hC hm (fun k i q => k1 k i ?_ ?_) (fun k i q => k2 k i ?_ ?_), RD_fr hD hm (fun k i q => k1 k i ?_ ?_) (fun k i q => k2 k i ?_ ?_), RI_fr hI hm (fun k i q => k1 k i ?_ ?_) (fun k i q => k2 k i ?_ ?_), ⟨⟨nb, b1, by rw [k1 49 1 (by omega) (by omega), b2], by rw [k2 0 50 (by omega) (by omega), b3], fun j hj => ?_⟩, t, ht, q1, q2, q3⟩, RS_fr hS ?_ (fun k i q => k1 k i ?_ ?_) (fun k i q => k2 k i ?_ ?_) (fun k _ _ => q5 k) (q7 41), RT_fr hT (fun k i q => k1 k i ?_ ?_) (fun k i q => k2 k i ?_ ?_), RW_fr hW (fun k i q => k1 k i ?_ ?_) (fun k i q => k2 k i ?_ ?_)⟩
    all_goals first
      | (unfold fLc fpL at q; omega)
      | (unfold fLd fpL at q; omega)
      | (unfold fCc at q; omega)
      | (unfold fCd at q; omega)
      | (unfold fDc at q; omega)
      | (unfold fDd at q; omega)
      | (unfold fIc at q; omega)
      | (unfold fId at q; omega)
      | (unfold fSc at q; omega)
      | (unfold fSd at q; omega)
      | (unfold fTc at q; omega)
      | (unfold fTd at q; omega)
      | (unfold fWc at q; omega)
      | (unfold fWd at q; omega)
      | (rw [k1 49 1 (by omega) (by omega)]; exact i32_rf _)
      | (rw [k1 50 j (by omega) (by omega), k2 37 j (by omega) (by omega)]; exact b4 j hj)
  unfold fX11_act fX12_act fX11_isBody fX12_isBody
  simp only [bnd_x, if_bI, some_eta]
  rw [show gI (sI c 49 3 0) 49 1 = nI nb from b2, show gI (sI d 0 52 0) 0 50 = nI nb from b3, isW, isI]
  by_cases h1 : 0 ≤ a1 ∧ a1 ≤ nI nb - 1
  · rw [decide_eq_true h1]
    obtain ⟨b, hb, rfl⟩ := (cnt_in a1 (by omega)).mp h1
    obtain ⟨k, hk, kc, kd⟩ := b4 b hb
    rw [isW, isI]
    by_cases h2 : 0 ≤ a2 ∧ a2 ≤ 3
    · rw [decide_eq_true h2]
      obtain ⟨a, ha, rfl⟩ := (in_nat (n := 3) rfl (by omega)).mp h2
      simp only [cond_true]
      have kc' : gI (sI c 49 3 0) 50 b = nI k := kc
      have kd' : gI (sI d 0 52 0) 37 b = nI k := kd
      have out : ∀ (K : Nat) (f g : Option (Int32 × St)), K ≤ 1000 → SIM (sI c 49 3 0) (sI d 0 52 0) 0 K f g → ∃ (r : Int32) (c' d' : St), f = some (r, c') ∧ g = some (r, d') ∧ Rel c' d' := by
        intro K f g hK q
        obtain ⟨r, c', d', t', e1, e2, e3, e4⟩ := q
        exact ⟨r, c', d', e1, e2, fin c' d' t' e3 (by omega)⟩
      unfold fX0_ofItsOwn
      rcases (show a = 0 ∨ a = 1 ∨ a = 2 ∨ a = 3 by omega) with rfl | rfl | rfl | rfl
      · exact out 3 _ _ (by omega) (a_falls hn (show b < 50 by omega) a3 5 (e := 0) (by omega) hk kc' kd' h0 (by omega))
      · exact out 12 _ _ (by omega) (a_wishes hn (show b < 50 by omega) a3 2 (e := 0) (by omega) hk kc' kd' h0 (by omega))
      · exact out 6 _ _ (by omega) (a_owes hn (show b < 50 by omega) a3 4 (e := 0) (by omega) hk kc' kd' h0 (by omega))
      · exact out 20 _ _ (by omega) (a_tells hn (show b < 50 by omega) a3 0 (e := 0) (by omega) hk kc' kd' h0 (by omega))
    · rw [decide_eq_false h2]
      exact ⟨_, _, _, rfl, rfl, fin _ _ 0 h0 (by omega)⟩
  · rw [decide_eq_false h1]
    exact ⟨_, _, _, rfl, rfl, fin _ _ 0 h0 (by omega)⟩
