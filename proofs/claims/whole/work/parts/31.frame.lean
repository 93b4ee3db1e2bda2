/-! which places each part of the tie looks at, and that it looks at no others -/
def fpL (k j : Nat) : Prop := (3 ≤ k ∧ k < 9 ∧ j < 8) ∨ (9 ≤ k ∧ k < 13 ∧ j < 10) ∨ (13 ≤ k ∧ k < 17 ∧ j < 12)
def fLc (k i : Nat) : Prop := (k = 1 ∧ 1 ≤ i ∧ i ≤ 3) ∨ fpL k i
def fLd (k i : Nat) : Prop := (k = 0 ∧ (i = 1 ∨ i = 8 ∨ i = 13)) ∨ fpL (k + 2) i
def fCc (k i : Nat) : Prop := (k = 44 ∧ i ≤ 1) ∨ (45 ≤ k ∧ k ≤ 48 ∧ i < 40)
def fCd (k i : Nat) : Prop := (k = 0 ∧ (i = 18 ∨ i = 19)) ∨ (15 ≤ k ∧ k ≤ 18 ∧ i < 40)
def fDc (k i : Nat) : Prop := (k = 39 ∧ 1 ≤ i ∧ i ≤ 4) ∨ (k = 40 ∧ i < 36)
def fDd (k i : Nat) : Prop := (k = 30 ∧ i < 10) ∨ (k = 31 ∧ i < 36) ∨ (k = 32 ∧ i < 4)
def fIc (k i : Nat) : Prop := (k = 0 ∧ i = 10) ∨ (k = 41 ∧ 1 ≤ i ∧ i ≤ 4) ∨ (k = 42 ∧ i < 36) ∨ (k = 43 ∧ i < 8)
def fId (k i : Nat) : Prop := (k = 0 ∧ (i = 44 ∨ i = 45)) ∨ (k = 33 ∧ i < 10) ∨ (k = 34 ∧ i < 36) ∨ (k = 35 ∧ i < 8) ∨ (k = 36 ∧ i < 4)
def fBc (k i : Nat) : Prop := (k = 49 ∧ (i = 1 ∨ i = 3)) ∨ (k = 50 ∧ i < 50) ∨ (k = 51 ∧ i < 24)
def fBd (k i : Nat) : Prop := (k = 0 ∧ (i = 50 ∨ i = 52)) ∨ (k = 37 ∧ i < 50) ∨ (k = 38 ∧ i < 24)
def fSc (k i : Nat) : Prop := 53 ≤ k ∧ k < 65 ∧ i < 4
def fSd (k i : Nat) : Prop := (k = 39 ∧ i < 6) ∨ (k = 40 ∧ i < 6)
def fTc (k i : Nat) : Prop := (k = 21 ∧ i = 1) ∨ (k = 22 ∧ i < 120)
def fTd (k i : Nat) : Prop := (k = 0 ∧ i = 25) ∨ (k = 19 ∧ i < 120)
def fWc (k i : Nat) : Prop := (k = 17 ∧ i ≤ 1) ∨ (k = 21 ∧ i = 3) ∨ ((k = 18 ∨ k = 23) ∧ i < 121)
def fWd (k i : Nat) : Prop := (k = 0 ∧ i = 37) ∨ ((k = 20 ∨ k = 21) ∧ i < 130) ∨ (k = 22 ∧ i = 0) ∨ ((k = 23 ∨ k = 24) ∧ i < 61)
/-- alike at the places f -/
def alk (f : Nat → Nat → Prop) (st st' : St) : Prop := ∀ k i, f k i → gI st' k i = gI st k i
theorem cs_in (w : Nat) : 1 ≤ cs w ∧ cs w ≤ 3 := by
  unfold cs
  split
  · omega
  · split <;> omega
theorem i32_ltle {a b c : Int32} (h : a < b) (h2 : b ≤ c) : a < c := Int32.lt_iff_toInt_lt.mpr (by
  have h1 := Int32.lt_iff_toInt_lt.mp h
  have h3 := Int32.le_iff_toInt_le.mp h2
  omega)
theorem i32_lele {a b c : Int32} (h : a ≤ b) (h2 : b ≤ c) : a ≤ c := Int32.le_iff_toInt_le.mpr (by
  have h1 := Int32.le_iff_toInt_le.mp h
  have h3 := Int32.le_iff_toInt_le.mp h2
  omega)
theorem i32_rf (a : Int32) : a ≤ a := Int32.le_iff_toInt_le.mpr (by omega)
/-- fields, falls, cries only grow -/
def cle (c c' : St) : Prop := ∀ i, 1 ≤ i → i ≤ 3 → gI c 1 i ≤ gI c' 1 i
theorem RLa_fr {c c' d d' : St} (h : RLa c d) (hc : alk fLc c c') (hd : alk fLd d d') : RLa c' d' := by
  obtain ⟨⟨nf, f1, f2, f3⟩, ⟨nl, l1, l2, l3⟩, ⟨nc, c1, c2, c3⟩, hv⟩ := h
  refine ⟨⟨nf, f1, by rw [hc 1 1 (Or.inl ⟨rfl, by omega, by omega⟩), f2], by rw [hd 0 1 (Or.inl ⟨rfl, by omega⟩), f3]⟩, ⟨nl, l1, by rw [hc 1 2 (Or.inl ⟨rfl, by omega, by omega⟩), l2], by rw [hd 0 8 (Or.inl ⟨rfl, by omega⟩), l3]⟩, ⟨nc, c1, by rw [hc 1 3 (Or.inl ⟨rfl, by omega, by omega⟩), c2], by rw [hd 0 13 (Or.inl ⟨rfl, by omega⟩), c3]⟩, fun w j hw hj hlt => ?_⟩
  have hcw := cs_in w
  rw [hc 1 (cs w) (Or.inl ⟨rfl, by omega, by omega⟩)] at hlt
  have hp : fpL (3 + w) j := by
    unfold cs at hlt
    unfold fpL
    by_cases h6 : w < 6
    · rw [if_pos h6, f2, nIlt (by omega) (by omega)] at hlt
      exact Or.inl ⟨by omega, by omega, by omega⟩
    · rw [if_neg h6] at hlt
      by_cases h10 : w < 10
      · rw [if_pos h10, l2, nIlt (by omega) (by omega)] at hlt
        exact Or.inr (Or.inl ⟨by omega, by omega, by omega⟩)
      · rw [if_neg h10, c2, nIlt (by omega) (by omega)] at hlt
        exact Or.inr (Or.inr ⟨by omega, by omega, by omega⟩)
  rw [hc (3 + w) j (Or.inr hp), hd (1 + w) j (Or.inr (by rw [show 1 + w + 2 = 3 + w by omega]; exact hp))]
  exact hv w j hw hj hlt
theorem RC_fr {c c' d d' : St} (h : RC c d) (hm : cle c c') (hc : alk fCc c c') (hd : alk fCd d d') : RC c' d' := by
  obtain ⟨nd, nu, h1, h2, h3, h4, h5, h6⟩ := h
  refine ⟨nd, nu, h1, by rw [hc 44 0 (Or.inl ⟨rfl, by omega⟩), h2], by rw [hd 0 18 (Or.inl ⟨rfl, by omega⟩), h3], by rw [hc 44 1 (Or.inl ⟨rfl, by omega⟩), h4], by rw [hd 0 19 (Or.inl ⟨rfl, by omega⟩), h5], fun j hj => ?_⟩
  obtain ⟨w, m, a1, a2, a3, a4, a5, a6, a7, a8, a9, a10⟩ := h6 j hj
  have hcw := cs_in w
  refine ⟨w, m, a1, a2, i32_ltle a3 (hm _ (by omega) (by omega)), ?_, ?_, ?_, ?_, ?_, ?_, ?_⟩
  · rw [hc 45 j (Or.inr ⟨by omega, by omega, by omega⟩), a4]
  · rw [hd 16 j (Or.inr ⟨by omega, by omega, by omega⟩), a5]
  · rw [hc 46 j (Or.inr ⟨by omega, by omega, by omega⟩), a6]
  · rw [hd 15 j (Or.inr ⟨by omega, by omega, by omega⟩), a7]
  · rw [hc 47 j (Or.inr ⟨by omega, by omega, by omega⟩), hd 17 j (Or.inr ⟨by omega, by omega, by omega⟩), a8]
  · rw [hc 48 j (Or.inr ⟨by omega, by omega, by omega⟩), hd 18 j (Or.inr ⟨by omega, by omega, by omega⟩), a9]
  · rw [hc 47 j (Or.inr ⟨by omega, by omega, by omega⟩), hc 48 j (Or.inr ⟨by omega, by omega, by omega⟩)]
    exact a10
theorem RDk_fr {c c' d d' : St} {k kf ko kl : Nat} {nl nl' : Int32} (hnl : nl ≤ nl') (h : RDk c d k kf ko kl nl) (h1 : ∀ i, 1 ≤ i → i ≤ 4 → gI c' k i = gI c k i) (h2 : ∀ i, i < 36 → gI c' (k + 1) i = gI c (k + 1) i) (h3 : ∀ i, i < 10 → gI d' kf i = gI d kf i) (h4 : ∀ i, i < 36 → gI d' ko i = gI d ko i) (h5 : ∀ i, i < 4 → gI d' kl i = gI d kl i) : RDk c' d' k kf ko kl nl' := by
  obtain ⟨⟨F, a1, a2, a3, a4, a5⟩, b1, b2, b3, b4⟩ := h
  exact ⟨⟨F, a1, by rw [h1 1 (by omega) (by omega), a2], fun j hj => by rw [h3 j hj, a3 j hj], fun j hj q => a4 j hj (i32_lele hnl q), by rw [h5 0 (by omega), a5]⟩, fun j hj => by rw [h4 j hj, h2 j hj, b1 j hj], by rw [h5 1 (by omega), h1 2 (by omega) (by omega), b2], by rw [h5 2 (by omega), h1 3 (by omega) (by omega), b3], by rw [h5 3 (by omega), h1 4 (by omega) (by omega), b4]⟩
theorem RD_fr {c c' d d' : St} (h : RD c d) (hm : cle c c') (hc : alk fDc c c') (hd : alk fDd d d') : RD c' d' :=
  RDk_fr (hm 2 (by omega) (by omega)) h (fun i h1 h2 => hc 39 i (Or.inl ⟨rfl, h1, h2⟩)) (fun i h1 => hc 40 i (Or.inr ⟨rfl, h1⟩)) (fun i h1 => hd 30 i (Or.inl ⟨rfl, h1⟩)) (fun i h1 => hd 31 i (Or.inr (Or.inl ⟨rfl, h1⟩))) (fun i h1 => hd 32 i (Or.inr (Or.inr ⟨rfl, h1⟩)))
theorem RI_fr {c c' d d' : St} (h : RI c d) (hm : cle c c') (hc : alk fIc c c') (hd : alk fId d d') : RI c' d' := by
  unfold RI
  rw [hc 0 10 (Or.inl ⟨rfl, rfl⟩), hd 0 44 (Or.inl ⟨rfl, by omega⟩), hd 0 45 (Or.inl ⟨rfl, by omega⟩)]
  rcases h with h | ⟨h1, h2, k, k1, k2, k3, k4, k5⟩
  · exact Or.inl h
  · refine Or.inr ⟨h1, RDk_fr (hm 2 (by omega) (by omega)) h2 (fun i h1 h2 => hc 41 i (Or.inr (Or.inl ⟨rfl, h1, h2⟩))) (fun i h1 => hc 42 i (Or.inr (Or.inr (Or.inl ⟨rfl, h1⟩)))) (fun i h1 => hd 33 i (Or.inr (Or.inl ⟨rfl, h1⟩))) (fun i h1 => hd 34 i (Or.inr (Or.inr (Or.inl ⟨rfl, h1⟩)))) (fun i h1 => hd 36 i (Or.inr (Or.inr (Or.inr (Or.inr ⟨rfl, h1⟩))))), k, k1, i32_lele k2 (hm 1 (by omega) (by omega)), k3, k4, fun j hj => ?_⟩
    rw [hc 43 j (Or.inr (Or.inr (Or.inr ⟨rfl, by omega⟩))), hd 35 j (Or.inr (Or.inr (Or.inr (Or.inl ⟨rfl, by omega⟩))))]
    exact k5 j hj
theorem RB_fr {c c' d d' : St} (h : RB c d) (hc : alk fBc c c') (hd : alk fBd d d') : RB c' d' := by
  obtain ⟨⟨nb, a1, a2, a3, a4⟩, nr, b1, b2, b3, b4⟩ := h
  refine ⟨⟨nb, a1, by rw [hc 49 1 (Or.inl ⟨rfl, by omega⟩), a2], by rw [hd 0 50 (Or.inl ⟨rfl, by omega⟩), a3], fun j hj => ?_⟩, nr, b1, by rw [hc 49 3 (Or.inl ⟨rfl, by omega⟩), b2], by rw [hd 0 52 (Or.inl ⟨rfl, by omega⟩), b3], fun j hj h24 => ?_⟩
  · rw [hc 50 j (Or.inr (Or.inl ⟨rfl, by omega⟩)), hd 37 j (Or.inr (Or.inl ⟨rfl, by omega⟩))]
    exact a4 j hj
  · rw [hc 51 j (Or.inr (Or.inr ⟨rfl, h24⟩)), hd 38 j (Or.inr (Or.inr ⟨rfl, h24⟩))]
    exact b4 j hj h24
theorem RSi_fr {c c' d d' : St} {i : Nat} (hi : i < 6) (h : RSi c d i) (hc : ∀ j, j < 4 → gI c' (53 + 2 * i) j = gI c (53 + 2 * i) j) (hb : gI c 49 1 ≤ gI c' 49 1) (h1 : gI d' 39 i = gI d 39 i) (h2 : gI d' 40 i = gI d 40 i) (hl : ∀ j, j < 60 → gL c' (54 + 2 * i) j = gL c (54 + 2 * i) j) : RSi c' d' i := by
  unfold RSi
  rw [hc 0 (by omega), hc 1 (by omega), hc 2 (by omega), hc 3 (by omega), h1, h2]
  rcases h with h | ⟨h, b, b1, b2, b3⟩ | ⟨h3, so, n, a1, a2, a3, a4, a5, a6, a7, a8⟩
  · exact Or.inl h
  · exact Or.inr (Or.inl ⟨h, b, b1, i32_ltle b2 hb, b3⟩)
  · exact Or.inr (Or.inr ⟨h3, so, n, a1, a2, a3, a4, a5, a6, fun q j hj => by rw [hl j hj]; exact a7 q j hj, fun q j hj => by rw [hl j hj]; exact a8 q j hj⟩)
theorem RS_fr {c c' d d' : St} (h : RS c d) (hb : gI c 49 1 ≤ gI c' 49 1) (hc : alk fSc c c') (hd : alk fSd d d') (hl : ∀ k, 53 ≤ k → k < 65 → gL c' k = gL c k) (hl2 : gL d' 41 = gL d 41) : RS c' d' := by
  intro i hi
  refine ⟨RSi_fr hi (h i hi).1 (fun j hj => hc _ j ⟨by omega, by omega, hj⟩) hb (hd 39 i (Or.inl ⟨rfl, hi⟩)) (hd 40 i (Or.inr ⟨rfl, hi⟩)) (fun j _ => by rw [hl _ (by omega) (by omega)]), fun j hj => ?_⟩
  rw [hl2, hl _ (by omega) (by omega)]
  exact (h i hi).2 j hj
theorem RT_fr {c c' d d' : St} (h : RT c d) (hc : alk fTc c c') (hd : alk fTd d d') : RT c' d' := by
  obtain ⟨nt, a1, a2, a3, a4⟩ := h
  refine ⟨nt, a1, by rw [hc 21 1 (Or.inl ⟨rfl, rfl⟩), a2], by rw [hd 0 25 (Or.inl ⟨rfl, rfl⟩), a3], fun j hj => ?_⟩
  rw [hc 22 j (Or.inr ⟨rfl, by omega⟩), hd 19 j (Or.inr ⟨rfl, by omega⟩)]
  exact a4 j hj
theorem LM_fr {d d' : St} (hd : alk fWd d d') : ∀ (P : List (List Tk × List Tk)) (l p : Nat), l + P.length ≤ 61 → p + toks P ≤ 130 → LM d l p P → LM d' l p P := by
  intro P
  induction P with
  | nil =>
    intro l p _ _ h
    show gI d' 22 0 = nI l
    rw [hd 22 0 (Or.inr (Or.inr (Or.inl ⟨rfl, rfl⟩)))]
    exact h
  | cons q P ih =>
    intro l p hl hp h
    obtain ⟨t, b⟩ := q
    simp only [List.length_cons] at hl
    have hp' : p + (t.length + b.length + toks P) ≤ 130 := by simpa [toks] using hp
    obtain ⟨h1, h2, h3, h4⟩ := h
    refine ⟨by rw [hd 23 l (Or.inr (Or.inr (Or.inr ⟨Or.inl rfl, by omega⟩))), h1], by rw [hd 24 l (Or.inr (Or.inr (Or.inr ⟨Or.inr rfl, by omega⟩))), h2], fun i hi => ?_, ih (l + 1) (p + t.length + b.length) (by omega) (by omega) h4⟩
    have hi2 : i < t.length + b.length := by simpa using hi
    rw [hd 20 (p + i) (Or.inr (Or.inl ⟨Or.inl rfl, by omega⟩)), hd 21 (p + i) (Or.inr (Or.inl ⟨Or.inr rfl, by omega⟩))]
    exact h3 i hi
theorem RW_fr {c c' d d' : St} (h : RW c d) (hc : alk fWc c c') (hd : alk fWd d d') : RW c' d' := by
  unfold RW
  rw [hc 17 0 (Or.inl ⟨rfl, by omega⟩), hc 17 1 (Or.inl ⟨rfl, by omega⟩), hc 21 3 (Or.inr (Or.inl ⟨rfl, rfl⟩)), hd 0 37 (Or.inl ⟨rfl, rfl⟩)]
  obtain ⟨h1, h2⟩ := h
  refine ⟨h1, ?_⟩
  rcases h2 with h2 | ⟨h2, P, ok, hM, hC⟩
  · exact Or.inl h2
  · refine Or.inr ⟨h2, P, ok, LM_fr hd P 0 0 (by have := ok.2.1; omega) (by have := ok.2.2.1; omega) hM, hC.1, hC.2.1, fun i hi => ?_⟩
    have hr : (gI c 17 0).toNatClampNeg = 18 ∨ (gI c 17 0).toNatClampNeg = 23 := by
      rcases h1 with h1 | h1
      · left; rw [h1.1]; decide
      · right; rw [h1.1]; decide
    have hlen := hC.2.1
    rw [hc _ i (Or.inr (Or.inr ⟨hr, by omega⟩))]
    exact hC.2.2 i hi
/-- all places of the tie -/
def fAc (k i : Nat) : Prop := fLc k i ∨ fCc k i ∨ fDc k i ∨ fIc k i ∨ fBc k i ∨ fSc k i ∨ fTc k i ∨ fWc k i
def fAd (k i : Nat) : Prop := fLd k i ∨ fCd k i ∨ fDd k i ∨ fId k i ∨ fBd k i ∨ fSd k i ∨ fTd k i ∨ fWd k i
theorem Rel_fr {c c' d d' : St} (h : Rel c d) (hc : alk fAc c c') (hd : alk fAd d d') (hl : ∀ k, 53 ≤ k → k < 65 → gL c' k = gL c k) (hl2 : gL d' 41 = gL d 41) : Rel c' d' := by
  obtain ⟨h1, h2, h3, h4, h5, h6, h7, h8⟩ := h
  have hm : cle c c' := fun i a b => by rw [hc 1 i (Or.inl (Or.inl ⟨rfl, a, b⟩))]; exact i32_rf _
  have hb : gI c 49 1 ≤ gI c' 49 1 := by rw [hc 49 1 (Or.inr (Or.inr (Or.inr (Or.inr (Or.inl (Or.inl ⟨rfl, Or.inl rfl⟩))))))]; exact i32_rf _
  exact ⟨RLa_fr h1 (fun k i q => hc k i (Or.inl q)) (fun k i q => hd k i (Or.inl q)), RC_fr h2 hm (fun k i q => hc k i (Or.inr (Or.inl q))) (fun k i q => hd k i (Or.inr (Or.inl q))), RD_fr h3 hm (fun k i q => hc k i (Or.inr (Or.inr (Or.inl q)))) (fun k i q => hd k i (Or.inr (Or.inr (Or.inl q)))), RI_fr h4 hm (fun k i q => hc k i (Or.inr (Or.inr (Or.inr (Or.inl q))))) (fun k i q => hd k i (Or.inr (Or.inr (Or.inr (Or.inl q))))), RB_fr h5 (fun k i q => hc k i (Or.inr (Or.inr (Or.inr (Or.inr (Or.inl q)))))) (fun k i q => hd k i (Or.inr (Or.inr (Or.inr (Or.inr (Or.inl q)))))), RS_fr h6 hb (fun k i q => hc k i (Or.inr (Or.inr (Or.inr (Or.inr (Or.inr (Or.inl q))))))) (fun k i q => hd k i (Or.inr (Or.inr (Or.inr (Or.inr (Or.inr (Or.inl q))))))) hl hl2, RT_fr h7 (fun k i q => hc k i (Or.inr (Or.inr (Or.inr (Or.inr (Or.inr (Or.inr (Or.inl q)))))))) (fun k i q => hd k i (Or.inr (Or.inr (Or.inr (Or.inr (Or.inr (Or.inr (Or.inl q)))))))), RW_fr h8 (fun k i q => hc k i (Or.inr (Or.inr (Or.inr (Or.inr (Or.inr (Or.inr (Or.inr q)))))))) (fun k i q => hd k i (Or.inr (Or.inr (Or.inr (Or.inr (Or.inr (Or.inr (Or.inr q))))))))⟩
/-- one place written that a part does not look at -/
theorem alk_sI {f : Nat → Nat → Prop} {st st' : St} {k i : Nat} {v : Int32} (h : alk f st st') (hn : ¬ f k i) : alk f st (sI st' k i v) := fun a b hab => by
  rw [gI_sIx]
  by_cases e : a = k
  · subst e
    rw [if_pos rfl, upd_x, if_neg (fun e2 => hn (by rw [← e2]; exact hab))]
    exact h a b hab
  · rw [if_neg e]
    exact h a b hab
theorem alk_sIs {f : Nat → Nat → Prop} {st st' : St} {k : Nat} {g : Nat → Int32} (h : alk f st st') (hn : ∀ i, ¬ f k i) : alk f st (sIs st' k g) := fun a b hab => by
  rw [gI_sIsx]
  by_cases e : a = k
  · subst e
    exact absurd hab (hn b)
  · rw [if_neg e]
    exact h a b hab
theorem alk_sL {f : Nat → Nat → Prop} {st st' : St} {k i : Nat} {v : Int64} (h : alk f st st') : alk f st (sL st' k i v) := fun a b hab => h a b hab
theorem alk_sLs {f : Nat → Nat → Prop} {st st' : St} {k : Nat} {g : Nat → Int64} (h : alk f st st') : alk f st (sLs st' k g) := fun a b hab => h a b hab
theorem alk_rf {f : Nat → Nat → Prop} {st : St} : alk f st st := fun _ _ _ => rfl
theorem alk_tr {f : Nat → Nat → Prop} {a b c : St} (h1 : alk f a b) (h2 : alk f b c) : alk f a c := fun k i h => (h2 k i h).trans (h1 k i h)
