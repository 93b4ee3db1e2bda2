/-! the reference copies the text's steps; the law -/
theorem vd_lt : ∀ (ts : List Tk) (h g : Nat), vd ts h g → ∀ t ∈ ts, t.1 < 128 := by
  intro ts
  induction ts with
  | nil => intro h g _ t ht; cases ht
  | cons u ts ih =>
    intro h g hv t ht
    rw [vd] at hv
    by_cases c1 : u.1 = 1
    · rw [if_pos c1] at hv
      rcases List.mem_cons.mp ht with rfl | ht
      · omega
      · exact ih _ _ hv.2 t ht
    rw [if_neg c1] at hv
    by_cases c2 : u.1 = 2
    · rw [if_pos c2] at hv
      rcases List.mem_cons.mp ht with rfl | ht
      · omega
      · exact ih _ _ hv.2 t ht
    rw [if_neg c2] at hv
    by_cases c3 : u.1 = 3 ∨ u.1 = 4
    · rw [if_pos c3] at hv
      rcases List.mem_cons.mp ht with rfl | ht
      · omega
      · exact ih _ _ hv.2 t ht
    rw [if_neg c3] at hv
    rcases List.mem_cons.mp ht with rfl | ht
    · have := hv.1
      unfold isOp at this
      simp only [Bool.or_eq_true, beq_iff_eq] at this
      omega
    · exact ih _ _ hv.2.2 t ht
theorem tkP_lt {P : List Ln} (h : ∀ q ∈ P, (q.1 = [] ∨ vd q.1 0 1) ∧ vd q.2 0 1) : ∀ t ∈ tkP P, t.1 < 128 := by
  intro t ht
  unfold tkP at ht
  obtain ⟨q, hq, htq⟩ := List.mem_flatMap.mp ht
  obtain ⟨h1, h2⟩ := h q hq
  rcases List.mem_append.mp htq with htq | htq
  · rcases h1 with h1 | h1
    · rw [h1] at htq; cases htq
    · exact vd_lt _ _ _ h1 t htq
  · exact vd_lt _ _ _ h2 t htq
theorem nar_b2 : ∀ x, x < 128 → vp_nar .byte (nI x) = nI x := by decide +kernel
theorem nar_s2 : ∀ x, x < 256 → vp_nar .short (nI x) = nI x := by decide +kernel
theorem cpy1 {n : Nat} {d : St} {L : Nat} (hL : L ≤ 121) (h29 : gI d 0 29 = nI L) (hb : ∀ j, j < L → ∃ x, x < 128 ∧ gI d 20 (130 + j) = nI x) : ∀ (r i k : Nat) (e : St), i + r = L → r < k → (∀ j, j < i → gI e 20 j = gI d 20 (130 + j) ∧ gI e 21 j = gI d 21 (130 + j)) → (∀ k j, ¬ ((k = 20 ∨ k = 21) ∧ j < 130) → gI e k j = gI d k j) → (∀ k, gL e k = gL d k) → ∃ e', fX12_readText_105 n k e 0 (nI i) = fX12_readText_177 n n (sI e' 22 0 (gI d 22 1)) 0 0 ∧ (∀ j, j < L → gI e' 20 j = gI d 20 (130 + j) ∧ gI e' 21 j = gI d 21 (130 + j)) ∧ (∀ k j, ¬ ((k = 20 ∨ k = 21) ∧ j < 130) → gI e' k j = gI d k j) ∧ (∀ k, gL e' k = gL d k) := by
  intro r
  induction r with
  | zero =>
    intro i k e hi hk h1 h2 h3
    obtain ⟨k, rfl⟩ : ∃ k', k = k' + 1 := ⟨k - 1, by omega⟩
    rw [fX12_readText_105, h2 0 29 (by omega), h29, if_pos (nI_le (by omega) (by omega)), show inB 0 2 = true by decide, gd_true, bnd_x, show (0 : Int32).toNatClampNeg = 0 from rfl, h2 22 1 (by omega)]
    exact ⟨e, rfl, fun j hj => h1 j (by omega), h2, h3⟩
  | succ r ih =>
    intro i k e hi hk h1 h2 h3
    obtain ⟨k, rfl⟩ : ∃ k', k = k' + 1 := ⟨k - 1, by omega⟩
    obtain ⟨x, hx, ex⟩ := hb i (by omega)
    rw [fX12_readText_105, h2 0 29 (by omega), h29, if_neg (nI_ge (by omega) (by omega)), show (130 : Int32) + nI i = nI (130 + i) from nI_add 130 i, show (130 : Int32) * 0 + nI i = nI i by rw [show (130 : Int32) * 0 = nI 0 from rfl, nI_add, Nat.zero_add], inB_t (show 130 + i < 260 by omega) (by omega), inB_t (show i < 260 by omega) (by omega)]
    simp only [gd_true, bnd_x, nIc (show 130 + i < 100000 by omega), nIc (show i < 100000 by omega), nI_1]
    rw [h2 20 (130 + i) (by omega), ex, nar_b2 x hx, show gI (sI e 20 i (nI x)) 21 (130 + i) = gI d 21 (130 + i) by rw [gIp, if_neg (by omega)]; exact h2 21 _ (by omega)]
    refine ih (i + 1) k _ (by omega) (by omega) (fun j hj => ?_) (fun a b q => ?_) h3
    · by_cases w : j = i
      · subst w
        exact ⟨by rw [gIp, if_neg (by omega), gIp, if_pos ⟨rfl, rfl⟩, ex], by rw [gIp, if_pos ⟨rfl, rfl⟩]⟩
      · exact ⟨by rw [gIp, if_neg (by omega), gIp, if_neg (by omega)]; exact (h1 j (by omega)).1, by rw [gIp, if_neg (by omega), gIp, if_neg (by omega)]; exact (h1 j (by omega)).2⟩
    · rw [gIp, if_neg (by omega), gIp, if_neg (by omega)]
      exact h2 a b q
theorem cpy2 {n : Nat} {d : St} {M : Nat} (hM : M ≤ 61) (h22 : gI d 22 0 = nI M) (hb : ∀ j, j < M → ∃ x y, x < 256 ∧ y < 256 ∧ gI d 23 (61 + j) = nI x ∧ gI d 24 (61 + j) = nI y) : ∀ (r i k : Nat) (e : St), i + r = M → r < k → (∀ j, j < i → gI e 23 j = gI d 23 (61 + j) ∧ gI e 24 j = gI d 24 (61 + j)) → (∀ k j, ¬ ((k = 23 ∨ k = 24) ∧ j < 61) → gI e k j = gI d k j) → (∀ k, gL e k = gL d k) → ∃ e', fX12_readText_177 n k e 0 (nI i) = some (-1, e') ∧ (∀ j, j < M → gI e' 23 j = gI d 23 (61 + j) ∧ gI e' 24 j = gI d 24 (61 + j)) ∧ (∀ k j, ¬ ((k = 23 ∨ k = 24) ∧ j < 61) → gI e' k j = gI d k j) ∧ (∀ k, gL e' k = gL d k) := by
  intro r
  induction r with
  | zero =>
    intro i k e hi hk h1 h2 h3
    obtain ⟨k, rfl⟩ : ∃ k', k = k' + 1 := ⟨k - 1, by omega⟩
    rw [fX12_readText_177, show inB 0 2 = true by decide, gd_true, show (0 : Int32).toNatClampNeg = 0 from rfl, h2 22 0 (by omega), h22, if_pos (nI_le (by omega) (by omega))]
    exact ⟨e, rfl, fun j hj => h1 j (by omega), h2, h3⟩
  | succ r ih =>
    intro i k e hi hk h1 h2 h3
    obtain ⟨k, rfl⟩ : ∃ k', k = k' + 1 := ⟨k - 1, by omega⟩
    obtain ⟨x, y, hx, hy, ex, ey⟩ := hb i (by omega)
    rw [fX12_readText_177, show inB 0 2 = true by decide, gd_true, show (0 : Int32).toNatClampNeg = 0 from rfl, h2 22 0 (by omega), h22, if_neg (nI_ge (by omega) (by omega)), show (61 : Int32) + nI i = nI (61 + i) from nI_add 61 i, show (61 : Int32) * 0 + nI i = nI i by rw [show (61 : Int32) * 0 = nI 0 from rfl, nI_add, Nat.zero_add], inB_t (show 61 + i < 122 by omega) (by omega), inB_t (show i < 122 by omega) (by omega)]
    simp only [gd_true, bnd_x, nIc (show 61 + i < 100000 by omega), nIc (show i < 100000 by omega), nI_1]
    rw [h2 23 (61 + i) (by omega), ex, nar_s2 x hx, show gI (sI e 23 i (nI x)) 24 (61 + i) = nI y by rw [gIp, if_neg (by omega), h2 24 _ (by omega), ey], nar_s2 y hy]
    refine ih (i + 1) k _ (by omega) (by omega) (fun j hj => ?_) (fun a b q => ?_) h3
    · by_cases w : j = i
      · subst w
        exact ⟨by rw [gIp, if_neg (by omega), gIp, if_pos ⟨rfl, rfl⟩, ex], by rw [gIp, if_pos ⟨rfl, rfl⟩, ey]⟩
      · exact ⟨by rw [gIp, if_neg (by omega), gIp, if_neg (by omega)]; exact (h1 j (by omega)).1, by rw [gIp, if_neg (by omega), gIp, if_neg (by omega)]; exact (h1 j (by omega)).2⟩
    · rw [gIp, if_neg (by omega), gIp, if_neg (by omega)]
      exact h2 a b q
theorem LN_at {d : St} : ∀ (P : List Ln) (l p : Nat), LN d l p P → p + (tkP P).length < 256 → ∀ j, j < P.length → ∃ x y, x < 256 ∧ y < 256 ∧ gI d 23 (61 + (l + j)) = nI x ∧ gI d 24 (61 + (l + j)) = nI y := by
  intro P
  induction P with
  | nil => intro l p _ _ j hj; cases hj
  | cons q P ih =>
    intro l p h hb j hj
    obtain ⟨t, b⟩ := q
    obtain ⟨k1, k2, k3⟩ := h
    simp only [tkP_c, List.length_append, List.length_cons] at hb hj
    cases j with
    | zero => exact ⟨_, _, by omega, by omega, k1, k2⟩
    | succ j =>
      obtain ⟨x, y, h1, h2, h3, h4⟩ := ih (l + 1) (p + t.length + b.length) k3 (by omega) j (by omega)
      rw [show l + 1 + j = l + (j + 1) by omega] at h3 h4
      exact ⟨x, y, h1, h2, h3, h4⟩
theorem LM_of {d e : St} {L M : Nat} (h1 : ∀ j, j < L → gI e 20 j = gI d 20 (130 + j) ∧ gI e 21 j = gI d 21 (130 + j)) (h2 : ∀ j, j < M → gI e 23 j = gI d 23 (61 + j) ∧ gI e 24 j = gI d 24 (61 + j)) : ∀ (P : List Ln) (l p : Nat), LN d l p P → p + (tkP P).length ≤ L → l + P.length ≤ M → gI e 22 0 = nI (l + P.length) → (∀ i (h : i < (tkP P).length), gI d 20 (130 + (p + i)) = nI ((tkP P)[i].1) ∧ gI d 21 (130 + (p + i)) = (tkP P)[i].2) → LM e l p P := by
  intro P
  induction P with
  | nil => intro l p _ _ _ h22 _; exact h22
  | cons q P ih =>
    intro l p h hL hM h22 ht
    obtain ⟨t, b⟩ := q
    obtain ⟨k1, k2, k3⟩ := h
    simp only [tkP_c, List.length_append, List.length_cons] at hL hM ht
    rw [List.length_cons] at h22
    refine ⟨by rw [(h2 l (by omega)).1]; exact k1, by rw [(h2 l (by omega)).2]; exact k2, fun i hi => ?_, ih (l + 1) (p + t.length + b.length) k3 (by omega) (by omega) (by rw [h22]; congr 1; omega) (fun i hi => ?_)⟩
    · have hi' : i < t.length + b.length := by simpa using hi
      rw [(h1 (p + i) (by omega)).1, (h1 (p + i) (by omega)).2]
      have := ht i (by omega)
      rw [List.getElem_append_left hi] at this
      exact this
    · have := ht (t.length + b.length + i) (by omega)
      rw [List.getElem_append_right (by simp only [List.length_append]; omega)] at this
      simp only [List.length_append, show t.length + b.length + i - (t.length + b.length) = i by omega] at this
      rw [show p + t.length + b.length + i = p + (t.length + b.length + i) by omega]
      exact this
/-- a text that stands becomes the law, in the reference -/
theorem d_take {n : Nat} (hn5 : 5000 < n) {c0 d0 c d : St} {K nt : Nat} {P : List Ln} (hnt : nt ≤ 120) (h : LSt c0 d0 K c d nt P) (hT : (tkP P).length ≤ nt) (h2 : 2 * P.length ≤ nt + 1) : ∃ e, fX12_readText_86 n d 0 = some (-1, e) ∧ LM e 0 0 P ∧ gI e 0 25 = 0 ∧ (∀ k i, ¬ (k = 0 ∧ 25 ≤ i ∧ i ≤ 29) → ¬ (20 ≤ k ∧ k ≤ 24) → gI e k i = gI d0 k i) ∧ (∀ k, gL e k = gL d0 k) := by
  obtain ⟨s1, s2, s3, s4, s5⟩ := h
  obtain ⟨p1, p2, p3, p4, p5, p6⟩ := s2
  unfold fX12_readText_86
  rw [bnd_x, show gI (sI d 0 25 0) 0 27 = -1 by rw [gIp, if_neg (by omega)]; exact p3, if_pos neg1_lt]
  generalize hd1 : sI d 0 25 0 = d1
  have hg : ∀ k i, ¬ (k = 0 ∧ i = 25) → gI d1 k i = gI d k i := fun k i q => by rw [← hd1, gIp, if_neg q]
  have hlt := tkP_lt s5
  obtain ⟨e1, f1, f2, f3, f4⟩ := cpy1 (n := n) (d := d1) (L := (tkP P).length) (by omega) (by rw [hg 0 29 (by omega)]; exact p5) (fun j hj => by
    refine ⟨(tkP P)[j].1, hlt _ (List.getElem_mem hj), ?_⟩
    rw [hg 20 _ (by omega)]
    exact (p6 j hj).1) (tkP P).length 0 n d1 (by omega) (by omega) (fun j hj => absurd hj (by omega)) (fun _ _ _ => rfl) (fun _ => rfl)
  have f1' : fX12_readText_105 n n d1 0 0 = _ := f1
  rw [f1', hg 22 1 (by omega), s3]
  generalize hd2 : sI e1 22 0 (nI P.length) = d2
  have hg2 : ∀ k i, ¬ (k = 22 ∧ i = 0) → gI d2 k i = gI e1 k i := fun k i q => by rw [← hd2, gIp, if_neg q]
  have hLN : LN d2 0 0 P := LN_fr P 0 0 s4 (fun k i hk hi => by rw [hg2 k i (by omega), f3 k i (by omega), hg k i (by omega)])
  obtain ⟨e2, g1, g2, g3, g4⟩ := cpy2 (n := n) (d := d2) (M := P.length) (by omega) (by rw [← hd2, gIp, if_pos ⟨rfl, rfl⟩]) (fun j hj => by
    have := LN_at P 0 0 hLN (by omega) j hj
    rw [Nat.zero_add] at this
    exact this) P.length 0 n d2 (by omega) (by omega) (fun j hj => absurd hj (by omega)) (fun _ _ _ => rfl) (fun _ => rfl)
  have g1' : fX12_readText_177 n n d2 0 0 = some (-1, e2) := g1
  refine ⟨e2, g1', ?_, ?_, fun k i q1 q2 => ?_, fun k => ?_⟩
  · refine LM_of (d := d2) (L := (tkP P).length) (M := P.length) (fun j hj => ?_) g2 P 0 0 hLN (by omega) (by omega) ?_ (fun i hi => ?_)
    · rw [g3 20 j (by omega), hg2 20 j (by omega), (f2 j hj).1, g3 21 j (by omega), hg2 21 j (by omega), (f2 j hj).2, hg2 20 _ (by omega), f3 20 _ (by omega), hg2 21 _ (by omega), f3 21 _ (by omega)]
      exact ⟨rfl, rfl⟩
    · rw [g3 22 0 (by omega), ← hd2, gIp, if_pos ⟨rfl, rfl⟩, Nat.zero_add]
    · rw [Nat.zero_add, hg2 20 _ (by omega), f3 20 _ (by omega), hg 20 _ (by omega), hg2 21 _ (by omega), f3 21 _ (by omega), hg 21 _ (by omega)]
      exact p6 i hi
  · rw [g3 0 25 (by omega), hg2 0 25 (by omega), f3 0 25 (by omega), ← hd1, gIp, if_pos ⟨rfl, rfl⟩]
  · rw [g3 k i (by omega), hg2 k i (by omega), f3 k i (by omega), hg k i (by omega)]
    exact p1.1 k i (by omega) (by omega) (by omega) (by omega)
  · rw [g4, ← hd2, show gL (sI e1 22 0 (nI P.length)) k = gL e1 k from rfl, f4, ← hd1]
    exact p1.2 k
theorem toks_tk : ∀ P : List Ln, toks P = (tkP P).length := by
  intro P
  induction P with
  | nil => rfl
  | cons q P ih =>
    obtain ⟨t, b⟩ := q
    rw [toks_c, ih, tkP_c]
    simp only [List.length_append]
theorem law_rel {c c' d e : St} (h : Rel c d) (hc : ∀ k i, ¬ (k = 17 ∧ i ≤ 1) → ¬ (k = 21 ∧ 1 ≤ i ∧ i ≤ 4) → ¬ (k = 18 ∨ k = 23) → gI c' k i = gI c k i) (hcl : ∀ k, gL c' k = gL c k) (hd : ∀ k i, ¬ (k = 0 ∧ ((25 ≤ i ∧ i ≤ 29) ∨ i = 37)) → ¬ (20 ≤ k ∧ k ≤ 24) → gI e k i = gI d k i) (hdl : ∀ k, gL e k = gL d k) (h1 : gI c' 21 1 = 0) (h2 : gI e 0 25 = 0) (hw : RW c' e) : Rel c' e := by
  obtain ⟨hL, hC, hD, hI, hB, hS, hT, -⟩ := h
  have ac : ∀ f : Nat → Nat → Prop, (∀ k i, f k i → ¬ (k = 17 ∧ i ≤ 1) ∧ ¬ (k = 21 ∧ 1 ≤ i ∧ i ≤ 4) ∧ ¬ (k = 18 ∨ k = 23)) → alk f c c' := fun f q k i z => hc k i (q k i z).1 (q k i z).2.1 (q k i z).2.2
  have ad : ∀ f : Nat → Nat → Prop, (∀ k i, f k i → ¬ (k = 0 ∧ ((25 ≤ i ∧ i ≤ 29) ∨ i = 37)) ∧ ¬ (20 ≤ k ∧ k ≤ 24)) → alk f d e := fun f q k i z => hd k i (q k i z).1 (q k i z).2
  have hm : cle c c' := fun i a b => by rw [hc 1 i (by omega) (by omega) (by omega)]; exact i32_rf _
  have hb : gI c 49 1 ≤ gI c' 49 1 := by rw [hc 49 1 (by omega) (by omega) (by omega)]; exact i32_rf _
  exact ⟨RLa_fr hL (ac _ (fun k i z => by unfold fLc fpL at z; omega)) (ad _ (fun k i z => by unfold fLd fpL at z; omega)), RC_fr hC hm (ac _ (fun k i z => by unfold fCc at z; omega)) (ad _ (fun k i z => by unfold fCd at z; omega)), RD_fr hD hm (ac _ (fun k i z => by unfold fDc at z; omega)) (ad _ (fun k i z => by unfold fDd at z; omega)), RI_fr hI hm (ac _ (fun k i z => by unfold fIc at z; omega)) (ad _ (fun k i z => by unfold fId at z; omega)), RB_fr hB (ac _ (fun k i z => by unfold fBc at z; omega)) (ad _ (fun k i z => by unfold fBd at z; omega)), RS_fr hS hb (ac _ (fun k i z => by unfold fSc at z; omega)) (ad _ (fun k i z => by unfold fSd at z; omega)) (fun k _ _ => hcl k) (hdl 41), ⟨0, by omega, h1, h2, fun j hj => absurd hj (by omega)⟩, hw⟩
set_option maxHeartbeats 1000000 in
theorem s_law {n : Nat} (hn : 5000 < n) : S_law Rel n := by
  intro c d h
  obtain ⟨nt, t1, t2, t3, t4⟩ := h.2.2.2.2.2.2.1
  obtain ⟨w1, w2⟩ := h.2.2.2.2.2.2.2
  obtain ⟨K, hK, hK3, hK0⟩ : ∃ K : Nat, (K = 18 ∨ K = 23) ∧ gI c 21 3 = nI K ∧ gI c 17 0 = nI (41 - K) := by
    rcases w1 with ⟨a, b⟩ | ⟨a, b⟩
    · exact ⟨23, Or.inr rfl, b, a⟩
    · exact ⟨18, Or.inl rfl, b, a⟩
  have htp : ∃ tp : Nat → Nat, ∀ j, j < nt → tp j < 256 ∧ gI c 22 j = nI (tp j) ∧ gI d 19 j = sb (tp j) := by
    refine ⟨fun j => (gI c 22 j).toNatClampNeg, fun j hj => ?_⟩
    obtain ⟨b, b1, b2, b3⟩ := t4 j hj
    show (gI c 22 j).toNatClampNeg < 256 ∧ gI c 22 j = nI (gI c 22 j).toNatClampNeg ∧ gI d 19 j = sb (gI c 22 j).toNatClampNeg
    rw [b2, nIc (by omega)]
    exact ⟨b1, rfl, b3⟩
  obtain ⟨tp, htp⟩ := htp
  have H : WP c d K nt tp := ⟨t1, hK, t2, hK3, t3, htp⟩
  obtain ⟨b, c1, d1, e1, e2, e3⟩ := text_sim hn H
  unfold fX11_law fX12_law fX11_law_23
  rw [e1, e2, Option.bind_some, bnd_x]
  rcases e3 with ⟨rfl, P, f1, f2, f3, f4, f5⟩ | ⟨rfl, a, l, f1, f2, f3⟩
  · obtain ⟨e, g1, g2, g3, g4, g5⟩ := d_take hn t1 f1 f3 f5
    obtain ⟨⟨⟨⟨q1, q2⟩, q3⟩, q4, q5⟩, -, -, -, q6⟩ := f1
    rw [g1, Option.bind_some, if_pos neg1_lt, bnd_x]
    unfold fX5_handTo
    simp only [bnd_x]
    have k3 : gI c1 21 3 = nI K := by rw [q1 21 3 (by omega) (by omega)]; exact hK3
    have k0 : gI c1 17 0 = nI (41 - K) := by rw [q1 17 0 (by omega) (by omega)]; exact hK0
    have k4 : gI (sI c1 17 0 (gI c1 21 3)) 21 4 = nI (P.flatMap lnC).length := by rw [gIp, if_neg (by omega)]; exact q4
    rw [k4, k3, k0]
    generalize hc2 : sI (sI (sI (sI c1 17 0 (nI K)) 17 1 (nI (P.flatMap lnC).length)) 21 3 (nI (41 - K))) 21 1 0 = c2
    have hg : ∀ k i, gI c2 k i = if k = 21 ∧ i = 1 then 0 else if k = 21 ∧ i = 3 then nI (41 - K) else if k = 17 ∧ i = 1 then nI (P.flatMap lnC).length else if k = 17 ∧ i = 0 then nI K else gI c1 k i := fun k i => by
      rw [← hc2, gIp, gIp, gIp, gIp]
    refine ⟨1, c2, sI e 0 37 1, ?_, rfl, ?_⟩
    · show (if (1 : Int32) = 0 then _ else _) = _
      rw [if_neg (by decide), if_neg (by decide)]
    · refine law_rel h (fun k i p q r => ?_) (fun k => by rw [← hc2]; exact q2 k) (fun k i p q => ?_) (fun k => g5 k) ?_ ?_ ⟨?_, Or.inr ⟨?_, P, ⟨f2, by omega, by rw [toks_tk]; omega, q6⟩, ?_, ?_⟩⟩
      · rw [hg, if_neg (by omega), if_neg (by omega), if_neg (by omega), if_neg (by omega)]
        exact q1 k i (by omega) (by omega)
      · rw [gIp, if_neg (by omega)]
        exact g4 k i (by omega) q
      · rw [hg, if_pos ⟨rfl, rfl⟩]
      · rw [gIp, if_neg (by omega)]; exact g3
      · rw [hg 17 0, if_neg (by omega), if_neg (by omega), if_neg (by omega), if_pos ⟨rfl, rfl⟩, hg 21 3, if_neg (by omega), if_pos ⟨rfl, rfl⟩]
        rcases hK with rfl | rfl
        · exact Or.inl ⟨rfl, rfl⟩
        · exact Or.inr ⟨rfl, rfl⟩
      · rw [gIp, if_pos ⟨rfl, rfl⟩]
      · exact LM_eq (by rw [gI_sIx, if_neg (by omega)]) (by rw [gI_sIx, if_neg (by omega)]) (by rw [gI_sIx, if_neg (by omega)]) (by rw [gI_sIx, if_neg (by omega)]) (by rw [gI_sIx, if_neg (by omega)]) P 0 0 g2
      · rw [hg 17 0, if_neg (by omega), if_neg (by omega), if_neg (by omega), if_pos ⟨rfl, rfl⟩, nIc (by omega), hg 17 1, if_neg (by omega), if_neg (by omega), if_pos ⟨rfl, rfl⟩]
        refine ⟨rfl, by omega, fun i hi => ?_⟩
        rw [hg, if_neg (by omega), if_neg (by omega), if_neg (by omega), if_neg (by omega)]
        have := q5 i hi
        rw [Nat.zero_add] at this
        exact this
  · obtain ⟨⟨q1, q2⟩, q3⟩ := f2
    obtain ⟨⟨p1, p2⟩, p3, p4, -⟩ := f3
    have e27 : gI (sI d1 0 25 0) 0 27 = nI a := by rw [gIp, if_neg (by omega)]; exact p3
    have eD : fX12_readText_86 n d1 0 = some (nI a, sI d1 0 25 0) := by
      unfold fX12_readText_86
      rw [bnd_x, e27, if_neg (nI_pos (by omega))]
    rw [eD, Option.bind_some, if_neg (show ¬ (nI a, sI d1 0 25 0).1 < 0 from nI_pos (n := a) (by omega))]
    refine ⟨-100 - nI a, sI c1 21 1 0, sI d1 0 25 0, ?_, rfl, ?_⟩
    · show some (-100 - gI c1 21 2, sI c1 21 1 0) = _
      rw [q3]
    refine law_rel h (fun k i p q r => ?_) (fun k => q2 k) (fun k i p q => ?_) (fun k => p2 k) ?_ ?_ ?_
    · rw [gIp, if_neg (by omega)]
      exact q1 k i (by omega) (by omega)
    · rw [gIp, if_neg (by omega)]
      exact p1 k i (by omega) (by omega) (by omega) (by omega)
    · rw [gIp, if_pos ⟨rfl, rfl⟩]
    · rw [gIp, if_pos ⟨rfl, rfl⟩]
    · have c17 : ∀ i, gI (sI c1 21 1 0) 17 i = gI c 17 i := fun i => by rw [gIp, if_neg (by omega)]; exact q1 17 i (by omega) (by omega)
      have c213 : gI (sI c1 21 1 0) 21 3 = gI c 21 3 := by rw [gIp, if_neg (by omega)]; exact q1 21 3 (by omega) (by omega)
      have d37 : gI (sI d1 0 25 0) 0 37 = gI d 0 37 := by rw [gIp, if_neg (by omega)]; exact p1 0 37 (by omega) (by omega) (by omega) (by omega)
      refine ⟨by rw [c17, c213]; exact w1, ?_⟩
      rw [c17, c17, d37]
      rcases w2 with w2 | ⟨x1, P, x2, x3, x4⟩
      · exact Or.inl w2
      · refine Or.inr ⟨x1, P, x2, LM_fr (fun k i z => ?_) P 0 0 (by have := x2.2.1; omega) (by have := x2.2.2.1; omega) x3, x4.1, x4.2.1, fun i hi => ?_⟩
        · unfold fWd at z
          rw [gIp, if_neg (by omega)]
          exact p1 k i (by omega) (by omega) (by omega) (by omega)
        · rw [← x4.2.2 i hi, hK0, nIc (by omega), gIp, if_neg (by omega)]
          exact q1 _ i (by omega) (by omega)
