def vx (ts : List Tk) : Prop := ∀ h, vd ts h (h + 1)
def vx1 (us : List Tk) : Prop := ∀ h, vd us (h + 1) (h + 1)
def dig (x : Nat) : Prop := 48 ≤ x ∧ x ≤ 57
def Out (c0 d0 : St) (K nt : Nat) (tp : Nat → Nat) (V : List Tk → Prop) (a q o : Nat) (CL : List Int32) (TL : List Tk) (b : Bool) (c' d' : St) : Prop :=
  (b = true ∧ ∃ ts a', V ts ∧ a + ts.length ≤ a' ∧ a' ≤ nt ∧ PC c0 c' K a' (CL ++ ts.map sg) ∧ PD d0 d' a' o (TL ++ ts)) ∨
  (b = true ∧ ∃ a' l, dig (ch tp nt a') ∧ a' ≤ nt ∧ PS c0 c' K a' ∧ PG d0 d' nt a' l ∧ l + q ≤ a' + 1) ∨
  (b = false ∧ ∃ a' l, a' ≤ nt ∧ PQ c0 c' K a' ∧ PG d0 d' nt a' l ∧ l + q ≤ a' + 1)
def SM (c0 d0 : St) (K nt : Nat) (tp : Nat → Nat) (V : List Tk → Prop) (F : St → Option (Bool × St)) (G : St → Option St) (o : Nat) : Prop :=
  ∀ (c d : St) (a q : Nat) (CL : List Int32) (TL : List Tk), PC c0 c K a CL → PD d0 d a o TL → a ≤ nt → TL.length + q ≤ a → CL.length + q ≤ a → ∃ b c' d', F c = some (b, c') ∧ G d = some d' ∧ rwL d d' ∧ Out c0 d0 K nt tp V a q o CL TL b c' d'
theorem vd_app : ∀ (ts us : List Tk) (h g k : Nat), vd ts h g → vd us g k → vd (ts ++ us) h k := by
  intro ts
  induction ts with
  | nil => intro us h g k h1 h2; have h1 : h = g := h1; rw [h1]; exact h2
  | cons t ts ih =>
    intro us h g k h1 h2
    rw [List.cons_append, vd]
    rw [vd] at h1
    by_cases c1 : t.1 = 1
    · rw [if_pos c1] at h1 ⊢
      exact ⟨h1.1, ih us _ _ _ h1.2 h2⟩
    rw [if_neg c1] at h1 ⊢
    by_cases c2 : t.1 = 2
    · rw [if_pos c2] at h1 ⊢
      exact ⟨h1.1, ih us _ _ _ h1.2 h2⟩
    rw [if_neg c2] at h1 ⊢
    by_cases c3 : t.1 = 3 ∨ t.1 = 4
    · rw [if_pos c3] at h1 ⊢
      exact ⟨h1.1, ih us _ _ _ h1.2 h2⟩
    rw [if_neg c3] at h1 ⊢
    exact ⟨h1.1, h1.2.1, ih us _ _ _ h1.2.2 h2⟩
theorem vd_op {x : Nat} (hx : isOp x = true) (h : Nat) : vd [(x, 0)] (h + 2) (h + 1) := by
  have n1 : ¬ x = 1 := fun e => by rw [e] at hx; cases hx
  have n2 : ¬ x = 2 := fun e => by rw [e] at hx; cases hx
  have n3 : ¬ (x = 3 ∨ x = 4) := fun e => by
    rcases e with e | e
    · rw [e] at hx; cases hx
    · rw [e] at hx; cases hx
  rw [vd, if_neg n1, if_neg n2, if_neg n3]
  exact ⟨hx, by omega, rfl⟩
theorem vx_seq {ts us : List Tk} (h1 : vx ts) (h2 : vx1 us) : vx (ts ++ us) := fun h => vd_app ts us _ _ _ (h1 h) (h2 h)
theorem vx1_0 : vx1 [] := fun _ => rfl
theorem vx1_st {ts us : List Tk} {x : Nat} (hx : isOp x = true) (h1 : vx ts) (h2 : vx1 us) : vx1 ((ts ++ [(x, 0)]) ++ us) := fun h => vd_app _ us _ _ _ (vd_app ts _ _ _ _ (h1 (h + 1)) (vd_op hx h)) (h2 h)
/-- one, then another -/
theorem seqSM {c0 d0 : St} {K nt o : Nat} {tp : Nat → Nat} (H : WP c0 d0 K nt tp) {F1 F2 : St → Option (Bool × St)} {G1 G2 : St → Option St} (h1 : SM c0 d0 K nt tp vx F1 G1 o) (h2 : SM c0 d0 K nt tp vx1 F2 G2 o) (hs : ∀ c a, PQ c0 c K a → a ≤ nt → dig (ch tp nt a) → F2 c = some (true, c)) (hg : ∀ d a l, PG d0 d nt a l → a ≤ nt → G2 d = some d) : SM c0 d0 K nt tp vx (fun c => (F1 c).bind (fun r1 => if bI r1.1 = 0 then (some (false, r1.2)) else F2 r1.2)) (fun d => (G1 d).bind (fun r1 => G2 r1)) o := by
  intro c d a q CL TL hc hd ha hT hC
  have hn := H.1
  obtain ⟨b, c1, d1, e1, e2, e3, e4⟩ := h1 c d a q CL TL hc hd ha hT hC
  rcases e4 with ⟨rfl, ts, a', t1, t2, t3, t4, t5⟩ | ⟨rfl, a', l, t1, t2, t3, t4, t5⟩ | ⟨rfl, a', l, t2, t3, t4, t5⟩
  · obtain ⟨b2, c2, d2, f1, f2, f3, f4⟩ := h2 c1 d1 a' q (CL ++ ts.map sg) (TL ++ ts) t4 t5 t3 (by simp only [List.length_append]; omega) (by simp only [List.length_append, List.length_map]; omega)
    refine ⟨b2, c2, d2, ?_, ?_, rwL_tr e3 f3, ?_⟩
    · show (F1 c).bind _ = _
      rw [e1]; exact f1
    · show (G1 d).bind _ = _
      rw [e2]; exact f2
    · rcases f4 with ⟨g0, us, b', g1, g2, g3, g4, g5⟩ | g | g
      · refine Or.inl ⟨g0, ts ++ us, b', vx_seq t1 g1, by simp only [List.length_append]; omega, g3, ?_, ?_⟩
        · rw [List.map_append, ← List.append_assoc]; exact g4
        · rw [← List.append_assoc]; exact g5
      · exact Or.inr (Or.inl g)
      · exact Or.inr (Or.inr g)
  · refine ⟨true, c1, d1, ?_, ?_, e3, Or.inr (Or.inl ⟨rfl, a', l, t1, t2, t3, t4, t5⟩)⟩
    · show (F1 c).bind _ = _
      rw [e1]; exact hs c1 a' t3.1 t2 t1
    · show (G1 d).bind _ = _
      rw [e2]; exact hg d1 a' l t4 t2
  · refine ⟨false, c1, d1, ?_, ?_, e3, Or.inr (Or.inr ⟨rfl, a', l, t2, t3, t4, t5⟩)⟩
    · show (F1 c).bind _ = _
      rw [e1]; rfl
    · show (G1 d).bind _ = _
      rw [e2]; exact hg d1 a' l t4 t2
/-- an operator's byte is passed, its other side read, the operator laid -/
theorem opSM {c0 d0 : St} {K nt o : Nat} {tp : Nat → Nat} (H : WP c0 d0 K nt tp) {F1 : St → Option (Bool × St)} {G1 : St → Option St} (h1 : SM c0 d0 K nt tp vx F1 G1 o) {c d : St} {a q x : Nat} {CL : List Int32} {TL : List Tk} (hx : isOp x = true) (hx2 : x < 128) (hc : PC c0 c K a CL) (hd : PD d0 d a o TL) (ha : a < nt) (hT : TL.length + q ≤ a) (hC : CL.length + q ≤ a) (Kc : St → Option (Bool × St)) (Kd : St → Option St) : (∃ ts a' c' d', vx ts ∧ a + 1 + ts.length ≤ a' ∧ a' ≤ nt ∧ PC c0 c' K a' (CL ++ (ts ++ [(x, 0)]).map sg) ∧ PD d0 d' a' o (TL ++ (ts ++ [(x, 0)])) ∧ rwL d d' ∧ ((F1 (sI c 21 2 (nI (a + 1)))).bind (fun r => if bI r.1 = 0 then some (false, r.2) else (fX5_add r.2 (sg (x, 0))).bind (fun r' => Kc r'))) = Kc c' ∧ ((G1 (sI d 0 26 (nI (a + 1)))).bind (fun r => (fX12_addStep r (nI x) 0).bind (fun r' => Kd r'))) = Kd d') ∨ (∃ a' l c' d', dig (ch tp nt a') ∧ a' ≤ nt ∧ PS c0 c' K a' ∧ PG d0 d' nt a' l ∧ l + q ≤ a' + 1 ∧ rwL d d' ∧ ((F1 (sI c 21 2 (nI (a + 1)))).bind (fun r => if bI r.1 = 0 then some (false, r.2) else (fX5_add r.2 (sg (x, 0))).bind (fun r' => Kc r'))) = Kc c' ∧ ((G1 (sI d 0 26 (nI (a + 1)))).bind (fun r => (fX12_addStep r (nI x) 0).bind (fun r' => Kd r'))) = Kd d') ∨ (∃ a' l c' d', a' ≤ nt ∧ PQ c0 c' K a' ∧ PG d0 d' nt a' l ∧ l + q ≤ a' + 1 ∧ rwL d d' ∧ ((F1 (sI c 21 2 (nI (a + 1)))).bind (fun r => if bI r.1 = 0 then some (false, r.2) else (fX5_add r.2 (sg (x, 0))).bind (fun r' => Kc r'))) = some (false, c') ∧ ((G1 (sI d 0 26 (nI (a + 1)))).bind (fun r => (fX12_addStep r (nI x) 0).bind (fun r' => Kd r'))) = Kd d') := by
  have hn := H.1
  obtain ⟨b, c1, d1, e1, e2, e3, e4⟩ := h1 _ _ (a + 1) (q + 1) CL TL (PC_adv H.2.1 hc) (PD_adv hd) (by omega) (by omega) (by omega)
  rw [e1, e2, Option.bind_some, Option.bind_some]
  have r0 : rwL d d1 := rwL_tr (rwL_sI d 26 _ (by omega)) e3
  rcases e4 with ⟨rfl, ts, a', t1, t2, t3, t4, t5⟩ | ⟨rfl, a', l, t1, t2, t3, t4, t5⟩ | ⟨rfl, a', l, t2, t3, t4, t5⟩
  · left
    obtain ⟨c2, f1, f2⟩ := PC_add H t4 (by simp only [List.length_append, List.length_map]; omega) (sg (x, 0))
    obtain ⟨d2, g1, g2, g3⟩ := PD_add t5 (by simp only [List.length_append]; omega) x hx2 0
    refine ⟨ts, a', c2, d2, t1, by omega, t3, ?_, ?_, rwL_tr r0 g3, ?_, ?_⟩
    · rw [List.map_append, ← List.append_assoc]; exact f2
    · rw [← List.append_assoc]; exact g2
    · show (fX5_add c1 (sg (x, 0))).bind _ = _
      rw [f1]; rfl
    · rw [g1]; rfl
  · right; left
    obtain ⟨c2, f1, f2⟩ := PS_add H t3 (sg (x, 0))
    obtain ⟨d2, g1, g2, g3⟩ := PG_add t4 (by omega) (nI x) 0
    refine ⟨a', l + 1, c2, d2, t1, t2, f2, g2, by omega, rwL_tr r0 g3, ?_, ?_⟩
    · show (fX5_add c1 (sg (x, 0))).bind _ = _
      rw [f1]; rfl
    · rw [g1]; rfl
  · right; right
    obtain ⟨d2, g1, g2, g3⟩ := PG_add t4 (by omega) (nI x) 0
    refine ⟨a', l + 1, c1, d2, t2, t3, g2, by omega, rwL_tr r0 g3, rfl, ?_⟩
    rw [g1]; rfl
theorem loopSM {c0 d0 : St} {K nt o n : Nat} (hn5 : 5000 < n) {tp : Nat → Nat} (H : WP c0 d0 K nt tp) {F1 : St → Option (Bool × St)} {G1 : St → Option St} (hs : SM c0 d0 K nt tp vx F1 G1 o) (ops : Nat → Bool) (hop : ∀ x, ops x = true → isOp x = true ∧ x < 128) (hdg : ∀ x, dig x → ops x = false) (Fk : Nat → St → Option (Bool × St)) (Gk : Nat → St → Option St)
    (h1 : ∀ k c a, PQ c0 c K a → a ≤ nt → ops (ch tp nt a) = false → Fk (k + 1) c = some (true, c))
    (h2 : ∀ k c a, PQ c0 c K a → a ≤ nt → ops (ch tp nt a) = true → Fk (k + 1) c = (F1 (sI c 21 2 (nI (a + 1)))).bind (fun r => if bI r.1 = 0 then some (false, r.2) else (fX5_add r.2 (sg (ch tp nt a, 0))).bind (fun r' => Fk k r')))
    (g0 : ∀ k d, 0 ≤ gI d 0 27 → Gk (k + 1) d = some d)
    (g1 : ∀ k d a TL, PD d0 d a o TL → a ≤ nt → ops (ch tp nt a) = false → Gk (k + 1) d = some d)
    (g2 : ∀ k d a TL, PD d0 d a o TL → a ≤ nt → ops (ch tp nt a) = true → Gk (k + 1) d = (G1 (sI d 0 26 (nI (a + 1)))).bind (fun r => (fX12_addStep r (nI (ch tp nt a)) 0).bind (fun r' => Gk k r'))) : SM c0 d0 K nt tp vx1 (Fk n) (Gk n) o := by
  have hnt := H.1
  have main : ∀ (r k : Nat) (c d : St) (a q : Nat) (CL : List Int32) (TL : List Tk), nt - a ≤ r → r < k → PC c0 c K a CL → PD d0 d a o TL → a ≤ nt → TL.length + q ≤ a → CL.length + q ≤ a → ∃ b c' d', Fk k c = some (b, c') ∧ Gk k d = some d' ∧ rwL d d' ∧ Out c0 d0 K nt tp vx1 a q o CL TL b c' d' := by
    intro r
    induction r with
    | zero =>
      intro k c d a q CL TL hr hk hc hd ha hT hC
      obtain ⟨k, rfl⟩ : ∃ k', k = k' + 1 := ⟨k - 1, by omega⟩
      have hz : ops (ch tp nt a) = false := by
        apply Bool.eq_false_iff.mpr
        intro y
        have := (hop _ y).2
        unfold ch at this
        rw [if_neg (by omega)] at this
        omega
      refine ⟨true, c, d, h1 k c a hc.1 ha hz, g1 k d a TL hd ha hz, rwL_rf d, Or.inl ⟨rfl, [], a, vx1_0, by simp, ha, ?_, ?_⟩⟩
      · rw [List.map_nil, List.append_nil]; exact hc
      · rw [List.append_nil]; exact hd
    | succ r ih =>
      intro k c d a q CL TL hr hk hc hd ha hT hC
      obtain ⟨k, rfl⟩ : ∃ k', k = k' + 1 := ⟨k - 1, by omega⟩
      cases hz : ops (ch tp nt a) with
      | false =>
        refine ⟨true, c, d, h1 k c a hc.1 ha hz, g1 k d a TL hd ha hz, rwL_rf d, Or.inl ⟨rfl, [], a, vx1_0, by simp, ha, ?_, ?_⟩⟩
        · rw [List.map_nil, List.append_nil]; exact hc
        · rw [List.append_nil]; exact hd
      | true =>
        obtain ⟨p1, p2⟩ := hop _ hz
        have ha2 : a < nt := by
          apply Classical.byContradiction
          intro y
          unfold ch at p2
          rw [if_neg y] at p2
          omega
        rw [h2 k c a hc.1 ha hz, g2 k d a TL hd ha hz]
        rcases opSM H hs p1 p2 hc hd ha2 hT hC (Fk k) (Gk k) with ⟨ts, a', c', d', t1, t2, t3, t4, t5, t6, t7, t8⟩ | ⟨a', l, c', d', t1, t2, t3, t4, t5, t6, t7, t8⟩ | ⟨a', l, c', d', t2, t3, t4, t5, t6, t7, t8⟩
        · rw [t7, t8]
          obtain ⟨b, c2, d2, u1, u2, u3, u4⟩ := ih k c' d' a' q _ _ (by omega) (by omega) t4 t5 t3 (by simp only [List.length_append, List.length_cons, List.length_nil]; omega) (by simp only [List.length_append, List.length_map, List.length_cons, List.length_nil]; omega)
          refine ⟨b, c2, d2, u1, u2, rwL_tr t6 u3, ?_⟩
          rcases u4 with ⟨v0, us, b', v1, v2, v3, v4, v5⟩ | v | v
          · refine Or.inl ⟨v0, (ts ++ [(ch tp nt a, 0)]) ++ us, b', vx1_st p1 t1 v1, by simp only [List.length_append, List.length_cons, List.length_nil]; omega, v3, ?_, ?_⟩
            · rw [List.map_append, ← List.append_assoc]; exact v4
            · rw [← List.append_assoc]; exact v5
          · exact Or.inr (Or.inl v)
          · exact Or.inr (Or.inr v)
        · obtain ⟨k, rfl⟩ : ∃ k', k = k' + 1 := ⟨k - 1, by omega⟩
          rw [t7, t8]
          exact ⟨true, c', d', h1 k c' a' t3.1 t2 (hdg _ t1), g0 k d' (PG_f t4 (by omega)), t6, Or.inr (Or.inl ⟨rfl, a', l, t1, t2, t3, t4, t5⟩)⟩
        · obtain ⟨k, rfl⟩ : ∃ k', k = k' + 1 := ⟨k - 1, by omega⟩
          rw [t7, t8]
          exact ⟨false, c', d', rfl, g0 k d' (PG_f t4 (by omega)), t6, Or.inr (Or.inr ⟨rfl, a', l, t2, t3, t4, t5⟩)⟩
  intro c d a q CL TL hc hd ha hT hC
  exact main nt n c d a q CL TL (by omega) (by omega) hc hd ha hT hC
