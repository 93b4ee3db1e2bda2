/-! a line -/
abbrev Ln : Type := List Tk × List Tk
def tkP (P : List Ln) : List Tk := P.flatMap (fun q => q.1 ++ q.2)
def LN (d : St) : Nat → Nat → List Ln → Prop
  | _, _, [] => True
  | l, p, (t, b) :: P => gI d 23 (61 + l) = nI (p + t.length) ∧ gI d 24 (61 + l) = nI (p + t.length + b.length) ∧ LN d (l + 1) (p + t.length + b.length) P
theorem tkP_c (t b : List Tk) (P : List Ln) : tkP ((t, b) :: P) = t ++ b ++ tkP P := rfl
theorem tkP_s (t b : List Tk) (P : List Ln) : tkP (P ++ [(t, b)]) = tkP P ++ (t ++ b) := by
  unfold tkP
  rw [List.flatMap_append]
  simp
theorem LN_snoc {d : St} {t b : List Tk} : ∀ (P : List Ln) (l p : Nat), LN d l p P → gI d 23 (61 + (l + P.length)) = nI (p + (tkP P).length + t.length) → gI d 24 (61 + (l + P.length)) = nI (p + (tkP P).length + t.length + b.length) → LN d l p (P ++ [(t, b)]) := by
  intro P
  induction P with
  | nil => intro l p _ h1 h2; exact ⟨h1, h2, trivial⟩
  | cons q P ih =>
    intro l p h h1 h2
    obtain ⟨t', b'⟩ := q
    obtain ⟨k1, k2, k3⟩ := h
    simp only [tkP_c, List.length_cons, List.length_append] at h1 h2
    refine ⟨k1, k2, ih (l + 1) (p + t'.length + b'.length) k3 ?_ ?_⟩
    · rw [show l + 1 + P.length = l + (P.length + 1) by omega, h1]
      congr 1
      omega
    · rw [show l + 1 + P.length = l + (P.length + 1) by omega, h2]
      congr 1
      omega
theorem LN_fr {d d' : St} : ∀ (P : List Ln) (l p : Nat), LN d l p P → (∀ k i, (k = 23 ∨ k = 24) → i < 61 + (l + P.length) → gI d' k i = gI d k i) → LN d' l p P := by
  intro P
  induction P with
  | nil => intro l p _ _; exact trivial
  | cons q P ih =>
    intro l p h hf
    obtain ⟨t', b'⟩ := q
    obtain ⟨k1, k2, k3⟩ := h
    simp only [List.length_cons] at hf
    exact ⟨by rw [hf 23 _ (Or.inl rfl) (by omega)]; exact k1, by rw [hf 24 _ (Or.inr rfl) (by omega)]; exact k2, ih (l + 1) _ k3 (fun k i hk hi => hf k i hk (by omega))⟩
theorem nar_s : ∀ l, l < 256 → vp_nar .short ((nI l).toInt16.toInt32) = nI l := by decide +kernel
theorem DB_ln {d0 d : St} {k i : Nat} {v : Int32} (h : DB d0 d) (hk : (k = 22 ∧ i = 1) ∨ ((k = 23 ∨ k = 24) ∧ 61 ≤ i)) : DB d0 (sI d k i v) := ⟨fun a b p q r s => by rw [gIp, if_neg (by omega)]; exact h.1 a b p q r s, h.2⟩
theorem PD_ln {d0 d : St} {a o k i : Nat} {v : Int32} {TL : List Tk} (h : PD d0 d a o TL) (hk : (k = 22 ∧ i = 1) ∨ ((k = 23 ∨ k = 24) ∧ 61 ≤ i)) : PD d0 (sI d k i v) a o TL := by
  obtain ⟨h1, h2, h3, h4, h5, h6⟩ := h
  refine ⟨DB_ln h1 hk, ?_, ?_, ?_, ?_, fun j hj => ?_⟩
  · rw [gIp, if_neg (by omega)]; exact h2
  · rw [gIp, if_neg (by omega)]; exact h3
  · rw [gIp, if_neg (by omega)]; exact h4
  · rw [gIp, if_neg (by omega)]; exact h5
  · rw [gIp, if_neg (by omega), gIp, if_neg (by omega)]; exact h6 j hj
theorem PG_ln {d0 d : St} {nt a l k i : Nat} {v : Int32} (h : PG d0 d nt a l) (hk : (k = 22 ∧ i = 1) ∨ ((k = 23 ∨ k = 24) ∧ 61 ≤ i)) : PG d0 (sI d k i v) nt a l := by
  obtain ⟨h1, h2, h3, p, h4, h5⟩ := h
  exact ⟨DB_ln h1 hk, by rw [gIp, if_neg (by omega)]; exact h2, by rw [gIp, if_neg (by omega)]; exact h3, p, h4, by rw [gIp, if_neg (by omega)]; exact h5⟩
theorem l66_g {n : Nat} {d0 d : St} {nt a l m : Nat} (h : PG d0 d nt a l) (hm : m ≤ 60) : ∃ d', fX12_line_66 n d (nI (61 + m)) = some d' ∧ PG d0 d' nt a l := by
  unfold fX12_line_66
  rw [inB_t (show 61 + m < 122 by omega) (by omega), gd_true, bnd_x, bnd_x, nIc (by omega)]
  exact ⟨_, rfl, PG_ln (PG_ln h (by omega)) (by omega)⟩
theorem l66_d {n : Nat} {d0 d : St} {a o m : Nat} {TL : List Tk} (h : PD d0 d a o TL) (hm : m ≤ 60) (h22 : gI d 22 1 = nI m) (hl : TL.length < 256) : ∃ d', fX12_line_66 n d (nI (61 + m)) = some d' ∧ PD d0 d' a o TL ∧ gI d' 24 (61 + m) = nI TL.length ∧ gI d' 22 1 = nI (m + 1) ∧ (∀ i, gI d' 23 i = gI d 23 i) ∧ (∀ i, i ≠ 61 + m → gI d' 24 i = gI d 24 i) := by
  unfold fX12_line_66
  rw [inB_t (show 61 + m < 122 by omega) (by omega), gd_true, bnd_x, bnd_x, nIc (by omega), h.2.2.2.2.1, nar_s _ hl, gIp, if_neg (by omega), h22, nI_1]
  refine ⟨_, rfl, PD_ln (PD_ln h (by omega)) (by omega), ?_, ?_, fun i => ?_, fun i hi => ?_⟩
  · rw [gIp, if_neg (by omega), gIp, if_pos ⟨rfl, rfl⟩]
  · rw [gIp, if_pos ⟨rfl, rfl⟩]
  · rw [gIp, if_neg (by omega), gIp, if_neg (by omega)]
  · rw [gIp, if_neg (by omega), gIp, if_neg (by omega)]
/-- at a line's beginning -/
def LSt (c0 d0 : St) (K : Nat) (c d : St) (a : Nat) (P : List Ln) : Prop := PC c0 c K a (P.flatMap lnC) ∧ PD d0 d a 0 (tkP P) ∧ gI d 22 1 = nI P.length ∧ LN d 0 0 P ∧ (∀ q ∈ P, (q.1 = [] ∨ vd q.1 0 1) ∧ vd q.2 0 1)
theorem vx_ne {ts : List Tk} (h : vx ts) : ts ≠ [] := fun e => by
  have := h 0
  rw [e] at this
  cases this
set_option maxHeartbeats 1000000 in
theorem line_sim {n : Nat} (hn5 : 5000 < n) {c0 d0 : St} {K nt : Nat} {tp : Nat → Nat} (H : WP c0 d0 K nt tp) {c d : St} {a : Nat} {P : List Ln} (h : LSt c0 d0 K c d a P) (ha : a ≤ nt) (h2 : 2 * P.length ≤ a) (hT : (tkP P).length ≤ a) (hC : (P.flatMap lnC).length ≤ a) : ∃ b c' d', fX5_readLine n c = some (b, c') ∧ fX12_line n d = some d' ∧ ((b = true ∧ ∃ q a', LSt c0 d0 K c' d' a' (P ++ [q]) ∧ a < a' ∧ a' ≤ nt ∧ (tkP (P ++ [q])).length ≤ a' ∧ ((P ++ [q]).flatMap lnC).length ≤ a' + 1) ∨ (b = true ∧ ∃ a' l, dig (ch tp nt a') ∧ a' ≤ nt ∧ PS c0 c' K a' ∧ PG d0 d' nt a' l) ∨ (b = false ∧ ∃ a' l, a' ≤ nt ∧ PQ c0 c' K a' ∧ PG d0 d' nt a' l)) := by
  have hn := H.1
  obtain ⟨s1, s2, s3, s4, s5⟩ := h
  have hm : P.length ≤ 60 := by omega
  unfold fX5_readLine fX12_line
  rw [s3, show (61 : Int32) + nI P.length = nI (61 + P.length) from nI_add 61 _, bnd_x, inB_t (show 61 + P.length < 122 by omega) (by omega), gd_true, bnd_x, nIc (by omega), s2.2.2.2.2.1, nar_s _ (by omega)]
  generalize hd1 : sI d 23 (61 + P.length) (nI (tkP P).length) = d1
  have p1 : PD d0 d1 a 0 (tkP P) := by rw [← hd1]; exact PD_ln s2 (by omega)
  have k22 : gI d1 22 1 = nI P.length := by rw [← hd1, gIp, if_neg (by omega)]; exact s3
  have k23 : gI d1 23 (61 + P.length) = nI (tkP P).length := by rw [← hd1, gIp, if_pos ⟨rfl, rfl⟩]
  have kfr : ∀ k i, (k = 23 ∨ k = 24) → i < 61 + (0 + P.length) → gI d1 k i = gI d k i := fun k i hk hi => by rw [← hd1, gIp, if_neg (by omega)]
  obtain ⟨b, c1, d2, e1, e2, e3, e4⟩ := topSM hn5 H c d1 a 0 (P.flatMap lnC) (tkP P) s1 p1 ha (by omega) (by omega)
  have e1' : fX5_readEither n c 0 = some (b, c1) := e1
  have e2' : fX12_either n d1 = some d2 := e2
  rw [e1', e2', Option.bind_some, Option.bind_some]
  rcases e4 with ⟨rfl, ts, a1, t1, t2, t3, t4, t5⟩ | ⟨rfl, a1, l, t1, t2, t3, t4, t5⟩ | ⟨rfl, a1, l, t2, t3, t4, t5⟩
  · have hts : 0 < ts.length := List.length_pos_iff.mpr (vx_ne t1)
    have k22' : gI d2 22 1 = nI P.length := by rw [e3 22 (by omega) (by omega)]; exact k22
    rw [if_bI, cond_true, if_neg (PD_f t5), d_look H t5.1 t5.2.1 t3, Option.bind_some]
    have ct := c_test H t4.1 t3 63 (by omega) ((fX5_add c1 (-20 : Int32)).bind (fun r5 => some (true, r5))) (bnd (sI c1 21 2 ((gI c1 21 2) + (1 : Int32))) (fun st11 => (fX5_add st11 (-19 : Int32)).bind (fun r13 => (fX5_readEither n r13 (0 : Int32)).bind (fun r15 => if bI r15.1 = 0 then (some (false, r15.2)) else ((fX5_add r15.2 (-20 : Int32)).bind (fun r18 => some (true, r18)))))))
    have ct' : (if gI c1 21 1 ≤ gI c1 21 2 then ((fX5_add c1 (-20 : Int32)).bind (fun r5 => some (true, r5))) else gd (inB (gI c1 21 2) 120) (if gI c1 22 (gI c1 21 2).toNatClampNeg = (63 : Int32) then (bnd (sI c1 21 2 ((gI c1 21 2) + (1 : Int32))) (fun st11 => (fX5_add st11 (-19 : Int32)).bind (fun r13 => (fX5_readEither n r13 (0 : Int32)).bind (fun r15 => if bI r15.1 = 0 then (some (false, r15.2)) else ((fX5_add r15.2 (-20 : Int32)).bind (fun r18 => some (true, r18))))))) else ((fX5_add c1 (-20 : Int32)).bind (fun r9 => some (true, r9))))) = if ch tp nt a1 = 63 then (bnd (sI c1 21 2 ((gI c1 21 2) + (1 : Int32))) (fun st11 => (fX5_add st11 (-19 : Int32)).bind (fun r13 => (fX5_readEither n r13 (0 : Int32)).bind (fun r15 => if bI r15.1 = 0 then (some (false, r15.2)) else ((fX5_add r15.2 (-20 : Int32)).bind (fun r18 => some (true, r18))))))) else ((fX5_add c1 (-20 : Int32)).bind (fun r5 => some (true, r5))) := ct
    rw [ct']
    by_cases z : ch tp nt a1 = 63
    · have hlt : a1 < nt := (ch_lt z (by omega)).1
      rw [if_pos z, if_pos (show lkv tp nt a1 = (63 : Int32) from (lkv_eq H a1 63 (by omega)).mpr z), bnd_x, bnd_x, t4.1.2, t5.2.1, nI_1, gd_true, bnd_x, gIp, if_neg (by omega), t5.2.2.2.2.1, nar_s _ (by simp only [List.length_append]; omega)]
      obtain ⟨c2, f1, f2⟩ := PC_add H (PC_adv H.2.1 t4) (by simp only [List.length_append, List.length_map]; omega) (-19)
      rw [f1, Option.bind_some]
      generalize hd3 : sI (sI d2 0 26 (nI (a1 + 1))) 23 (61 + P.length) (nI (tkP P ++ ts).length) = d3
      have p3 : PD d0 d3 (a1 + 1) 0 (tkP P ++ ts) := by rw [← hd3]; exact PD_ln (PD_adv t5) (by omega)
      have m22 : gI d3 22 1 = nI P.length := by rw [← hd3, gIp, if_neg (by omega), gIp, if_neg (by omega)]; exact k22'
      have m23 : gI d3 23 (61 + P.length) = nI (tkP P ++ ts).length := by rw [← hd3, gIp, if_pos ⟨rfl, rfl⟩]
      have mfr : ∀ k i, (k = 23 ∨ k = 24) → i < 61 + (0 + P.length) → gI d3 k i = gI d k i := fun k i hk hi => by
        rw [← hd3, gIp, if_neg (by omega), gIp, if_neg (by omega), e3 k (by omega) (by omega)]
        exact kfr k i hk hi
      obtain ⟨b2, c3, d4, g1, g2, g3, g4⟩ := topSM hn5 H c2 d3 (a1 + 1) 0 _ _ f2 p3 (by omega) (by simp only [List.length_append]; omega) (by simp only [List.length_append, List.length_map, List.length_cons, List.length_nil]; omega)
      have g1' : fX5_readEither n c2 0 = some (b2, c3) := g1
      have g2' : fX12_either n d3 = some d4 := g2
      rw [g1', g2', Option.bind_some, Option.bind_some]
      rcases g4 with ⟨rfl, us, a2, u1, u2, u3, u4, u5⟩ | ⟨rfl, a2, l, u1, u2, u3, u4, u5⟩ | ⟨rfl, a2, l, u2, u3, u4, u5⟩
      · have hus : 0 < us.length := List.length_pos_iff.mpr (vx_ne u1)
        obtain ⟨c4, w1, w2⟩ := PC_add H u4 (by simp only [List.length_append, List.length_map, List.length_cons, List.length_nil]; omega) (-20)
        obtain ⟨d5, x1, x2, x3, x4, x5, x6⟩ := l66_d (n := n) u5 hm (by rw [g3 22 (by omega) (by omega)]; exact m22) (by simp only [List.length_append]; omega)
        rw [if_bI, cond_true, w1, x1, Option.bind_some]
        have hflat : (P ++ [(ts, us)]).flatMap lnC = (P.flatMap lnC ++ ts.map sg ++ [-19] ++ us.map sg) ++ [-20] := by
          rw [List.flatMap_append]
          simp only [List.flatMap_cons, List.flatMap_nil, List.append_nil]
          unfold lnC
          rw [if_neg (vx_ne t1)]
          simp only [List.append_assoc]
        refine ⟨true, c4, d5, rfl, rfl, Or.inl ⟨rfl, (ts, us), a2, ⟨?_, ?_, ?_, ?_, ?_⟩, by omega, u3, ?_, ?_⟩⟩
        · rw [hflat]; exact w2
        · rw [tkP_s, ← List.append_assoc]; exact x2
        · rw [x4]; simp
        · refine LN_snoc P 0 0 (LN_fr P 0 0 s4 (fun k i hk hi => ?_)) ?_ ?_
          · rcases hk with rfl | rfl
            · rw [x5, g3 23 (by omega) (by omega)]; exact mfr 23 i (Or.inl rfl) hi
            · rw [x6 i (by omega), g3 24 (by omega) (by omega)]; exact mfr 24 i (Or.inr rfl) hi
          · rw [Nat.zero_add, x5, g3 23 (by omega) (by omega), m23]
            simp
          · rw [Nat.zero_add, x3]
            simp [Nat.add_assoc]
        · intro q hq
          rcases List.mem_append.mp hq with hq | hq
          · exact s5 q hq
          · rw [List.mem_singleton.mp hq]
            exact ⟨Or.inr (t1 0), u1 0⟩
        · rw [tkP_s]; simp only [List.length_append]; omega
        · rw [hflat]; simp only [List.length_append, List.length_map, List.length_cons, List.length_nil]; omega
      · obtain ⟨c4, w1, w2⟩ := PS_add H u3 (-20)
        obtain ⟨d5, x1, x2⟩ := l66_g (n := n) u4 hm
        rw [if_bI, cond_true, w1, x1, Option.bind_some]
        exact ⟨true, c4, d5, rfl, rfl, Or.inr (Or.inl ⟨rfl, a2, l, u1, u2, w2, x2⟩)⟩
      · obtain ⟨d5, x1, x2⟩ := l66_g (n := n) u4 hm
        rw [if_bI, cond_false, x1]
        exact ⟨false, c3, d5, rfl, rfl, Or.inr (Or.inr ⟨rfl, a2, l, u2, u3, x2⟩)⟩
    · obtain ⟨c4, w1, w2⟩ := PC_add H t4 (by simp only [List.length_append, List.length_map]; omega) (-20)
      obtain ⟨d5, x1, x2, x3, x4, x5, x6⟩ := l66_d (n := n) t5 hm k22' (by simp only [List.length_append]; omega)
      rw [if_neg z, if_neg (show ¬ lkv tp nt a1 = (63 : Int32) from fun y => z ((lkv_eq H a1 63 (by omega)).mp y)), w1, x1, Option.bind_some]
      have hflat : (P ++ [(([] : List Tk), ts)]).flatMap lnC = (P.flatMap lnC ++ ts.map sg) ++ [-20] := by
        rw [List.flatMap_append]
        simp only [List.flatMap_cons, List.flatMap_nil, List.append_nil]
        unfold lnC
        rw [if_pos rfl]
        simp only [List.append_assoc, List.map_nil, List.nil_append]
      refine ⟨true, c4, d5, rfl, rfl, Or.inl ⟨rfl, ([], ts), a1, ⟨?_, ?_, ?_, ?_, ?_⟩, by omega, t3, ?_, ?_⟩⟩
      · rw [hflat]; exact w2
      · rw [tkP_s, List.nil_append]; exact x2
      · rw [x4]; simp
      · refine LN_snoc P 0 0 (LN_fr P 0 0 s4 (fun k i hk hi => ?_)) ?_ ?_
        · rcases hk with rfl | rfl
          · rw [x5, e3 23 (by omega) (by omega)]; exact kfr 23 i (Or.inl rfl) hi
          · rw [x6 i (by omega), e3 24 (by omega) (by omega)]; exact kfr 24 i (Or.inr rfl) hi
        · rw [Nat.zero_add, x5, e3 23 (by omega) (by omega), k23]
          simp
        · rw [Nat.zero_add, x3]
          simp
      · intro q hq
        rcases List.mem_append.mp hq with hq | hq
        · exact s5 q hq
        · rw [List.mem_singleton.mp hq]
          exact ⟨Or.inl rfl, t1 0⟩
      · rw [tkP_s]; simp only [List.length_append, List.length_nil]; omega
      · rw [hflat]; simp only [List.length_append, List.length_map, List.length_cons, List.length_nil]; omega
  · obtain ⟨c4, w1, w2⟩ := PS_add H t3 (-20)
    obtain ⟨d5, x1, x2⟩ := l66_g (n := n) t4 hm
    have ct := c_test H t3.1 t2 63 (by omega) ((fX5_add c1 (-20 : Int32)).bind (fun r5 => some (true, r5))) (bnd (sI c1 21 2 ((gI c1 21 2) + (1 : Int32))) (fun st11 => (fX5_add st11 (-19 : Int32)).bind (fun r13 => (fX5_readEither n r13 (0 : Int32)).bind (fun r15 => if bI r15.1 = 0 then (some (false, r15.2)) else ((fX5_add r15.2 (-20 : Int32)).bind (fun r18 => some (true, r18)))))))
    rw [if_neg (show ¬ ch tp nt a1 = 63 by unfold dig at t1; omega), w1] at ct
    rw [if_bI, cond_true, if_pos (PG_f t4 (by omega)), x1]
    refine ⟨true, c4, d5, ?_, rfl, Or.inr (Or.inl ⟨rfl, a1, l, t1, t2, w2, x2⟩)⟩
    rw [w1]
    exact ct
  · obtain ⟨d5, x1, x2⟩ := l66_g (n := n) t4 hm
    rw [if_bI, cond_false, if_pos (PG_f t4 (by omega)), x1]
    exact ⟨false, c1, d5, rfl, rfl, Or.inr (Or.inr ⟨rfl, a1, l, t2, t3, x2⟩)⟩
