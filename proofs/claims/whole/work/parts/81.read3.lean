/-! numbers, names, what opens -/
theorem lkv_dig {c0 d0 : St} {K nt : Nat} {tp : Nat → Nat} (H : WP c0 d0 K nt tp) (a : Nat) : (48 ≤ lkv tp nt a ∧ lkv tp nt a ≤ 57) ↔ dig (ch tp nt a) := by
  unfold lkv ch dig
  by_cases z : a < nt
  · rw [if_pos z, if_pos z]
    rcases sb_s (tp a) (H.2.2.2.2.2 a z).1 with ⟨h1, h2⟩ | ⟨h1, h2⟩
    · rw [h2, show (48 : Int32) = nI 48 from rfl, show (57 : Int32) = nI 57 from rfl, nIle (by omega) (by omega), nIle (by omega) (by omega)]
    · refine ⟨fun q => absurd q.1 (fun w => fa_nle (i32_ltlt h2 (by decide)) w), fun q => by omega⟩
  · rw [if_neg z, if_neg z]
    exact ⟨fun q => absurd q.1 (by decide), fun q => by omega⟩
theorem dig_lt {nt a : Nat} {tp : Nat → Nat} (h : dig (ch tp nt a)) : a < nt ∧ 48 ≤ tp a ∧ tp a ≤ 57 := by
  unfold dig ch at h
  by_cases z : a < nt
  · rw [if_pos z] at h; exact ⟨z, h⟩
  · rw [if_neg z] at h; omega
theorem num_l {n : Nat} {c0 d0 : St} {K nt o : Nat} {tp : Nat → Nat} (H : WP c0 d0 K nt tp) : ∀ (r dg k : Nat) (c d : St) (a w : Nat) (CL : List Int32) (TL : List Tk), dg + r = 4 → r < k → PC c0 c K a CL → PD d0 d a o TL → a ≤ nt → w < 10 ^ dg → ∃ c' d' a' w' dg', fX5_readNumber_4 n k c (nI w) (nI dg) = fX5_add c' (nI w') ∧ PC c0 c' K a' CL ∧ fX12_figure_4 n k d (nI w) (nI dg) = fX12_figure_52 n d' (nI w') (nI dg') ∧ PD d0 d' a' o TL ∧ a' ≤ nt ∧ a + dg' = a' + dg ∧ dg ≤ dg' ∧ dg' ≤ 4 ∧ w' < 10 ^ dg' ∧ (dg' < 4 → ¬ dig (ch tp nt a')) ∧ rwL d d' ∧ (dig (ch tp nt a) → dg < 4 → dg < dg') := by
  have hn := H.1
  intro r
  induction r with
  | zero =>
    intro dg k c d a w CL TL hr hk hc hd ha hw
    obtain ⟨k, rfl⟩ : ∃ k', k = k' + 1 := ⟨k - 1, by omega⟩
    rw [fX5_readNumber_4, fX12_figure_4, if_pos (show (4 : Int32) ≤ nI dg from nI_le (a := 4) (by omega) (by omega)), if_pos (show (4 : Int32) ≤ nI dg from nI_le (a := 4) (by omega) (by omega)), some_eta1]
    exact ⟨c, d, a, w, dg, rfl, hc, rfl, hd, ha, rfl, by omega, by omega, hw, by omega, rwL_rf d, by omega⟩
  | succ r ih =>
    intro dg k c d a w CL TL hr hk hc hd ha hw
    obtain ⟨k, rfl⟩ : ∃ k', k = k' + 1 := ⟨k - 1, by omega⟩
    obtain ⟨l1, l2, l3⟩ := CB_len H hc.1.1
    rw [fX5_readNumber_4, fX12_figure_4, if_neg (show ¬ (4 : Int32) ≤ nI dg from nI_ge (b := 4) (by omega) (by omega)), if_neg (show ¬ (4 : Int32) ≤ nI dg from nI_ge (b := 4) (by omega) (by omega)), d_look H hd.1 hd.2.1 ha, Option.bind_some, isI, if_bI, Option.bind_some, l1, hc.1.2]
    simp only [some_eta1]
    by_cases z : dig (ch tp nt a)
    · obtain ⟨z1, z2, z3⟩ := dig_lt z
      have ht := (H.2.2.2.2.2 a z1).1
      have el : lkv tp nt a = nI (tp a) := (lkv_eq H a (tp a) (by omega)).mpr (by unfold ch; rw [if_pos z1])
      rw [decide_eq_true ((lkv_dig H a).mpr z), cond_true, if_neg (nI_ge z1 (by omega)), inB_t (show a < 120 by omega) (by omega)]
      simp only [gd_true, bnd_x, nIc (show a < 100000 by omega), l3 a z1, nI_1, hd.2.1, el]
      rw [if_neg (show ¬ nI (tp a) < 48 from nI_nlt (b := 48) z2 (by omega)), if_pos (show nI (tp a) ≤ 57 from nI_le (b := 57) z3 (by omega)), show (10 : Int32) * nI w + nI (tp a) - 48 = nI (10 * w + tp a - 48) by rw [show (10 : Int32) = nI 10 from rfl, pk_mul, nI_add, show (48 : Int32) = nI 48 from rfl, pk_sub (by omega)]]
      have hp : 10 ^ (dg + 1) = 10 ^ dg * 10 := Nat.pow_succ 10 dg
      obtain ⟨c', d', a', w', dg', u1, u2, u3, u4, u5, u6, u7, u8, u9, u10, u11, u12⟩ := ih (dg + 1) k _ _ (a + 1) (10 * w + tp a - 48) CL TL (by omega) (by omega) (PC_adv H.2.1 hc) (PD_adv hd) (by omega) (by omega)
      exact ⟨c', d', a', w', dg', u1, u2, u3, u4, u5, by omega, by omega, u8, u9, u10, rwL_tr (rwL_sI d 26 _ (by omega)) u11, fun _ _ => by omega⟩
    · rw [decide_eq_false (fun q => z ((lkv_dig H a).mp q)), cond_false]
      refine ⟨c, d, a, w, dg, ?_, hc, rfl, hd, ha, rfl, by omega, by omega, hw, fun _ => z, rwL_rf d, fun q => absurd q z⟩
      by_cases y : a < nt
      · have ht := (H.2.2.2.2.2 a y).1
        rw [if_neg (nI_ge y (by omega)), inB_t (show a < 120 by omega) (by omega), gd_true, gd_true, nIc (by omega), l3 a y]
        have hz : tp a < 48 ∨ 57 < tp a := by
          unfold dig ch at z
          rw [if_pos y] at z
          omega
        rcases hz with hz | hz
        · rw [if_pos (show nI (tp a) < 48 from nI_lt (b := 48) hz (by omega))]
        · rw [if_neg (show ¬ nI (tp a) < 48 from nI_nlt (b := 48) (by omega) (by omega)), if_neg (show ¬ nI (tp a) ≤ 57 from nI_ge (a := 57) hz (by omega))]
      · rw [if_pos (nI_le (by omega) (by omega))]
theorem d_fig0 {n : Nat} (hn5 : 5000 < n) {c0 d0 d : St} {K nt a o : Nat} {tp : Nat → Nat} {TL : List Tk} (H : WP c0 d0 K nt tp) (hd : PD d0 d a o TL) (ha : a ≤ nt) (hl : TL.length ≤ a) (hz : ¬ dig (ch tp nt a)) : ∃ d', fX12_figure n d = some d' ∧ PG d0 d' nt a (TL.length + 1) ∧ rwL d d' := by
  have hn := H.1
  obtain ⟨n', rfl⟩ : ∃ n', n = n' + 1 := ⟨n - 1, by omega⟩
  unfold fX12_figure
  rw [fX12_figure_4, if_neg (by decide), d_look H hd.1 hd.2.1 ha, Option.bind_some, isI, if_bI, decide_eq_false (fun q => hz ((lkv_dig H a).mp q)), cond_false]
  unfold fX12_figure_52
  obtain ⟨w1, w2⟩ := PD_wrong (nt := nt) hd ha
  obtain ⟨d', e1, e2, e3⟩ := PG_add w1 (by omega) 1 0
  rw [if_pos rfl, bnd_x, e1, Option.bind_some]
  exact ⟨d', rfl, e2, rwL_tr w2 e3⟩
def isNm (b : Nat) : Bool := b == 100 || b == 119 || b == 107 || b == 108 || b == 104 || b == 115
def nmi (b : Nat) : Nat := if b = 100 then 0 else if b = 119 then 1 else if b = 107 then 2 else if b = 108 then 3 else if b = 104 then 4 else 5
theorem nm_t : ∀ b, b < 256 → ((isNm b = true ∧ b < 128 ∧ 57 < b ∧ nmi b < 6 ∧ fX12_nameOf (sb b) = nI (nmi b) ∧ fX5_nameOf (nI b) = -1 - nI (nmi b) ∧ ¬ fX5_nameOf (nI b) = 0) ∨ (isNm b = false ∧ fX12_nameOf (sb b) = -1 ∧ fX5_nameOf (nI b) = 0)) := by decide +kernel
theorem bool_eta (X : Option (Bool × St)) : X.bind (fun r => if bI r.1 = 0 then some (false, r.2) else some (true, r.2)) = X := by
  cases X with
  | none => rfl
  | some p =>
    obtain ⟨b, s⟩ := p
    cases b <;> rfl
theorem PG_open {d0 d : St} {nt a l : Nat} {v : Int32} (h : PG d0 d nt a l) : PG d0 (sI d 0 28 v) nt a l := by
  obtain ⟨h1, h2, h3, p, h4, h5⟩ := h
  exact ⟨DB_sI0 h1 (by omega), by rw [gIp, if_neg (by omega)]; exact h2, by rw [gIp, if_neg (by omega)]; exact h3, p, h4, by rw [gIp, if_neg (by omega)]; exact h5⟩
theorem vd_1 {v : Int32} (hv : 0 ≤ v) : vx [(1, v)] := fun h => by
  rw [vd, if_pos rfl]
  exact ⟨hv, rfl⟩
theorem vd_2 {i : Nat} (hi : i < 6) : vx [(2, nI i)] := fun h => by
  rw [vd, if_neg (show ¬ 2 = 1 by decide), if_pos rfl]
  exact ⟨⟨i, hi, rfl⟩, rfl⟩
theorem vd_34 {ts : List Tk} {x : Nat} (hx : x = 3 ∨ x = 4) (h : vx ts) : vx (ts ++ [(x, 0)]) := fun g => by
  refine vd_app ts _ _ _ _ (h g) ?_
  rw [vd, if_neg (by show ¬ x = 1; omega), if_neg (by show ¬ x = 2; omega), if_pos hx]
  exact ⟨by omega, rfl⟩
/-- what opens, in the reference -/
theorem d_opens {d0 d : St} {a o : Nat} {TL : List Tk} (hd : PD d0 d a o TL) (ho : o < 6) : fX12_opens d = (true, sI (sI d 0 28 (nI (o + 1))) 0 26 (nI (a + 1))) := by
  unfold fX12_opens
  rw [hd.2.2.2.1, if_neg (show ¬ nI o = 6 from fun q => by rw [show (6 : Int32) = nI 6 from rfl, nIeq (by omega) (by omega)] at q; omega), bnd_x, bnd_x, nI_1, gIp, if_neg (by omega), hd.2.1, nI_1]
theorem d_opens6 {d0 d : St} {a : Nat} {TL : List Tk} (hd : PD d0 d a 6 TL) : fX12_opens d = (false, fX12_wrong d) := by
  unfold fX12_opens
  rw [hd.2.2.2.1, if_pos (show nI 6 = 6 from rfl), bnd_x]
/-- a sign ahead of an operand -/
theorem signSM {c0 d0 : St} {K nt o n : Nat} {tp : Nat → Nat} (H : WP c0 d0 K nt tp) (ho : o < 6) {rcE rcO : Nat → St → Int32 → Option (Bool × St)} {rcO' rcE' : Nat → St → Option St} (hs : SM c0 d0 K nt tp vx (fun c => rcO n c (nI (o + 1))) (fun d => rcO' n d) (o + 1)) {c d : St} {a q x t : Nat} {CL : List Int32} {TL : List Tk} (hx : (x = 33 ∧ t = 3) ∨ (x = 45 ∧ t = 4)) (hc : PC c0 c K a CL) (hd : PD d0 d a o TL) (ha : a < nt) (hT : TL.length + q ≤ a) (hC : CL.length + q ≤ a) : ∃ b c' d', fX5_readOpenedg rcE rcO n c (nI x) (nI o + 1) = some (b, c') ∧ fX12_operandg_46 rcO' rcE' n d (nI x) = some d' ∧ rwL d d' ∧ Out c0 d0 K nt tp vx a q o CL TL b c' d' := by
  have hn := H.1
  have hx40 : ¬ nI x = 40 := fun e => by rw [show (40 : Int32) = nI 40 from rfl, nIeq (by omega) (by omega)] at e; omega
  have esg : sg (t, 0) = if nI x = 33 then -17 else -18 := by
    rcases hx with ⟨rfl, rfl⟩ | ⟨rfl, rfl⟩ <;> decide
  obtain ⟨b, c1, d1, e1, e2, e3, e4⟩ := hs _ _ (a + 1) (q + 1) CL TL (PC_adv H.2.1 hc) (PD_adv (PD_open (p := o + 1) hd)) (by omega) (by omega) (by omega)
  have e1' : rcO n (sI c 21 2 (nI (a + 1))) (nI (o + 1)) = some (b, c1) := e1
  have e2' : rcO' n (sI (sI d 0 28 (nI (o + 1))) 0 26 (nI (a + 1))) = some d1 := e2
  have eD : fX12_operandg_46 rcO' rcE' n d (nI x) = (if nI x = 33 then ((fX12_addStep (sI d1 0 28 (gI d1 0 28 - 1)) (3 : Int32) (0 : Int32)).bind (fun r38 => some r38)) else ((fX12_addStep (sI d1 0 28 (gI d1 0 28 - 1)) (4 : Int32) (0 : Int32)).bind (fun r36 => some r36))) := by
    unfold fX12_operandg_46
    rw [bnd_x, d_opens hd ho, if_neg (show ¬ bI (true, sI (sI d 0 28 (nI (o + 1))) 0 26 (nI (a + 1))).1 = 0 from fun q => absurd q (by decide : ¬ (1 : Int32) = 0)), e2', Option.bind_some, bnd_x]
  rw [eD]
  unfold fX5_readOpenedg
  rw [bnd_x, if_neg hx40, hc.1.2, nI_1, nI_1, e1', Option.bind_some]
  have r0 : rwL d d1 := rwL_tr (rwL_tr (rwL_sI d 28 _ (by omega)) (rwL_sI _ 26 _ (by omega))) e3
  have hlay : ∀ (dd dx : St), fX12_addStep dd (nI t) 0 = some dx → (if nI x = 33 then ((fX12_addStep dd (3 : Int32) (0 : Int32)).bind (fun r38 => some r38)) else ((fX12_addStep dd (4 : Int32) (0 : Int32)).bind (fun r36 => some r36))) = some dx := fun dd dx e => by
    rcases hx with ⟨rfl, rfl⟩ | ⟨rfl, rfl⟩
    · rw [if_pos (show nI 33 = 33 from rfl), some_eta1]; exact e
    · rw [if_neg (show ¬ nI 45 = 33 by decide), some_eta1]; exact e
  have hadd : ∀ (cc cx : St), fX5_add cc (sg (t, 0)) = some cx → (if nI x = 33 then ((fX5_add cc (-17 : Int32)).bind (fun r10 => some (true, r10))) else ((fX5_add cc (-18 : Int32)).bind (fun r8 => some (true, r8)))) = some (true, cx) := fun cc cx e => by
    rw [esg] at e
    by_cases z : nI x = 33
    · rw [if_pos z] at e ⊢; rw [e]; rfl
    · rw [if_neg z] at e ⊢; rw [e]; rfl
  rcases e4 with ⟨rfl, ts, a', t1, t2, t3, t4, t5⟩ | ⟨rfl, a', l, t1, t2, t3, t4, t5⟩ | ⟨rfl, a', l, t2, t3, t4, t5⟩
  · obtain ⟨c2, f1, f2⟩ := PC_add H t4 (by simp only [List.length_append, List.length_map]; omega) (sg (t, 0))
    have t5' := PD_open (p := o) t5
    obtain ⟨d2, g1, g2, g3⟩ := PD_add t5' (by simp only [List.length_append]; omega) t (by omega) 0
    refine ⟨true, c2, d2, hadd c1 c2 f1, ?_, rwL_tr r0 (rwL_tr (rwL_sI d1 28 _ (by omega)) g3), Or.inl ⟨rfl, ts ++ [(t, 0)], a', vd_34 (by omega) t1, by simp only [List.length_append, List.length_cons, List.length_nil]; omega, t3, ?_, ?_⟩⟩
    · rw [t5.2.2.2.1, nI_s1]
      exact hlay _ d2 g1
    · rw [List.map_append, ← List.append_assoc]; exact f2
    · rw [← List.append_assoc]; exact g2
  · obtain ⟨c2, f1, f2⟩ := PS_add H t3 (sg (t, 0))
    obtain ⟨d2, g1, g2, g3⟩ := PG_add (PG_open (v := gI d1 0 28 - 1) t4) (by omega) (nI t) 0
    exact ⟨true, c2, d2, hadd c1 c2 f1, hlay _ d2 g1, rwL_tr r0 (rwL_tr (rwL_sI d1 28 _ (by omega)) g3), Or.inr (Or.inl ⟨rfl, a', l + 1, t1, t2, f2, g2, by omega⟩)⟩
  · obtain ⟨d2, g1, g2, g3⟩ := PG_add (PG_open (v := gI d1 0 28 - 1) t4) (by omega) (nI t) 0
    exact ⟨false, c1, d2, rfl, hlay _ d2 g1, rwL_tr r0 (rwL_tr (rwL_sI d1 28 _ (by omega)) g3), Or.inr (Or.inr ⟨rfl, a', l + 1, t2, t3, g2, by omega⟩)⟩
/-- brackets -/
theorem brackSM {c0 d0 : St} {K nt o n : Nat} {tp : Nat → Nat} (H : WP c0 d0 K nt tp) (ho : o < 6) {rcE rcO : Nat → St → Int32 → Option (Bool × St)} {rcE' : Nat → St → Option St} (hs : SM c0 d0 K nt tp vx (fun c => rcE n c (nI (o + 1))) (fun d => rcE' n d) (o + 1)) {c d : St} {a q : Nat} {CL : List Int32} {TL : List Tk} (hc : PC c0 c K a CL) (hd : PD d0 d a o TL) (ha : a < nt) (hT : TL.length + q ≤ a) (hC : CL.length + q ≤ a) : ∃ b c' d', fX5_readOpenedg rcE rcO n c 40 (nI o + 1) = some (b, c') ∧ (bnd (fX12_opens d) (fun r9 => if bI r9.1 = 0 then (some r9.2) else ((rcE' n r9.2).bind (fun r12 => if gI r12 0 27 < 0 then ((fX12_look r12).bind (fun r15 => if r15 = (41 : Int32) then (bnd (sI r12 0 26 ((gI r12 0 26) + (1 : Int32))) (fun st18 => bnd (sI st18 0 28 ((gI st18 0 28) - (1 : Int32))) (fun st20 => some st20))) else (bnd (fX12_wrong r12) (fun r22 => some r22)))) else (some r12))))) = some d' ∧ rwL d d' ∧ Out c0 d0 K nt tp vx a q o CL TL b c' d' := by
  have hn := H.1
  obtain ⟨b, c1, d1, e1, e2, e3, e4⟩ := hs _ _ (a + 1) q CL TL (PC_adv H.2.1 hc) (PD_adv (PD_open (p := o + 1) hd)) (by omega) (by omega) (by omega)
  have e1' : rcE n (sI c 21 2 (nI (a + 1))) (nI (o + 1)) = some (b, c1) := e1
  have e2' : rcE' n (sI (sI d 0 28 (nI (o + 1))) 0 26 (nI (a + 1))) = some d1 := e2
  have eD : (bnd (fX12_opens d) (fun r9 => if bI r9.1 = 0 then (some r9.2) else ((rcE' n r9.2).bind (fun r12 => if gI r12 0 27 < 0 then ((fX12_look r12).bind (fun r15 => if r15 = (41 : Int32) then (bnd (sI r12 0 26 ((gI r12 0 26) + (1 : Int32))) (fun st18 => bnd (sI st18 0 28 ((gI st18 0 28) - (1 : Int32))) (fun st20 => some st20))) else (bnd (fX12_wrong r12) (fun r22 => some r22)))) else (some r12))))) = (if gI d1 0 27 < 0 then ((fX12_look d1).bind (fun r15 => if r15 = (41 : Int32) then (bnd (sI d1 0 26 ((gI d1 0 26) + (1 : Int32))) (fun st18 => bnd (sI st18 0 28 ((gI st18 0 28) - (1 : Int32))) (fun st20 => some st20))) else (bnd (fX12_wrong d1) (fun r22 => some r22)))) else (some d1)) := by
    rw [bnd_x, d_opens hd ho, if_neg (show ¬ bI (true, sI (sI d 0 28 (nI (o + 1))) 0 26 (nI (a + 1))).1 = 0 from fun q => absurd q (by decide : ¬ (1 : Int32) = 0)), e2', Option.bind_some]
  rw [eD]
  unfold fX5_readOpenedg
  rw [bnd_x, if_pos rfl, hc.1.2, nI_1, nI_1, e1', Option.bind_some]
  have r0 : rwL d d1 := rwL_tr (rwL_tr (rwL_sI d 28 _ (by omega)) (rwL_sI _ 26 _ (by omega))) e3
  rcases e4 with ⟨rfl, ts, a', t1, t2, t3, t4, t5⟩ | ⟨rfl, a', l, t1, t2, t3, t4, t5⟩ | ⟨rfl, a', l, t2, t3, t4, t5⟩
  · have ct := c_test H t4.1 t3 41 (by omega) (some (false, c1)) (some (true, sI c1 21 2 (nI (a' + 1))))
    have ct' : (if gI c1 21 1 ≤ gI c1 21 2 then some (false, c1) else gd (inB (gI c1 21 2) 120) (if gI c1 22 (gI c1 21 2).toNatClampNeg = (41 : Int32) then (bnd (sI c1 21 2 (gI c1 21 2 + 1)) (fun st18 => some (true, st18))) else some (false, c1))) = if ch tp nt a' = 41 then some (true, sI c1 21 2 (nI (a' + 1))) else some (false, c1) := by
      rw [bnd_x, show gI c1 21 2 + 1 = nI (a' + 1) by rw [t4.1.2, nI_1]]
      exact ct
    rw [if_bI, cond_true, ct', if_pos (show gI d1 0 27 < 0 by rw [t5.2.2.1]; decide), d_look H t5.1 t5.2.1 t3, Option.bind_some]
    by_cases z : ch tp nt a' = 41
    · have hlt : a' < nt := by
        apply Classical.byContradiction
        intro y
        unfold ch at z
        rw [if_neg y] at z
        omega
      rw [if_pos z, if_pos (show lkv tp nt a' = (41 : Int32) from (lkv_eq H a' 41 (by omega)).mpr z), bnd_x, bnd_x, t5.2.1, nI_1, gIp, if_neg (by omega), t5.2.2.2.1, nI_s1]
      exact ⟨true, _, _, rfl, rfl, rwL_tr r0 (rwL_tr (rwL_sI d1 26 _ (by omega)) (rwL_sI _ 28 _ (by omega))), Or.inl ⟨rfl, ts, a' + 1, t1, by omega, by omega, PC_adv H.2.1 t4, PD_open (PD_adv t5)⟩⟩
    · obtain ⟨w1, w2⟩ := PD_wrong (nt := nt) t5 t3
      rw [if_neg z, if_neg (show ¬ lkv tp nt a' = (41 : Int32) from fun y => z ((lkv_eq H a' 41 (by omega)).mp y)), bnd_x]
      refine ⟨false, c1, _, rfl, rfl, rwL_tr r0 w2, Or.inr (Or.inr ⟨rfl, a', _, t3, t4.1, w1, ?_⟩)⟩
      simp only [List.length_append]
      omega
  · have ct := c_test H t3.1 t2 41 (by omega) (some (false, c1)) (some (true, sI c1 21 2 (nI (a' + 1))))
    have ct' : (if gI c1 21 1 ≤ gI c1 21 2 then some (false, c1) else gd (inB (gI c1 21 2) 120) (if gI c1 22 (gI c1 21 2).toNatClampNeg = (41 : Int32) then (bnd (sI c1 21 2 (gI c1 21 2 + 1)) (fun st18 => some (true, st18))) else some (false, c1))) = if ch tp nt a' = 41 then some (true, sI c1 21 2 (nI (a' + 1))) else some (false, c1) := by
      rw [bnd_x, show gI c1 21 2 + 1 = nI (a' + 1) by rw [t3.1.2, nI_1]]
      exact ct
    rw [if_bI, cond_true, ct', if_neg (fun q => by unfold dig at t1; omega), if_neg (fun q => fa_nle q (PG_f t4 (by omega)))]
    exact ⟨false, c1, d1, rfl, rfl, r0, Or.inr (Or.inr ⟨rfl, a', l, t2, t3.1, t4, t5⟩)⟩
  · rw [if_bI, cond_false, if_neg (fun q => fa_nle q (PG_f t4 (by omega)))]
    exact ⟨false, c1, d1, rfl, rfl, r0, Or.inr (Or.inr ⟨rfl, a', l, t2, t3, t4, t5⟩)⟩
